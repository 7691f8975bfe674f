theorem dX0_init_0 : decode cX0_init 0 = .ok (.aload_n 0, 1) := by decide +kernel
theorem dX0_init_1 : decode cX0_init 1 = .ok (.invokespecial 3, 3) := by decide +kernel
theorem dX0_init_4 : decode cX0_init 4 = .ok (.aload_n 0, 1) := by decide +kernel
theorem dX0_init_5 : decode cX0_init 5 = .ok (.bipush 6, 2) := by decide +kernel
theorem dX0_init_7 : decode cX0_init 7 = .ok (.newarray .int, 2) := by decide +kernel
theorem dX0_init_9 : decode cX0_init 9 = .ok (.putfield 9, 3) := by decide +kernel
theorem dX0_init_12 : decode cX0_init 12 = .ok (.aload_n 0, 1) := by decide +kernel
theorem dX0_init_13 : decode cX0_init 13 = .ok (.bipush 6, 2) := by decide +kernel
theorem dX0_init_15 : decode cX0_init 15 = .ok (.newarray .int, 2) := by decide +kernel
theorem dX0_init_17 : decode cX0_init 17 = .ok (.putfield 15, 3) := by decide +kernel
theorem dX0_init_20 : decode cX0_init 20 = .ok (.return_, 1) := by decide +kernel
theorem dX0_size_0 : decode cX0_size 0 = .ok (.aload_n 0, 1) := by decide +kernel
theorem dX0_size_1 : decode cX0_size 1 = .ok (.getfield 18, 3) := by decide +kernel
theorem dX0_size_4 : decode cX0_size 4 = .ok (.ireturn, 1) := by decide +kernel
theorem dX0_clear_0 : decode cX0_clear 0 = .ok (.aload_n 0, 1) := by decide +kernel
theorem dX0_clear_1 : decode cX0_clear 1 = .ok (.iconst 0, 1) := by decide +kernel
theorem dX0_clear_2 : decode cX0_clear 2 = .ok (.putfield 18, 3) := by decide +kernel
theorem dX0_clear_5 : decode cX0_clear 5 = .ok (.return_, 1) := by decide +kernel
theorem dX0_push_0 : decode cX0_push 0 = .ok (.aload_n 0, 1) := by decide +kernel
theorem dX0_push_1 : decode cX0_push 1 = .ok (.getfield 18, 3) := by decide +kernel
theorem dX0_push_4 : decode cX0_push 4 = .ok (.bipush 6, 2) := by decide +kernel
theorem dX0_push_6 : decode cX0_push 6 = .ok (.if_icmp .lt 7, 3) := by decide +kernel
theorem dX0_push_9 : decode cX0_push 9 = .ok (.aload_n 0, 1) := by decide +kernel
theorem dX0_push_10 : decode cX0_push 10 = .ok (.invokevirtual 22, 3) := by decide +kernel
theorem dX0_push_13 : decode cX0_push 13 = .ok (.aload_n 0, 1) := by decide +kernel
theorem dX0_push_14 : decode cX0_push 14 = .ok (.getfield 18, 3) := by decide +kernel
theorem dX0_push_17 : decode cX0_push 17 = .ok (.ifCond .lt 42, 3) := by decide +kernel
theorem dX0_push_20 : decode cX0_push 20 = .ok (.aload_n 0, 1) := by decide +kernel
theorem dX0_push_21 : decode cX0_push 21 = .ok (.getfield 18, 3) := by decide +kernel
theorem dX0_push_24 : decode cX0_push 24 = .ok (.bipush 6, 2) := by decide +kernel
theorem dX0_push_26 : decode cX0_push 26 = .ok (.if_icmp .ge 33, 3) := by decide +kernel
theorem dX0_push_29 : decode cX0_push 29 = .ok (.aload_n 0, 1) := by decide +kernel
theorem dX0_push_30 : decode cX0_push 30 = .ok (.getfield 9, 3) := by decide +kernel
theorem dX0_push_33 : decode cX0_push 33 = .ok (.aload_n 0, 1) := by decide +kernel
theorem dX0_push_34 : decode cX0_push 34 = .ok (.getfield 18, 3) := by decide +kernel
theorem dX0_push_37 : decode cX0_push 37 = .ok (.iload_n 1, 1) := by decide +kernel
theorem dX0_push_38 : decode cX0_push 38 = .ok (.iastore, 1) := by decide +kernel
theorem dX0_push_39 : decode cX0_push 39 = .ok (.aload_n 0, 1) := by decide +kernel
theorem dX0_push_40 : decode cX0_push 40 = .ok (.getfield 15, 3) := by decide +kernel
theorem dX0_push_43 : decode cX0_push 43 = .ok (.aload_n 0, 1) := by decide +kernel
theorem dX0_push_44 : decode cX0_push 44 = .ok (.getfield 18, 3) := by decide +kernel
theorem dX0_push_47 : decode cX0_push 47 = .ok (.iload_n 2, 1) := by decide +kernel
theorem dX0_push_48 : decode cX0_push 48 = .ok (.iastore, 1) := by decide +kernel
theorem dX0_push_49 : decode cX0_push 49 = .ok (.aload_n 0, 1) := by decide +kernel
theorem dX0_push_50 : decode cX0_push 50 = .ok (.dup, 1) := by decide +kernel
theorem dX0_push_51 : decode cX0_push 51 = .ok (.getfield 18, 3) := by decide +kernel
theorem dX0_push_54 : decode cX0_push 54 = .ok (.iconst 1, 1) := by decide +kernel
theorem dX0_push_55 : decode cX0_push 55 = .ok (.iadd, 1) := by decide +kernel
theorem dX0_push_56 : decode cX0_push 56 = .ok (.putfield 18, 3) := by decide +kernel
theorem dX0_push_59 : decode cX0_push 59 = .ok (.return_, 1) := by decide +kernel
theorem dX0_lastKind_0 : decode cX0_lastKind 0 = .ok (.aload_n 0, 1) := by decide +kernel
theorem dX0_lastKind_1 : decode cX0_lastKind 1 = .ok (.getfield 18, 3) := by decide +kernel
theorem dX0_lastKind_4 : decode cX0_lastKind 4 = .ok (.ifCond .le 26, 3) := by decide +kernel
theorem dX0_lastKind_7 : decode cX0_lastKind 7 = .ok (.aload_n 0, 1) := by decide +kernel
theorem dX0_lastKind_8 : decode cX0_lastKind 8 = .ok (.getfield 18, 3) := by decide +kernel
theorem dX0_lastKind_11 : decode cX0_lastKind 11 = .ok (.bipush 6, 2) := by decide +kernel
theorem dX0_lastKind_13 : decode cX0_lastKind 13 = .ok (.if_icmp .gt 17, 3) := by decide +kernel
theorem dX0_lastKind_16 : decode cX0_lastKind 16 = .ok (.aload_n 0, 1) := by decide +kernel
theorem dX0_lastKind_17 : decode cX0_lastKind 17 = .ok (.getfield 9, 3) := by decide +kernel
theorem dX0_lastKind_20 : decode cX0_lastKind 20 = .ok (.aload_n 0, 1) := by decide +kernel
theorem dX0_lastKind_21 : decode cX0_lastKind 21 = .ok (.getfield 18, 3) := by decide +kernel
theorem dX0_lastKind_24 : decode cX0_lastKind 24 = .ok (.iconst 1, 1) := by decide +kernel
theorem dX0_lastKind_25 : decode cX0_lastKind 25 = .ok (.isub, 1) := by decide +kernel
theorem dX0_lastKind_26 : decode cX0_lastKind 26 = .ok (.iaload, 1) := by decide +kernel
theorem dX0_lastKind_27 : decode cX0_lastKind 27 = .ok (.goto 5, 3) := by decide +kernel
theorem dX0_lastKind_30 : decode cX0_lastKind 30 = .ok (.bipush (-4), 2) := by decide +kernel
theorem dX0_lastKind_32 : decode cX0_lastKind 32 = .ok (.ireturn, 1) := by decide +kernel
theorem dX0_lastValue_0 : decode cX0_lastValue 0 = .ok (.aload_n 0, 1) := by decide +kernel
theorem dX0_lastValue_1 : decode cX0_lastValue 1 = .ok (.getfield 18, 3) := by decide +kernel
theorem dX0_lastValue_4 : decode cX0_lastValue 4 = .ok (.ifCond .le 26, 3) := by decide +kernel
theorem dX0_lastValue_7 : decode cX0_lastValue 7 = .ok (.aload_n 0, 1) := by decide +kernel
theorem dX0_lastValue_8 : decode cX0_lastValue 8 = .ok (.getfield 18, 3) := by decide +kernel
theorem dX0_lastValue_11 : decode cX0_lastValue 11 = .ok (.bipush 6, 2) := by decide +kernel
theorem dX0_lastValue_13 : decode cX0_lastValue 13 = .ok (.if_icmp .gt 17, 3) := by decide +kernel
theorem dX0_lastValue_16 : decode cX0_lastValue 16 = .ok (.aload_n 0, 1) := by decide +kernel
theorem dX0_lastValue_17 : decode cX0_lastValue 17 = .ok (.getfield 15, 3) := by decide +kernel
theorem dX0_lastValue_20 : decode cX0_lastValue 20 = .ok (.aload_n 0, 1) := by decide +kernel
theorem dX0_lastValue_21 : decode cX0_lastValue 21 = .ok (.getfield 18, 3) := by decide +kernel
theorem dX0_lastValue_24 : decode cX0_lastValue 24 = .ok (.iconst 1, 1) := by decide +kernel
theorem dX0_lastValue_25 : decode cX0_lastValue 25 = .ok (.isub, 1) := by decide +kernel
theorem dX0_lastValue_26 : decode cX0_lastValue 26 = .ok (.iaload, 1) := by decide +kernel
theorem dX0_lastValue_27 : decode cX0_lastValue 27 = .ok (.goto 5, 3) := by decide +kernel
theorem dX0_lastValue_30 : decode cX0_lastValue 30 = .ok (.bipush (-4), 2) := by decide +kernel
theorem dX0_lastValue_32 : decode cX0_lastValue 32 = .ok (.ireturn, 1) := by decide +kernel
theorem dX0_drop_0 : decode cX0_drop 0 = .ok (.aload_n 0, 1) := by decide +kernel
theorem dX0_drop_1 : decode cX0_drop 1 = .ok (.getfield 18, 3) := by decide +kernel
theorem dX0_drop_4 : decode cX0_drop 4 = .ok (.ifCond .le 13, 3) := by decide +kernel
theorem dX0_drop_7 : decode cX0_drop 7 = .ok (.aload_n 0, 1) := by decide +kernel
theorem dX0_drop_8 : decode cX0_drop 8 = .ok (.dup, 1) := by decide +kernel
theorem dX0_drop_9 : decode cX0_drop 9 = .ok (.getfield 18, 3) := by decide +kernel
theorem dX0_drop_12 : decode cX0_drop 12 = .ok (.iconst 1, 1) := by decide +kernel
theorem dX0_drop_13 : decode cX0_drop 13 = .ok (.isub, 1) := by decide +kernel
theorem dX0_drop_14 : decode cX0_drop 14 = .ok (.putfield 18, 3) := by decide +kernel
theorem dX0_drop_17 : decode cX0_drop 17 = .ok (.return_, 1) := by decide +kernel
theorem dX0_forgetOldest_0 : decode cX0_forgetOldest 0 = .ok (.iconst 1, 1) := by decide +kernel
theorem dX0_forgetOldest_1 : decode cX0_forgetOldest 1 = .ok (.istore_n 1, 1) := by decide +kernel
theorem dX0_forgetOldest_2 : decode cX0_forgetOldest 2 = .ok (.iload_n 1, 1) := by decide +kernel
theorem dX0_forgetOldest_3 : decode cX0_forgetOldest 3 = .ok (.bipush 6, 2) := by decide +kernel
theorem dX0_forgetOldest_5 : decode cX0_forgetOldest 5 = .ok (.if_icmp .ge 37, 3) := by decide +kernel
theorem dX0_forgetOldest_8 : decode cX0_forgetOldest 8 = .ok (.aload_n 0, 1) := by decide +kernel
theorem dX0_forgetOldest_9 : decode cX0_forgetOldest 9 = .ok (.getfield 9, 3) := by decide +kernel
theorem dX0_forgetOldest_12 : decode cX0_forgetOldest 12 = .ok (.iload_n 1, 1) := by decide +kernel
theorem dX0_forgetOldest_13 : decode cX0_forgetOldest 13 = .ok (.iconst 1, 1) := by decide +kernel
theorem dX0_forgetOldest_14 : decode cX0_forgetOldest 14 = .ok (.isub, 1) := by decide +kernel
theorem dX0_forgetOldest_15 : decode cX0_forgetOldest 15 = .ok (.aload_n 0, 1) := by decide +kernel
theorem dX0_forgetOldest_16 : decode cX0_forgetOldest 16 = .ok (.getfield 9, 3) := by decide +kernel
theorem dX0_forgetOldest_19 : decode cX0_forgetOldest 19 = .ok (.iload_n 1, 1) := by decide +kernel
theorem dX0_forgetOldest_20 : decode cX0_forgetOldest 20 = .ok (.iaload, 1) := by decide +kernel
theorem dX0_forgetOldest_21 : decode cX0_forgetOldest 21 = .ok (.iastore, 1) := by decide +kernel
theorem dX0_forgetOldest_22 : decode cX0_forgetOldest 22 = .ok (.aload_n 0, 1) := by decide +kernel
theorem dX0_forgetOldest_23 : decode cX0_forgetOldest 23 = .ok (.getfield 15, 3) := by decide +kernel
theorem dX0_forgetOldest_26 : decode cX0_forgetOldest 26 = .ok (.iload_n 1, 1) := by decide +kernel
theorem dX0_forgetOldest_27 : decode cX0_forgetOldest 27 = .ok (.iconst 1, 1) := by decide +kernel
theorem dX0_forgetOldest_28 : decode cX0_forgetOldest 28 = .ok (.isub, 1) := by decide +kernel
theorem dX0_forgetOldest_29 : decode cX0_forgetOldest 29 = .ok (.aload_n 0, 1) := by decide +kernel
theorem dX0_forgetOldest_30 : decode cX0_forgetOldest 30 = .ok (.getfield 15, 3) := by decide +kernel
theorem dX0_forgetOldest_33 : decode cX0_forgetOldest 33 = .ok (.iload_n 1, 1) := by decide +kernel
theorem dX0_forgetOldest_34 : decode cX0_forgetOldest 34 = .ok (.iaload, 1) := by decide +kernel
theorem dX0_forgetOldest_35 : decode cX0_forgetOldest 35 = .ok (.iastore, 1) := by decide +kernel
theorem dX0_forgetOldest_36 : decode cX0_forgetOldest 36 = .ok (.iinc 1 1, 3) := by decide +kernel
theorem dX0_forgetOldest_39 : decode cX0_forgetOldest 39 = .ok (.goto (-37), 3) := by decide +kernel
theorem dX0_forgetOldest_42 : decode cX0_forgetOldest 42 = .ok (.aload_n 0, 1) := by decide +kernel
theorem dX0_forgetOldest_43 : decode cX0_forgetOldest 43 = .ok (.iconst 5, 1) := by decide +kernel
theorem dX0_forgetOldest_44 : decode cX0_forgetOldest 44 = .ok (.putfield 18, 3) := by decide +kernel
theorem dX0_forgetOldest_47 : decode cX0_forgetOldest 47 = .ok (.return_, 1) := by decide +kernel
theorem dX1_init_0 : decode cX1_init 0 = .ok (.aload_n 0, 1) := by decide +kernel
theorem dX1_init_1 : decode cX1_init 1 = .ok (.invokespecial 3, 3) := by decide +kernel
theorem dX1_init_4 : decode cX1_init 4 = .ok (.aload_n 0, 1) := by decide +kernel
theorem dX1_init_5 : decode cX1_init 5 = .ok (.iload_n 1, 1) := by decide +kernel
theorem dX1_init_6 : decode cX1_init 6 = .ok (.iconst 0, 1) := by decide +kernel
theorem dX1_init_7 : decode cX1_init 7 = .ok (.invokestatic 9, 3) := by decide +kernel
theorem dX1_init_10 : decode cX1_init 10 = .ok (.newarray .char, 2) := by decide +kernel
theorem dX1_init_12 : decode cX1_init 12 = .ok (.putfield 15, 3) := by decide +kernel
theorem dX1_init_15 : decode cX1_init 15 = .ok (.return_, 1) := by decide +kernel
theorem dX1_size_0 : decode cX1_size 0 = .ok (.aload_n 0, 1) := by decide +kernel
theorem dX1_size_1 : decode cX1_size 1 = .ok (.getfield 21, 3) := by decide +kernel
theorem dX1_size_4 : decode cX1_size 4 = .ok (.ireturn, 1) := by decide +kernel
theorem dX1_isFull_0 : decode cX1_isFull 0 = .ok (.aload_n 0, 1) := by decide +kernel
theorem dX1_isFull_1 : decode cX1_isFull 1 = .ok (.getfield 21, 3) := by decide +kernel
theorem dX1_isFull_4 : decode cX1_isFull 4 = .ok (.aload_n 0, 1) := by decide +kernel
theorem dX1_isFull_5 : decode cX1_isFull 5 = .ok (.getfield 15, 3) := by decide +kernel
theorem dX1_isFull_8 : decode cX1_isFull 8 = .ok (.arraylength, 1) := by decide +kernel
theorem dX1_isFull_9 : decode cX1_isFull 9 = .ok (.if_icmp .lt 7, 3) := by decide +kernel
theorem dX1_isFull_12 : decode cX1_isFull 12 = .ok (.iconst 1, 1) := by decide +kernel
theorem dX1_isFull_13 : decode cX1_isFull 13 = .ok (.goto 4, 3) := by decide +kernel
theorem dX1_isFull_16 : decode cX1_isFull 16 = .ok (.iconst 0, 1) := by decide +kernel
theorem dX1_isFull_17 : decode cX1_isFull 17 = .ok (.ireturn, 1) := by decide +kernel
theorem dX1_clear_0 : decode cX1_clear 0 = .ok (.aload_n 0, 1) := by decide +kernel
theorem dX1_clear_1 : decode cX1_clear 1 = .ok (.iconst 0, 1) := by decide +kernel
theorem dX1_clear_2 : decode cX1_clear 2 = .ok (.putfield 21, 3) := by decide +kernel
theorem dX1_clear_5 : decode cX1_clear 5 = .ok (.return_, 1) := by decide +kernel
theorem dX1_put_0 : decode cX1_put 0 = .ok (.aload_n 0, 1) := by decide +kernel
theorem dX1_put_1 : decode cX1_put 1 = .ok (.getfield 21, 3) := by decide +kernel
theorem dX1_put_4 : decode cX1_put 4 = .ok (.ifCond .lt 35, 3) := by decide +kernel
theorem dX1_put_7 : decode cX1_put 7 = .ok (.aload_n 0, 1) := by decide +kernel
theorem dX1_put_8 : decode cX1_put 8 = .ok (.getfield 21, 3) := by decide +kernel
theorem dX1_put_11 : decode cX1_put 11 = .ok (.aload_n 0, 1) := by decide +kernel
theorem dX1_put_12 : decode cX1_put 12 = .ok (.getfield 15, 3) := by decide +kernel
theorem dX1_put_15 : decode cX1_put 15 = .ok (.arraylength, 1) := by decide +kernel
theorem dX1_put_16 : decode cX1_put 16 = .ok (.if_icmp .ge 23, 3) := by decide +kernel
theorem dX1_put_19 : decode cX1_put 19 = .ok (.aload_n 0, 1) := by decide +kernel
theorem dX1_put_20 : decode cX1_put 20 = .ok (.getfield 15, 3) := by decide +kernel
theorem dX1_put_23 : decode cX1_put 23 = .ok (.aload_n 0, 1) := by decide +kernel
theorem dX1_put_24 : decode cX1_put 24 = .ok (.getfield 21, 3) := by decide +kernel
theorem dX1_put_27 : decode cX1_put 27 = .ok (.iload_n 1, 1) := by decide +kernel
theorem dX1_put_28 : decode cX1_put 28 = .ok (.castore, 1) := by decide +kernel
theorem dX1_put_29 : decode cX1_put 29 = .ok (.aload_n 0, 1) := by decide +kernel
theorem dX1_put_30 : decode cX1_put 30 = .ok (.dup, 1) := by decide +kernel
theorem dX1_put_31 : decode cX1_put 31 = .ok (.getfield 21, 3) := by decide +kernel
theorem dX1_put_34 : decode cX1_put 34 = .ok (.iconst 1, 1) := by decide +kernel
theorem dX1_put_35 : decode cX1_put 35 = .ok (.iadd, 1) := by decide +kernel
theorem dX1_put_36 : decode cX1_put 36 = .ok (.putfield 21, 3) := by decide +kernel
theorem dX1_put_39 : decode cX1_put 39 = .ok (.return_, 1) := by decide +kernel
theorem dX1_at_0 : decode cX1_at 0 = .ok (.iload_n 1, 1) := by decide +kernel
theorem dX1_at_1 : decode cX1_at 1 = .ok (.ifCond .lt 29, 3) := by decide +kernel
theorem dX1_at_4 : decode cX1_at 4 = .ok (.iload_n 1, 1) := by decide +kernel
theorem dX1_at_5 : decode cX1_at 5 = .ok (.aload_n 0, 1) := by decide +kernel
theorem dX1_at_6 : decode cX1_at 6 = .ok (.getfield 21, 3) := by decide +kernel
theorem dX1_at_9 : decode cX1_at 9 = .ok (.if_icmp .ge 21, 3) := by decide +kernel
theorem dX1_at_12 : decode cX1_at 12 = .ok (.iload_n 1, 1) := by decide +kernel
theorem dX1_at_13 : decode cX1_at 13 = .ok (.aload_n 0, 1) := by decide +kernel
theorem dX1_at_14 : decode cX1_at 14 = .ok (.getfield 15, 3) := by decide +kernel
theorem dX1_at_17 : decode cX1_at 17 = .ok (.arraylength, 1) := by decide +kernel
theorem dX1_at_18 : decode cX1_at 18 = .ok (.if_icmp .ge 12, 3) := by decide +kernel
theorem dX1_at_21 : decode cX1_at 21 = .ok (.aload_n 0, 1) := by decide +kernel
theorem dX1_at_22 : decode cX1_at 22 = .ok (.getfield 15, 3) := by decide +kernel
theorem dX1_at_25 : decode cX1_at 25 = .ok (.iload_n 1, 1) := by decide +kernel
theorem dX1_at_26 : decode cX1_at 26 = .ok (.caload, 1) := by decide +kernel
theorem dX1_at_27 : decode cX1_at 27 = .ok (.goto 5, 3) := by decide +kernel
theorem dX1_at_30 : decode cX1_at 30 = .ok (.bipush (-4), 2) := by decide +kernel
theorem dX1_at_32 : decode cX1_at 32 = .ok (.ireturn, 1) := by decide +kernel
theorem dX1_find_0 : decode cX1_find 0 = .ok (.iload_n 2, 1) := by decide +kernel
theorem dX1_find_1 : decode cX1_find 1 = .ok (.iconst 0, 1) := by decide +kernel
theorem dX1_find_2 : decode cX1_find 2 = .ok (.invokestatic 9, 3) := by decide +kernel
theorem dX1_find_5 : decode cX1_find 5 = .ok (.istore_n 3, 1) := by decide +kernel
theorem dX1_find_6 : decode cX1_find 6 = .ok (.iload_n 3, 1) := by decide +kernel
theorem dX1_find_7 : decode cX1_find 7 = .ok (.aload_n 0, 1) := by decide +kernel
theorem dX1_find_8 : decode cX1_find 8 = .ok (.getfield 21, 3) := by decide +kernel
theorem dX1_find_11 : decode cX1_find 11 = .ok (.if_icmp .ge 20, 3) := by decide +kernel
theorem dX1_find_14 : decode cX1_find 14 = .ok (.aload_n 0, 1) := by decide +kernel
theorem dX1_find_15 : decode cX1_find 15 = .ok (.iload_n 3, 1) := by decide +kernel
theorem dX1_find_16 : decode cX1_find 16 = .ok (.invokevirtual 25, 3) := by decide +kernel
theorem dX1_find_19 : decode cX1_find 19 = .ok (.iload_n 1, 1) := by decide +kernel
theorem dX1_find_20 : decode cX1_find 20 = .ok (.if_icmp .ne 5, 3) := by decide +kernel
theorem dX1_find_23 : decode cX1_find 23 = .ok (.iload_n 3, 1) := by decide +kernel
theorem dX1_find_24 : decode cX1_find 24 = .ok (.ireturn, 1) := by decide +kernel
theorem dX1_find_25 : decode cX1_find 25 = .ok (.iinc 3 1, 3) := by decide +kernel
theorem dX1_find_28 : decode cX1_find 28 = .ok (.goto (-22), 3) := by decide +kernel
theorem dX1_find_31 : decode cX1_find 31 = .ok (.bipush (-4), 2) := by decide +kernel
theorem dX1_find_33 : decode cX1_find 33 = .ok (.ireturn, 1) := by decide +kernel
theorem dX1_become_0 : decode cX1_become 0 = .ok (.aload_n 0, 1) := by decide +kernel
theorem dX1_become_1 : decode cX1_become 1 = .ok (.invokevirtual 29, 3) := by decide +kernel
theorem dX1_become_4 : decode cX1_become 4 = .ok (.iload_n 2, 1) := by decide +kernel
theorem dX1_become_5 : decode cX1_become 5 = .ok (.iload_n 3, 1) := by decide +kernel
theorem dX1_become_6 : decode cX1_become 6 = .ok (.if_icmp .ge 14, 3) := by decide +kernel
theorem dX1_become_9 : decode cX1_become 9 = .ok (.iload_n 3, 1) := by decide +kernel
theorem dX1_become_10 : decode cX1_become 10 = .ok (.iload_n 2, 1) := by decide +kernel
theorem dX1_become_11 : decode cX1_become 11 = .ok (.isub, 1) := by decide +kernel
theorem dX1_become_12 : decode cX1_become 12 = .ok (.aload_n 0, 1) := by decide +kernel
theorem dX1_become_13 : decode cX1_become 13 = .ok (.getfield 15, 3) := by decide +kernel
theorem dX1_become_16 : decode cX1_become 16 = .ok (.arraylength, 1) := by decide +kernel
theorem dX1_become_17 : decode cX1_become 17 = .ok (.if_icmp .le 5, 3) := by decide +kernel
theorem dX1_become_20 : decode cX1_become 20 = .ok (.iconst 0, 1) := by decide +kernel
theorem dX1_become_21 : decode cX1_become 21 = .ok (.ireturn, 1) := by decide +kernel
theorem dX1_become_22 : decode cX1_become 22 = .ok (.iload_n 2, 1) := by decide +kernel
theorem dX1_become_23 : decode cX1_become 23 = .ok (.istore 4, 2) := by decide +kernel
theorem dX1_become_25 : decode cX1_become 25 = .ok (.iload 4, 2) := by decide +kernel
theorem dX1_become_27 : decode cX1_become 27 = .ok (.iload_n 3, 1) := by decide +kernel
theorem dX1_become_28 : decode cX1_become 28 = .ok (.if_icmp .ge 40, 3) := by decide +kernel
theorem dX1_become_31 : decode cX1_become 31 = .ok (.aload_n 1, 1) := by decide +kernel
theorem dX1_become_32 : decode cX1_become 32 = .ok (.iload 4, 2) := by decide +kernel
theorem dX1_become_34 : decode cX1_become 34 = .ok (.invokevirtual 25, 3) := by decide +kernel
theorem dX1_become_37 : decode cX1_become 37 = .ok (.istore 5, 2) := by decide +kernel
theorem dX1_become_39 : decode cX1_become 39 = .ok (.iload 5, 2) := by decide +kernel
theorem dX1_become_41 : decode cX1_become 41 = .ok (.bipush 97, 2) := by decide +kernel
theorem dX1_become_43 : decode cX1_become 43 = .ok (.if_icmp .lt 10, 3) := by decide +kernel
theorem dX1_become_46 : decode cX1_become 46 = .ok (.iload 5, 2) := by decide +kernel
theorem dX1_become_48 : decode cX1_become 48 = .ok (.bipush 122, 2) := by decide +kernel
theorem dX1_become_50 : decode cX1_become 50 = .ok (.if_icmp .le 5, 3) := by decide +kernel
theorem dX1_become_53 : decode cX1_become 53 = .ok (.iconst 0, 1) := by decide +kernel
theorem dX1_become_54 : decode cX1_become 54 = .ok (.ireturn, 1) := by decide +kernel
theorem dX1_become_55 : decode cX1_become 55 = .ok (.aload_n 0, 1) := by decide +kernel
theorem dX1_become_56 : decode cX1_become 56 = .ok (.iload 5, 2) := by decide +kernel
theorem dX1_become_58 : decode cX1_become 58 = .ok (.i2c, 1) := by decide +kernel
theorem dX1_become_59 : decode cX1_become 59 = .ok (.invokevirtual 32, 3) := by decide +kernel
theorem dX1_become_62 : decode cX1_become 62 = .ok (.iinc 4 1, 3) := by decide +kernel
theorem dX1_become_65 : decode cX1_become 65 = .ok (.goto (-40), 3) := by decide +kernel
theorem dX1_become_68 : decode cX1_become 68 = .ok (.iconst 1, 1) := by decide +kernel
theorem dX1_become_69 : decode cX1_become 69 = .ok (.ireturn, 1) := by decide +kernel
theorem dX1_isVowelAt_0 : decode cX1_isVowelAt 0 = .ok (.iload_n 1, 1) := by decide +kernel
theorem dX1_isVowelAt_1 : decode cX1_isVowelAt 1 = .ok (.ifCond .lt 20, 3) := by decide +kernel
theorem dX1_isVowelAt_4 : decode cX1_isVowelAt 4 = .ok (.iload_n 1, 1) := by decide +kernel
theorem dX1_isVowelAt_5 : decode cX1_isVowelAt 5 = .ok (.aload_n 0, 1) := by decide +kernel
theorem dX1_isVowelAt_6 : decode cX1_isVowelAt 6 = .ok (.getfield 21, 3) := by decide +kernel
theorem dX1_isVowelAt_9 : decode cX1_isVowelAt 9 = .ok (.if_icmp .ge 12, 3) := by decide +kernel
theorem dX1_isVowelAt_12 : decode cX1_isVowelAt 12 = .ok (.iload_n 1, 1) := by decide +kernel
theorem dX1_isVowelAt_13 : decode cX1_isVowelAt 13 = .ok (.aload_n 0, 1) := by decide +kernel
theorem dX1_isVowelAt_14 : decode cX1_isVowelAt 14 = .ok (.getfield 15, 3) := by decide +kernel
theorem dX1_isVowelAt_17 : decode cX1_isVowelAt 17 = .ok (.arraylength, 1) := by decide +kernel
theorem dX1_isVowelAt_18 : decode cX1_isVowelAt 18 = .ok (.if_icmp .lt 5, 3) := by decide +kernel
theorem dX1_isVowelAt_21 : decode cX1_isVowelAt 21 = .ok (.iconst 0, 1) := by decide +kernel
theorem dX1_isVowelAt_22 : decode cX1_isVowelAt 22 = .ok (.ireturn, 1) := by decide +kernel
theorem dX1_isVowelAt_23 : decode cX1_isVowelAt 23 = .ok (.aload_n 0, 1) := by decide +kernel
theorem dX1_isVowelAt_24 : decode cX1_isVowelAt 24 = .ok (.getfield 15, 3) := by decide +kernel
theorem dX1_isVowelAt_27 : decode cX1_isVowelAt 27 = .ok (.iload_n 1, 1) := by decide +kernel
theorem dX1_isVowelAt_28 : decode cX1_isVowelAt 28 = .ok (.caload, 1) := by decide +kernel
theorem dX1_isVowelAt_29 : decode cX1_isVowelAt 29 = .ok (.lookupswitch 53 #[(97, 51), (101, 51), (105, 51), (111, 51), (117, 51)], 51) := by decide +kernel
theorem dX1_isVowelAt_80 : decode cX1_isVowelAt 80 = .ok (.iconst 1, 1) := by decide +kernel
theorem dX1_isVowelAt_81 : decode cX1_isVowelAt 81 = .ok (.ireturn, 1) := by decide +kernel
theorem dX1_isVowelAt_82 : decode cX1_isVowelAt 82 = .ok (.iconst 0, 1) := by decide +kernel
theorem dX1_isVowelAt_83 : decode cX1_isVowelAt 83 = .ok (.ireturn, 1) := by decide +kernel
theorem dX1_vowels_0 : decode cX1_vowels 0 = .ok (.iconst 0, 1) := by decide +kernel
theorem dX1_vowels_1 : decode cX1_vowels 1 = .ok (.istore_n 1, 1) := by decide +kernel
theorem dX1_vowels_2 : decode cX1_vowels 2 = .ok (.iconst 0, 1) := by decide +kernel
theorem dX1_vowels_3 : decode cX1_vowels 3 = .ok (.istore_n 2, 1) := by decide +kernel
theorem dX1_vowels_4 : decode cX1_vowels 4 = .ok (.iload_n 2, 1) := by decide +kernel
theorem dX1_vowels_5 : decode cX1_vowels 5 = .ok (.aload_n 0, 1) := by decide +kernel
theorem dX1_vowels_6 : decode cX1_vowels 6 = .ok (.getfield 21, 3) := by decide +kernel
theorem dX1_vowels_9 : decode cX1_vowels 9 = .ok (.if_icmp .ge 20, 3) := by decide +kernel
theorem dX1_vowels_12 : decode cX1_vowels 12 = .ok (.aload_n 0, 1) := by decide +kernel
theorem dX1_vowels_13 : decode cX1_vowels 13 = .ok (.iload_n 2, 1) := by decide +kernel
theorem dX1_vowels_14 : decode cX1_vowels 14 = .ok (.invokevirtual 36, 3) := by decide +kernel
theorem dX1_vowels_17 : decode cX1_vowels 17 = .ok (.ifCond .eq 6, 3) := by decide +kernel
theorem dX1_vowels_20 : decode cX1_vowels 20 = .ok (.iinc 1 1, 3) := by decide +kernel
theorem dX1_vowels_23 : decode cX1_vowels 23 = .ok (.iinc 2 1, 3) := by decide +kernel
theorem dX1_vowels_26 : decode cX1_vowels 26 = .ok (.goto (-22), 3) := by decide +kernel
theorem dX1_vowels_29 : decode cX1_vowels 29 = .ok (.iload_n 1, 1) := by decide +kernel
theorem dX1_vowels_30 : decode cX1_vowels 30 = .ok (.ireturn, 1) := by decide +kernel
theorem dX1_hasAt_0 : decode cX1_hasAt 0 = .ok (.iload_n 1, 1) := by decide +kernel
theorem dX1_hasAt_1 : decode cX1_hasAt 1 = .ok (.ifCond .lt 16, 3) := by decide +kernel
theorem dX1_hasAt_4 : decode cX1_hasAt 4 = .ok (.aload_n 2, 1) := by decide +kernel
theorem dX1_hasAt_5 : decode cX1_hasAt 5 = .ok (.getfield 21, 3) := by decide +kernel
theorem dX1_hasAt_8 : decode cX1_hasAt 8 = .ok (.aload_n 0, 1) := by decide +kernel
theorem dX1_hasAt_9 : decode cX1_hasAt 9 = .ok (.getfield 21, 3) := by decide +kernel
theorem dX1_hasAt_12 : decode cX1_hasAt 12 = .ok (.iload_n 1, 1) := by decide +kernel
theorem dX1_hasAt_13 : decode cX1_hasAt 13 = .ok (.isub, 1) := by decide +kernel
theorem dX1_hasAt_14 : decode cX1_hasAt 14 = .ok (.if_icmp .le 5, 3) := by decide +kernel
theorem dX1_hasAt_17 : decode cX1_hasAt 17 = .ok (.iconst 0, 1) := by decide +kernel
theorem dX1_hasAt_18 : decode cX1_hasAt 18 = .ok (.ireturn, 1) := by decide +kernel
theorem dX1_hasAt_19 : decode cX1_hasAt 19 = .ok (.iconst 0, 1) := by decide +kernel
theorem dX1_hasAt_20 : decode cX1_hasAt 20 = .ok (.istore_n 3, 1) := by decide +kernel
theorem dX1_hasAt_21 : decode cX1_hasAt 21 = .ok (.iload_n 3, 1) := by decide +kernel
theorem dX1_hasAt_22 : decode cX1_hasAt 22 = .ok (.aload_n 2, 1) := by decide +kernel
theorem dX1_hasAt_23 : decode cX1_hasAt 23 = .ok (.getfield 21, 3) := by decide +kernel
theorem dX1_hasAt_26 : decode cX1_hasAt 26 = .ok (.if_icmp .ge 48, 3) := by decide +kernel
theorem dX1_hasAt_29 : decode cX1_hasAt 29 = .ok (.iload_n 3, 1) := by decide +kernel
theorem dX1_hasAt_30 : decode cX1_hasAt 30 = .ok (.aload_n 2, 1) := by decide +kernel
theorem dX1_hasAt_31 : decode cX1_hasAt 31 = .ok (.getfield 15, 3) := by decide +kernel
theorem dX1_hasAt_34 : decode cX1_hasAt 34 = .ok (.arraylength, 1) := by decide +kernel
theorem dX1_hasAt_35 : decode cX1_hasAt 35 = .ok (.if_icmp .ge 39, 3) := by decide +kernel
theorem dX1_hasAt_38 : decode cX1_hasAt 38 = .ok (.iload_n 1, 1) := by decide +kernel
theorem dX1_hasAt_39 : decode cX1_hasAt 39 = .ok (.iload_n 3, 1) := by decide +kernel
theorem dX1_hasAt_40 : decode cX1_hasAt 40 = .ok (.iadd, 1) := by decide +kernel
theorem dX1_hasAt_41 : decode cX1_hasAt 41 = .ok (.aload_n 0, 1) := by decide +kernel
theorem dX1_hasAt_42 : decode cX1_hasAt 42 = .ok (.getfield 15, 3) := by decide +kernel
theorem dX1_hasAt_45 : decode cX1_hasAt 45 = .ok (.arraylength, 1) := by decide +kernel
theorem dX1_hasAt_46 : decode cX1_hasAt 46 = .ok (.if_icmp .ge 28, 3) := by decide +kernel
theorem dX1_hasAt_49 : decode cX1_hasAt 49 = .ok (.aload_n 0, 1) := by decide +kernel
theorem dX1_hasAt_50 : decode cX1_hasAt 50 = .ok (.getfield 15, 3) := by decide +kernel
theorem dX1_hasAt_53 : decode cX1_hasAt 53 = .ok (.iload_n 1, 1) := by decide +kernel
theorem dX1_hasAt_54 : decode cX1_hasAt 54 = .ok (.iload_n 3, 1) := by decide +kernel
theorem dX1_hasAt_55 : decode cX1_hasAt 55 = .ok (.iadd, 1) := by decide +kernel
theorem dX1_hasAt_56 : decode cX1_hasAt 56 = .ok (.caload, 1) := by decide +kernel
theorem dX1_hasAt_57 : decode cX1_hasAt 57 = .ok (.aload_n 2, 1) := by decide +kernel
theorem dX1_hasAt_58 : decode cX1_hasAt 58 = .ok (.getfield 15, 3) := by decide +kernel
theorem dX1_hasAt_61 : decode cX1_hasAt 61 = .ok (.iload_n 3, 1) := by decide +kernel
theorem dX1_hasAt_62 : decode cX1_hasAt 62 = .ok (.caload, 1) := by decide +kernel
theorem dX1_hasAt_63 : decode cX1_hasAt 63 = .ok (.if_icmp .eq 5, 3) := by decide +kernel
theorem dX1_hasAt_66 : decode cX1_hasAt 66 = .ok (.iconst 0, 1) := by decide +kernel
theorem dX1_hasAt_67 : decode cX1_hasAt 67 = .ok (.ireturn, 1) := by decide +kernel
theorem dX1_hasAt_68 : decode cX1_hasAt 68 = .ok (.iinc 3 1, 3) := by decide +kernel
theorem dX1_hasAt_71 : decode cX1_hasAt 71 = .ok (.goto (-50), 3) := by decide +kernel
theorem dX1_hasAt_74 : decode cX1_hasAt 74 = .ok (.iconst 1, 1) := by decide +kernel
theorem dX1_hasAt_75 : decode cX1_hasAt 75 = .ok (.ireturn, 1) := by decide +kernel
theorem dX2_init_0 : decode cX2_init 0 = .ok (.aload_n 0, 1) := by decide +kernel
theorem dX2_init_1 : decode cX2_init 1 = .ok (.invokespecial 3, 3) := by decide +kernel
theorem dX2_init_4 : decode cX2_init 4 = .ok (.aload_n 0, 1) := by decide +kernel
theorem dX2_init_5 : decode cX2_init 5 = .ok (.bipush 12, 2) := by decide +kernel
theorem dX2_init_7 : decode cX2_init 7 = .ok (.anewarray 9, 3) := by decide +kernel
theorem dX2_init_10 : decode cX2_init 10 = .ok (.putfield 11, 3) := by decide +kernel
theorem dX2_init_13 : decode cX2_init 13 = .ok (.aload_n 0, 1) := by decide +kernel
theorem dX2_init_14 : decode cX2_init 14 = .ok (.bipush 8, 2) := by decide +kernel
theorem dX2_init_16 : decode cX2_init 16 = .ok (.anewarray 17, 3) := by decide +kernel
theorem dX2_init_19 : decode cX2_init 19 = .ok (.putfield 19, 3) := by decide +kernel
theorem dX2_init_22 : decode cX2_init 22 = .ok (.iconst 0, 1) := by decide +kernel
theorem dX2_init_23 : decode cX2_init 23 = .ok (.istore_n 1, 1) := by decide +kernel
theorem dX2_init_24 : decode cX2_init 24 = .ok (.iload_n 1, 1) := by decide +kernel
theorem dX2_init_25 : decode cX2_init 25 = .ok (.bipush 12, 2) := by decide +kernel
theorem dX2_init_27 : decode cX2_init 27 = .ok (.if_icmp .ge 22, 3) := by decide +kernel
theorem dX2_init_30 : decode cX2_init 30 = .ok (.aload_n 0, 1) := by decide +kernel
theorem dX2_init_31 : decode cX2_init 31 = .ok (.getfield 11, 3) := by decide +kernel
theorem dX2_init_34 : decode cX2_init 34 = .ok (.iload_n 1, 1) := by decide +kernel
theorem dX2_init_35 : decode cX2_init 35 = .ok (.new 9, 3) := by decide +kernel
theorem dX2_init_38 : decode cX2_init 38 = .ok (.dup, 1) := by decide +kernel
theorem dX2_init_39 : decode cX2_init 39 = .ok (.invokespecial 23, 3) := by decide +kernel
theorem dX2_init_42 : decode cX2_init 42 = .ok (.aastore, 1) := by decide +kernel
theorem dX2_init_43 : decode cX2_init 43 = .ok (.iinc 1 1, 3) := by decide +kernel
theorem dX2_init_46 : decode cX2_init 46 = .ok (.goto (-22), 3) := by decide +kernel
theorem dX2_init_49 : decode cX2_init 49 = .ok (.iconst 0, 1) := by decide +kernel
theorem dX2_init_50 : decode cX2_init 50 = .ok (.istore_n 1, 1) := by decide +kernel
theorem dX2_init_51 : decode cX2_init 51 = .ok (.iload_n 1, 1) := by decide +kernel
theorem dX2_init_52 : decode cX2_init 52 = .ok (.bipush 8, 2) := by decide +kernel
theorem dX2_init_54 : decode cX2_init 54 = .ok (.if_icmp .ge 22, 3) := by decide +kernel
theorem dX2_init_57 : decode cX2_init 57 = .ok (.aload_n 0, 1) := by decide +kernel
theorem dX2_init_58 : decode cX2_init 58 = .ok (.getfield 19, 3) := by decide +kernel
theorem dX2_init_61 : decode cX2_init 61 = .ok (.iload_n 1, 1) := by decide +kernel
theorem dX2_init_62 : decode cX2_init 62 = .ok (.new 17, 3) := by decide +kernel
theorem dX2_init_65 : decode cX2_init 65 = .ok (.dup, 1) := by decide +kernel
theorem dX2_init_66 : decode cX2_init 66 = .ok (.invokespecial 24, 3) := by decide +kernel
theorem dX2_init_69 : decode cX2_init 69 = .ok (.aastore, 1) := by decide +kernel
theorem dX2_init_70 : decode cX2_init 70 = .ok (.iinc 1 1, 3) := by decide +kernel
theorem dX2_init_73 : decode cX2_init 73 = .ok (.goto (-22), 3) := by decide +kernel
theorem dX2_init_76 : decode cX2_init 76 = .ok (.return_, 1) := by decide +kernel
theorem dX2_clear_0 : decode cX2_clear 0 = .ok (.aload_n 0, 1) := by decide +kernel
theorem dX2_clear_1 : decode cX2_clear 1 = .ok (.iconst 0, 1) := by decide +kernel
theorem dX2_clear_2 : decode cX2_clear 2 = .ok (.putfield 25, 3) := by decide +kernel
theorem dX2_clear_5 : decode cX2_clear 5 = .ok (.aload_n 0, 1) := by decide +kernel
theorem dX2_clear_6 : decode cX2_clear 6 = .ok (.iconst 0, 1) := by decide +kernel
theorem dX2_clear_7 : decode cX2_clear 7 = .ok (.putfield 29, 3) := by decide +kernel
theorem dX2_clear_10 : decode cX2_clear 10 = .ok (.aload_n 0, 1) := by decide +kernel
theorem dX2_clear_11 : decode cX2_clear 11 = .ok (.iconst 0, 1) := by decide +kernel
theorem dX2_clear_12 : decode cX2_clear 12 = .ok (.putfield 32, 3) := by decide +kernel
theorem dX2_clear_15 : decode cX2_clear 15 = .ok (.return_, 1) := by decide +kernel
theorem dX2_signAt_0 : decode cX2_signAt 0 = .ok (.iload_n 1, 1) := by decide +kernel
theorem dX2_signAt_1 : decode cX2_signAt 1 = .ok (.ifCond .lt 26, 3) := by decide +kernel
theorem dX2_signAt_4 : decode cX2_signAt 4 = .ok (.iload_n 1, 1) := by decide +kernel
theorem dX2_signAt_5 : decode cX2_signAt 5 = .ok (.aload_n 0, 1) := by decide +kernel
theorem dX2_signAt_6 : decode cX2_signAt 6 = .ok (.getfield 25, 3) := by decide +kernel
theorem dX2_signAt_9 : decode cX2_signAt 9 = .ok (.if_icmp .ge 18, 3) := by decide +kernel
theorem dX2_signAt_12 : decode cX2_signAt 12 = .ok (.iload_n 1, 1) := by decide +kernel
theorem dX2_signAt_13 : decode cX2_signAt 13 = .ok (.bipush 12, 2) := by decide +kernel
theorem dX2_signAt_15 : decode cX2_signAt 15 = .ok (.if_icmp .ge 12, 3) := by decide +kernel
theorem dX2_signAt_18 : decode cX2_signAt 18 = .ok (.aload_n 0, 1) := by decide +kernel
theorem dX2_signAt_19 : decode cX2_signAt 19 = .ok (.getfield 11, 3) := by decide +kernel
theorem dX2_signAt_22 : decode cX2_signAt 22 = .ok (.iload_n 1, 1) := by decide +kernel
theorem dX2_signAt_23 : decode cX2_signAt 23 = .ok (.aaload, 1) := by decide +kernel
theorem dX2_signAt_24 : decode cX2_signAt 24 = .ok (.goto 4, 3) := by decide +kernel
theorem dX2_signAt_27 : decode cX2_signAt 27 = .ok (.aconst_null, 1) := by decide +kernel
theorem dX2_signAt_28 : decode cX2_signAt 28 = .ok (.areturn, 1) := by decide +kernel
theorem dX2_wordAt_0 : decode cX2_wordAt 0 = .ok (.iload_n 1, 1) := by decide +kernel
theorem dX2_wordAt_1 : decode cX2_wordAt 1 = .ok (.ifCond .lt 26, 3) := by decide +kernel
theorem dX2_wordAt_4 : decode cX2_wordAt 4 = .ok (.iload_n 1, 1) := by decide +kernel
theorem dX2_wordAt_5 : decode cX2_wordAt 5 = .ok (.aload_n 0, 1) := by decide +kernel
theorem dX2_wordAt_6 : decode cX2_wordAt 6 = .ok (.getfield 29, 3) := by decide +kernel
theorem dX2_wordAt_9 : decode cX2_wordAt 9 = .ok (.if_icmp .ge 18, 3) := by decide +kernel
theorem dX2_wordAt_12 : decode cX2_wordAt 12 = .ok (.iload_n 1, 1) := by decide +kernel
theorem dX2_wordAt_13 : decode cX2_wordAt 13 = .ok (.bipush 8, 2) := by decide +kernel
theorem dX2_wordAt_15 : decode cX2_wordAt 15 = .ok (.if_icmp .ge 12, 3) := by decide +kernel
theorem dX2_wordAt_18 : decode cX2_wordAt 18 = .ok (.aload_n 0, 1) := by decide +kernel
theorem dX2_wordAt_19 : decode cX2_wordAt 19 = .ok (.getfield 19, 3) := by decide +kernel
theorem dX2_wordAt_22 : decode cX2_wordAt 22 = .ok (.iload_n 1, 1) := by decide +kernel
theorem dX2_wordAt_23 : decode cX2_wordAt 23 = .ok (.aaload, 1) := by decide +kernel
theorem dX2_wordAt_24 : decode cX2_wordAt 24 = .ok (.goto 4, 3) := by decide +kernel
theorem dX2_wordAt_27 : decode cX2_wordAt 27 = .ok (.aconst_null, 1) := by decide +kernel
theorem dX2_wordAt_28 : decode cX2_wordAt 28 = .ok (.areturn, 1) := by decide +kernel
theorem dX2_nextSign_0 : decode cX2_nextSign 0 = .ok (.aload_n 0, 1) := by decide +kernel
theorem dX2_nextSign_1 : decode cX2_nextSign 1 = .ok (.getfield 25, 3) := by decide +kernel
theorem dX2_nextSign_4 : decode cX2_nextSign 4 = .ok (.ifCond .lt 24, 3) := by decide +kernel
theorem dX2_nextSign_7 : decode cX2_nextSign 7 = .ok (.aload_n 0, 1) := by decide +kernel
theorem dX2_nextSign_8 : decode cX2_nextSign 8 = .ok (.getfield 25, 3) := by decide +kernel
theorem dX2_nextSign_11 : decode cX2_nextSign 11 = .ok (.bipush 12, 2) := by decide +kernel
theorem dX2_nextSign_13 : decode cX2_nextSign 13 = .ok (.if_icmp .ge 15, 3) := by decide +kernel
theorem dX2_nextSign_16 : decode cX2_nextSign 16 = .ok (.aload_n 0, 1) := by decide +kernel
theorem dX2_nextSign_17 : decode cX2_nextSign 17 = .ok (.getfield 11, 3) := by decide +kernel
theorem dX2_nextSign_20 : decode cX2_nextSign 20 = .ok (.aload_n 0, 1) := by decide +kernel
theorem dX2_nextSign_21 : decode cX2_nextSign 21 = .ok (.getfield 25, 3) := by decide +kernel
theorem dX2_nextSign_24 : decode cX2_nextSign 24 = .ok (.aaload, 1) := by decide +kernel
theorem dX2_nextSign_25 : decode cX2_nextSign 25 = .ok (.goto 4, 3) := by decide +kernel
theorem dX2_nextSign_28 : decode cX2_nextSign 28 = .ok (.aconst_null, 1) := by decide +kernel
theorem dX2_nextSign_29 : decode cX2_nextSign 29 = .ok (.areturn, 1) := by decide +kernel
theorem dX2_nextWord_0 : decode cX2_nextWord 0 = .ok (.aload_n 0, 1) := by decide +kernel
theorem dX2_nextWord_1 : decode cX2_nextWord 1 = .ok (.getfield 29, 3) := by decide +kernel
theorem dX2_nextWord_4 : decode cX2_nextWord 4 = .ok (.ifCond .lt 24, 3) := by decide +kernel
theorem dX2_nextWord_7 : decode cX2_nextWord 7 = .ok (.aload_n 0, 1) := by decide +kernel
theorem dX2_nextWord_8 : decode cX2_nextWord 8 = .ok (.getfield 29, 3) := by decide +kernel
theorem dX2_nextWord_11 : decode cX2_nextWord 11 = .ok (.bipush 8, 2) := by decide +kernel
theorem dX2_nextWord_13 : decode cX2_nextWord 13 = .ok (.if_icmp .ge 15, 3) := by decide +kernel
theorem dX2_nextWord_16 : decode cX2_nextWord 16 = .ok (.aload_n 0, 1) := by decide +kernel
theorem dX2_nextWord_17 : decode cX2_nextWord 17 = .ok (.getfield 19, 3) := by decide +kernel
theorem dX2_nextWord_20 : decode cX2_nextWord 20 = .ok (.aload_n 0, 1) := by decide +kernel
theorem dX2_nextWord_21 : decode cX2_nextWord 21 = .ok (.getfield 29, 3) := by decide +kernel
theorem dX2_nextWord_24 : decode cX2_nextWord 24 = .ok (.aaload, 1) := by decide +kernel
theorem dX2_nextWord_25 : decode cX2_nextWord 25 = .ok (.goto 4, 3) := by decide +kernel
theorem dX2_nextWord_28 : decode cX2_nextWord 28 = .ok (.aconst_null, 1) := by decide +kernel
theorem dX2_nextWord_29 : decode cX2_nextWord 29 = .ok (.areturn, 1) := by decide +kernel
theorem dX2_wordOf_0 : decode cX2_wordOf 0 = .ok (.iconst 0, 1) := by decide +kernel
theorem dX2_wordOf_1 : decode cX2_wordOf 1 = .ok (.istore_n 3, 1) := by decide +kernel
theorem dX2_wordOf_2 : decode cX2_wordOf 2 = .ok (.iload_n 3, 1) := by decide +kernel
theorem dX2_wordOf_3 : decode cX2_wordOf 3 = .ok (.aload_n 0, 1) := by decide +kernel
theorem dX2_wordOf_4 : decode cX2_wordOf 4 = .ok (.getfield 29, 3) := by decide +kernel
theorem dX2_wordOf_7 : decode cX2_wordOf 7 = .ok (.if_icmp .ge 63, 3) := by decide +kernel
theorem dX2_wordOf_10 : decode cX2_wordOf 10 = .ok (.aload_n 0, 1) := by decide +kernel
theorem dX2_wordOf_11 : decode cX2_wordOf 11 = .ok (.iload_n 3, 1) := by decide +kernel
theorem dX2_wordOf_12 : decode cX2_wordOf 12 = .ok (.invokevirtual 36, 3) := by decide +kernel
theorem dX2_wordOf_15 : decode cX2_wordOf 15 = .ok (.astore 4, 2) := by decide +kernel
theorem dX2_wordOf_17 : decode cX2_wordOf 17 = .ok (.aload 4, 2) := by decide +kernel
theorem dX2_wordOf_19 : decode cX2_wordOf 19 = .ok (.ifnull 45, 3) := by decide +kernel
theorem dX2_wordOf_22 : decode cX2_wordOf 22 = .ok (.aload 4, 2) := by decide +kernel
theorem dX2_wordOf_24 : decode cX2_wordOf 24 = .ok (.getfield 40, 3) := by decide +kernel
theorem dX2_wordOf_27 : decode cX2_wordOf 27 = .ok (.iload_n 1, 1) := by decide +kernel
theorem dX2_wordOf_28 : decode cX2_wordOf 28 = .ok (.if_icmp .ne 36, 3) := by decide +kernel
theorem dX2_wordOf_31 : decode cX2_wordOf 31 = .ok (.aload 4, 2) := by decide +kernel
theorem dX2_wordOf_33 : decode cX2_wordOf 33 = .ok (.getfield 43, 3) := by decide +kernel
theorem dX2_wordOf_36 : decode cX2_wordOf 36 = .ok (.invokevirtual 47, 3) := by decide +kernel
theorem dX2_wordOf_39 : decode cX2_wordOf 39 = .ok (.aload_n 2, 1) := by decide +kernel
theorem dX2_wordOf_40 : decode cX2_wordOf 40 = .ok (.invokevirtual 47, 3) := by decide +kernel
theorem dX2_wordOf_43 : decode cX2_wordOf 43 = .ok (.if_icmp .eq 6, 3) := by decide +kernel
theorem dX2_wordOf_46 : decode cX2_wordOf 46 = .ok (.goto 18, 3) := by decide +kernel
theorem dX2_wordOf_49 : decode cX2_wordOf 49 = .ok (.aload 4, 2) := by decide +kernel
theorem dX2_wordOf_51 : decode cX2_wordOf 51 = .ok (.getfield 43, 3) := by decide +kernel
theorem dX2_wordOf_54 : decode cX2_wordOf 54 = .ok (.iconst 0, 1) := by decide +kernel
theorem dX2_wordOf_55 : decode cX2_wordOf 55 = .ok (.aload_n 2, 1) := by decide +kernel
theorem dX2_wordOf_56 : decode cX2_wordOf 56 = .ok (.invokevirtual 53, 3) := by decide +kernel
theorem dX2_wordOf_59 : decode cX2_wordOf 59 = .ok (.ifCond .eq 5, 3) := by decide +kernel
theorem dX2_wordOf_62 : decode cX2_wordOf 62 = .ok (.iload_n 3, 1) := by decide +kernel
theorem dX2_wordOf_63 : decode cX2_wordOf 63 = .ok (.ireturn, 1) := by decide +kernel
theorem dX2_wordOf_64 : decode cX2_wordOf 64 = .ok (.iinc 3 1, 3) := by decide +kernel
theorem dX2_wordOf_67 : decode cX2_wordOf 67 = .ok (.goto (-65), 3) := by decide +kernel
theorem dX2_wordOf_70 : decode cX2_wordOf 70 = .ok (.bipush (-4), 2) := by decide +kernel
theorem dX2_wordOf_72 : decode cX2_wordOf 72 = .ok (.ireturn, 1) := by decide +kernel
theorem dX2_struckSigns_0 : decode cX2_struckSigns 0 = .ok (.iconst 0, 1) := by decide +kernel
theorem dX2_struckSigns_1 : decode cX2_struckSigns 1 = .ok (.istore_n 1, 1) := by decide +kernel
theorem dX2_struckSigns_2 : decode cX2_struckSigns 2 = .ok (.iconst 0, 1) := by decide +kernel
theorem dX2_struckSigns_3 : decode cX2_struckSigns 3 = .ok (.istore_n 2, 1) := by decide +kernel
theorem dX2_struckSigns_4 : decode cX2_struckSigns 4 = .ok (.iload_n 2, 1) := by decide +kernel
theorem dX2_struckSigns_5 : decode cX2_struckSigns 5 = .ok (.aload_n 0, 1) := by decide +kernel
theorem dX2_struckSigns_6 : decode cX2_struckSigns 6 = .ok (.getfield 25, 3) := by decide +kernel
theorem dX2_struckSigns_9 : decode cX2_struckSigns 9 = .ok (.if_icmp .ge 29, 3) := by decide +kernel
theorem dX2_struckSigns_12 : decode cX2_struckSigns 12 = .ok (.aload_n 0, 1) := by decide +kernel
theorem dX2_struckSigns_13 : decode cX2_struckSigns 13 = .ok (.iload_n 2, 1) := by decide +kernel
theorem dX2_struckSigns_14 : decode cX2_struckSigns 14 = .ok (.invokevirtual 57, 3) := by decide +kernel
theorem dX2_struckSigns_17 : decode cX2_struckSigns 17 = .ok (.astore_n 3, 1) := by decide +kernel
theorem dX2_struckSigns_18 : decode cX2_struckSigns 18 = .ok (.aload_n 3, 1) := by decide +kernel
theorem dX2_struckSigns_19 : decode cX2_struckSigns 19 = .ok (.ifnull 13, 3) := by decide +kernel
theorem dX2_struckSigns_22 : decode cX2_struckSigns 22 = .ok (.aload_n 3, 1) := by decide +kernel
theorem dX2_struckSigns_23 : decode cX2_struckSigns 23 = .ok (.getfield 61, 3) := by decide +kernel
theorem dX2_struckSigns_26 : decode cX2_struckSigns 26 = .ok (.ifCond .eq 6, 3) := by decide +kernel
theorem dX2_struckSigns_29 : decode cX2_struckSigns 29 = .ok (.iinc 1 1, 3) := by decide +kernel
theorem dX2_struckSigns_32 : decode cX2_struckSigns 32 = .ok (.iinc 2 1, 3) := by decide +kernel
theorem dX2_struckSigns_35 : decode cX2_struckSigns 35 = .ok (.goto (-31), 3) := by decide +kernel
theorem dX2_struckSigns_38 : decode cX2_struckSigns 38 = .ok (.iload_n 1, 1) := by decide +kernel
theorem dX2_struckSigns_39 : decode cX2_struckSigns 39 = .ok (.ireturn, 1) := by decide +kernel
theorem dX2_lowestMark_0 : decode cX2_lowestMark 0 = .ok (.iconst 0, 1) := by decide +kernel
theorem dX2_lowestMark_1 : decode cX2_lowestMark 1 = .ok (.istore_n 2, 1) := by decide +kernel
theorem dX2_lowestMark_2 : decode cX2_lowestMark 2 = .ok (.iload_n 2, 1) := by decide +kernel
theorem dX2_lowestMark_3 : decode cX2_lowestMark 3 = .ok (.aload_n 0, 1) := by decide +kernel
theorem dX2_lowestMark_4 : decode cX2_lowestMark 4 = .ok (.getfield 25, 3) := by decide +kernel
theorem dX2_lowestMark_7 : decode cX2_lowestMark 7 = .ok (.if_icmp .ge 24, 3) := by decide +kernel
theorem dX2_lowestMark_10 : decode cX2_lowestMark 10 = .ok (.aload_n 0, 1) := by decide +kernel
theorem dX2_lowestMark_11 : decode cX2_lowestMark 11 = .ok (.aload_n 0, 1) := by decide +kernel
theorem dX2_lowestMark_12 : decode cX2_lowestMark 12 = .ok (.iload_n 2, 1) := by decide +kernel
theorem dX2_lowestMark_13 : decode cX2_lowestMark 13 = .ok (.invokevirtual 57, 3) := by decide +kernel
theorem dX2_lowestMark_16 : decode cX2_lowestMark 16 = .ok (.iload_n 1, 1) := by decide +kernel
theorem dX2_lowestMark_17 : decode cX2_lowestMark 17 = .ok (.invokevirtual 64, 3) := by decide +kernel
theorem dX2_lowestMark_20 : decode cX2_lowestMark 20 = .ok (.ifCond .eq 5, 3) := by decide +kernel
theorem dX2_lowestMark_23 : decode cX2_lowestMark 23 = .ok (.iload_n 2, 1) := by decide +kernel
theorem dX2_lowestMark_24 : decode cX2_lowestMark 24 = .ok (.ireturn, 1) := by decide +kernel
theorem dX2_lowestMark_25 : decode cX2_lowestMark 25 = .ok (.iinc 2 1, 3) := by decide +kernel
theorem dX2_lowestMark_28 : decode cX2_lowestMark 28 = .ok (.goto (-26), 3) := by decide +kernel
theorem dX2_lowestMark_31 : decode cX2_lowestMark 31 = .ok (.bipush (-4), 2) := by decide +kernel
theorem dX2_lowestMark_33 : decode cX2_lowestMark 33 = .ok (.ireturn, 1) := by decide +kernel
theorem dX2_marksOf_0 : decode cX2_marksOf 0 = .ok (.iconst 0, 1) := by decide +kernel
theorem dX2_marksOf_1 : decode cX2_marksOf 1 = .ok (.istore_n 2, 1) := by decide +kernel
theorem dX2_marksOf_2 : decode cX2_marksOf 2 = .ok (.iconst 0, 1) := by decide +kernel
theorem dX2_marksOf_3 : decode cX2_marksOf 3 = .ok (.istore_n 3, 1) := by decide +kernel
theorem dX2_marksOf_4 : decode cX2_marksOf 4 = .ok (.iload_n 3, 1) := by decide +kernel
theorem dX2_marksOf_5 : decode cX2_marksOf 5 = .ok (.aload_n 0, 1) := by decide +kernel
theorem dX2_marksOf_6 : decode cX2_marksOf 6 = .ok (.getfield 25, 3) := by decide +kernel
theorem dX2_marksOf_9 : decode cX2_marksOf 9 = .ok (.if_icmp .ge 25, 3) := by decide +kernel
theorem dX2_marksOf_12 : decode cX2_marksOf 12 = .ok (.aload_n 0, 1) := by decide +kernel
theorem dX2_marksOf_13 : decode cX2_marksOf 13 = .ok (.aload_n 0, 1) := by decide +kernel
theorem dX2_marksOf_14 : decode cX2_marksOf 14 = .ok (.iload_n 3, 1) := by decide +kernel
theorem dX2_marksOf_15 : decode cX2_marksOf 15 = .ok (.invokevirtual 57, 3) := by decide +kernel
theorem dX2_marksOf_18 : decode cX2_marksOf 18 = .ok (.iload_n 1, 1) := by decide +kernel
theorem dX2_marksOf_19 : decode cX2_marksOf 19 = .ok (.invokevirtual 64, 3) := by decide +kernel
theorem dX2_marksOf_22 : decode cX2_marksOf 22 = .ok (.ifCond .eq 6, 3) := by decide +kernel
theorem dX2_marksOf_25 : decode cX2_marksOf 25 = .ok (.iinc 2 1, 3) := by decide +kernel
theorem dX2_marksOf_28 : decode cX2_marksOf 28 = .ok (.iinc 3 1, 3) := by decide +kernel
theorem dX2_marksOf_31 : decode cX2_marksOf 31 = .ok (.goto (-27), 3) := by decide +kernel
theorem dX2_marksOf_34 : decode cX2_marksOf 34 = .ok (.iload_n 2, 1) := by decide +kernel
theorem dX2_marksOf_35 : decode cX2_marksOf 35 = .ok (.ireturn, 1) := by decide +kernel
theorem dX2_marks_0 : decode cX2_marks 0 = .ok (.aload_n 1, 1) := by decide +kernel
theorem dX2_marks_1 : decode cX2_marks 1 = .ok (.ifnull 30, 3) := by decide +kernel
theorem dX2_marks_4 : decode cX2_marks 4 = .ok (.aload_n 1, 1) := by decide +kernel
theorem dX2_marks_5 : decode cX2_marks 5 = .ok (.getfield 68, 3) := by decide +kernel
theorem dX2_marks_8 : decode cX2_marks 8 = .ok (.iconst 2, 1) := by decide +kernel
theorem dX2_marks_9 : decode cX2_marks 9 = .ok (.if_icmp .ne 22, 3) := by decide +kernel
theorem dX2_marks_12 : decode cX2_marks 12 = .ok (.aload_n 1, 1) := by decide +kernel
theorem dX2_marks_13 : decode cX2_marks 13 = .ok (.getfield 61, 3) := by decide +kernel
theorem dX2_marks_16 : decode cX2_marks 16 = .ok (.ifCond .ne 15, 3) := by decide +kernel
theorem dX2_marks_19 : decode cX2_marks 19 = .ok (.aload_n 1, 1) := by decide +kernel
theorem dX2_marks_20 : decode cX2_marks 20 = .ok (.getfield 71, 3) := by decide +kernel
theorem dX2_marks_23 : decode cX2_marks 23 = .ok (.iload_n 2, 1) := by decide +kernel
theorem dX2_marks_24 : decode cX2_marks 24 = .ok (.if_icmp .ne 7, 3) := by decide +kernel
theorem dX2_marks_27 : decode cX2_marks 27 = .ok (.iconst 1, 1) := by decide +kernel
theorem dX2_marks_28 : decode cX2_marks 28 = .ok (.goto 4, 3) := by decide +kernel
theorem dX2_marks_31 : decode cX2_marks 31 = .ok (.iconst 0, 1) := by decide +kernel
theorem dX2_marks_32 : decode cX2_marks 32 = .ok (.ireturn, 1) := by decide +kernel
theorem dX2_lettersOf_0 : decode cX2_lettersOf 0 = .ok (.iconst 0, 1) := by decide +kernel
theorem dX2_lettersOf_1 : decode cX2_lettersOf 1 = .ok (.istore_n 2, 1) := by decide +kernel
theorem dX2_lettersOf_2 : decode cX2_lettersOf 2 = .ok (.iconst 0, 1) := by decide +kernel
theorem dX2_lettersOf_3 : decode cX2_lettersOf 3 = .ok (.istore_n 3, 1) := by decide +kernel
theorem dX2_lettersOf_4 : decode cX2_lettersOf 4 = .ok (.iload_n 3, 1) := by decide +kernel
theorem dX2_lettersOf_5 : decode cX2_lettersOf 5 = .ok (.aload_n 1, 1) := by decide +kernel
theorem dX2_lettersOf_6 : decode cX2_lettersOf 6 = .ok (.invokevirtual 72, 3) := by decide +kernel
theorem dX2_lettersOf_9 : decode cX2_lettersOf 9 = .ok (.if_icmp .ge 36, 3) := by decide +kernel
theorem dX2_lettersOf_12 : decode cX2_lettersOf 12 = .ok (.aload_n 0, 1) := by decide +kernel
theorem dX2_lettersOf_13 : decode cX2_lettersOf 13 = .ok (.aload_n 1, 1) := by decide +kernel
theorem dX2_lettersOf_14 : decode cX2_lettersOf 14 = .ok (.iload_n 3, 1) := by decide +kernel
theorem dX2_lettersOf_15 : decode cX2_lettersOf 15 = .ok (.invokevirtual 75, 3) := by decide +kernel
theorem dX2_lettersOf_18 : decode cX2_lettersOf 18 = .ok (.invokevirtual 57, 3) := by decide +kernel
theorem dX2_lettersOf_21 : decode cX2_lettersOf 21 = .ok (.astore 4, 2) := by decide +kernel
theorem dX2_lettersOf_23 : decode cX2_lettersOf 23 = .ok (.aload 4, 2) := by decide +kernel
theorem dX2_lettersOf_25 : decode cX2_lettersOf 25 = .ok (.ifnull 14, 3) := by decide +kernel
theorem dX2_lettersOf_28 : decode cX2_lettersOf 28 = .ok (.iload_n 2, 1) := by decide +kernel
theorem dX2_lettersOf_29 : decode cX2_lettersOf 29 = .ok (.aload 4, 2) := by decide +kernel
theorem dX2_lettersOf_31 : decode cX2_lettersOf 31 = .ok (.getfield 79, 3) := by decide +kernel
theorem dX2_lettersOf_34 : decode cX2_lettersOf 34 = .ok (.invokevirtual 47, 3) := by decide +kernel
theorem dX2_lettersOf_37 : decode cX2_lettersOf 37 = .ok (.iadd, 1) := by decide +kernel
theorem dX2_lettersOf_38 : decode cX2_lettersOf 38 = .ok (.istore_n 2, 1) := by decide +kernel
theorem dX2_lettersOf_39 : decode cX2_lettersOf 39 = .ok (.iinc 3 1, 3) := by decide +kernel
theorem dX2_lettersOf_42 : decode cX2_lettersOf 42 = .ok (.goto (-38), 3) := by decide +kernel
theorem dX2_lettersOf_45 : decode cX2_lettersOf 45 = .ok (.iload_n 2, 1) := by decide +kernel
theorem dX2_lettersOf_46 : decode cX2_lettersOf 46 = .ok (.ireturn, 1) := by decide +kernel
theorem dX2_placeBehind_0 : decode cX2_placeBehind 0 = .ok (.iload_n 2, 1) := by decide +kernel
theorem dX2_placeBehind_1 : decode cX2_placeBehind 1 = .ok (.ifCond .lt 18, 3) := by decide +kernel
theorem dX2_placeBehind_4 : decode cX2_placeBehind 4 = .ok (.aload_n 3, 1) := by decide +kernel
theorem dX2_placeBehind_5 : decode cX2_placeBehind 5 = .ok (.getfield 61, 3) := by decide +kernel
theorem dX2_placeBehind_8 : decode cX2_placeBehind 8 = .ok (.ifCond .ne 11, 3) := by decide +kernel
theorem dX2_placeBehind_11 : decode cX2_placeBehind 11 = .ok (.aload_n 3, 1) := by decide +kernel
theorem dX2_placeBehind_12 : decode cX2_placeBehind 12 = .ok (.getfield 68, 3) := by decide +kernel
theorem dX2_placeBehind_15 : decode cX2_placeBehind 15 = .ok (.iconst 2, 1) := by decide +kernel
theorem dX2_placeBehind_16 : decode cX2_placeBehind 16 = .ok (.if_icmp .ne 6, 3) := by decide +kernel
theorem dX2_placeBehind_19 : decode cX2_placeBehind 19 = .ok (.bipush (-4), 2) := by decide +kernel
theorem dX2_placeBehind_21 : decode cX2_placeBehind 21 = .ok (.ireturn, 1) := by decide +kernel
theorem dX2_placeBehind_22 : decode cX2_placeBehind 22 = .ok (.iload_n 2, 1) := by decide +kernel
theorem dX2_placeBehind_23 : decode cX2_placeBehind 23 = .ok (.istore 4, 2) := by decide +kernel
theorem dX2_placeBehind_25 : decode cX2_placeBehind 25 = .ok (.iload 4, 2) := by decide +kernel
theorem dX2_placeBehind_27 : decode cX2_placeBehind 27 = .ok (.aload_n 1, 1) := by decide +kernel
theorem dX2_placeBehind_28 : decode cX2_placeBehind 28 = .ok (.getfield 43, 3) := by decide +kernel
theorem dX2_placeBehind_31 : decode cX2_placeBehind 31 = .ok (.invokevirtual 47, 3) := by decide +kernel
theorem dX2_placeBehind_34 : decode cX2_placeBehind 34 = .ok (.if_icmp .ge 58, 3) := by decide +kernel
theorem dX2_placeBehind_37 : decode cX2_placeBehind 37 = .ok (.aload_n 1, 1) := by decide +kernel
theorem dX2_placeBehind_38 : decode cX2_placeBehind 38 = .ok (.getfield 43, 3) := by decide +kernel
theorem dX2_placeBehind_41 : decode cX2_placeBehind 41 = .ok (.iload 4, 2) := by decide +kernel
theorem dX2_placeBehind_43 : decode cX2_placeBehind 43 = .ok (.aload_n 3, 1) := by decide +kernel
theorem dX2_placeBehind_44 : decode cX2_placeBehind 44 = .ok (.getfield 79, 3) := by decide +kernel
theorem dX2_placeBehind_47 : decode cX2_placeBehind 47 = .ok (.invokevirtual 53, 3) := by decide +kernel
theorem dX2_placeBehind_50 : decode cX2_placeBehind 50 = .ok (.ifCond .eq 14, 3) := by decide +kernel
theorem dX2_placeBehind_53 : decode cX2_placeBehind 53 = .ok (.iload 4, 2) := by decide +kernel
theorem dX2_placeBehind_55 : decode cX2_placeBehind 55 = .ok (.aload_n 3, 1) := by decide +kernel
theorem dX2_placeBehind_56 : decode cX2_placeBehind 56 = .ok (.getfield 79, 3) := by decide +kernel
theorem dX2_placeBehind_59 : decode cX2_placeBehind 59 = .ok (.invokevirtual 47, 3) := by decide +kernel
theorem dX2_placeBehind_62 : decode cX2_placeBehind 62 = .ok (.iadd, 1) := by decide +kernel
theorem dX2_placeBehind_63 : decode cX2_placeBehind 63 = .ok (.ireturn, 1) := by decide +kernel
theorem dX2_placeBehind_64 : decode cX2_placeBehind 64 = .ok (.aload_n 0, 1) := by decide +kernel
theorem dX2_placeBehind_65 : decode cX2_placeBehind 65 = .ok (.getfield 32, 3) := by decide +kernel
theorem dX2_placeBehind_68 : decode cX2_placeBehind 68 = .ok (.ifCond .eq 15, 3) := by decide +kernel
theorem dX2_placeBehind_71 : decode cX2_placeBehind 71 = .ok (.aload_n 1, 1) := by decide +kernel
theorem dX2_placeBehind_72 : decode cX2_placeBehind 72 = .ok (.getfield 43, 3) := by decide +kernel
theorem dX2_placeBehind_75 : decode cX2_placeBehind 75 = .ok (.iload 4, 2) := by decide +kernel
theorem dX2_placeBehind_77 : decode cX2_placeBehind 77 = .ok (.invokevirtual 82, 3) := by decide +kernel
theorem dX2_placeBehind_80 : decode cX2_placeBehind 80 = .ok (.ifCond .ne 6, 3) := by decide +kernel
theorem dX2_placeBehind_83 : decode cX2_placeBehind 83 = .ok (.bipush (-4), 2) := by decide +kernel
theorem dX2_placeBehind_85 : decode cX2_placeBehind 85 = .ok (.ireturn, 1) := by decide +kernel
theorem dX2_placeBehind_86 : decode cX2_placeBehind 86 = .ok (.iinc 4 1, 3) := by decide +kernel
theorem dX2_placeBehind_89 : decode cX2_placeBehind 89 = .ok (.goto (-64), 3) := by decide +kernel
theorem dX2_placeBehind_92 : decode cX2_placeBehind 92 = .ok (.bipush (-4), 2) := by decide +kernel
theorem dX2_placeBehind_94 : decode cX2_placeBehind 94 = .ok (.ireturn, 1) := by decide +kernel
theorem dX2_mayEndAt_0 : decode cX2_mayEndAt 0 = .ok (.iload_n 2, 1) := by decide +kernel
theorem dX2_mayEndAt_1 : decode cX2_mayEndAt 1 = .ok (.istore_n 3, 1) := by decide +kernel
theorem dX2_mayEndAt_2 : decode cX2_mayEndAt 2 = .ok (.iload_n 3, 1) := by decide +kernel
theorem dX2_mayEndAt_3 : decode cX2_mayEndAt 3 = .ok (.aload_n 1, 1) := by decide +kernel
theorem dX2_mayEndAt_4 : decode cX2_mayEndAt 4 = .ok (.getfield 43, 3) := by decide +kernel
theorem dX2_mayEndAt_7 : decode cX2_mayEndAt 7 = .ok (.invokevirtual 47, 3) := by decide +kernel
theorem dX2_mayEndAt_10 : decode cX2_mayEndAt 10 = .ok (.if_icmp .ge 29, 3) := by decide +kernel
theorem dX2_mayEndAt_13 : decode cX2_mayEndAt 13 = .ok (.aload_n 0, 1) := by decide +kernel
theorem dX2_mayEndAt_14 : decode cX2_mayEndAt 14 = .ok (.getfield 32, 3) := by decide +kernel
theorem dX2_mayEndAt_17 : decode cX2_mayEndAt 17 = .ok (.ifCond .eq 14, 3) := by decide +kernel
theorem dX2_mayEndAt_20 : decode cX2_mayEndAt 20 = .ok (.aload_n 1, 1) := by decide +kernel
theorem dX2_mayEndAt_21 : decode cX2_mayEndAt 21 = .ok (.getfield 43, 3) := by decide +kernel
theorem dX2_mayEndAt_24 : decode cX2_mayEndAt 24 = .ok (.iload_n 3, 1) := by decide +kernel
theorem dX2_mayEndAt_25 : decode cX2_mayEndAt 25 = .ok (.invokevirtual 82, 3) := by decide +kernel
theorem dX2_mayEndAt_28 : decode cX2_mayEndAt 28 = .ok (.ifCond .ne 5, 3) := by decide +kernel
theorem dX2_mayEndAt_31 : decode cX2_mayEndAt 31 = .ok (.iconst 0, 1) := by decide +kernel
theorem dX2_mayEndAt_32 : decode cX2_mayEndAt 32 = .ok (.ireturn, 1) := by decide +kernel
theorem dX2_mayEndAt_33 : decode cX2_mayEndAt 33 = .ok (.iinc 3 1, 3) := by decide +kernel
theorem dX2_mayEndAt_36 : decode cX2_mayEndAt 36 = .ok (.goto (-34), 3) := by decide +kernel
theorem dX2_mayEndAt_39 : decode cX2_mayEndAt 39 = .ok (.iconst 1, 1) := by decide +kernel
theorem dX2_mayEndAt_40 : decode cX2_mayEndAt 40 = .ok (.ireturn, 1) := by decide +kernel
theorem dX3_firstFault_0 : decode cX3_firstFault 0 = .ok (.aload_n 1, 1) := by decide +kernel
theorem dX3_firstFault_1 : decode cX3_firstFault 1 = .ok (.invokevirtual 9, 3) := by decide +kernel
theorem dX3_firstFault_4 : decode cX3_firstFault 4 = .ok (.iconst 0, 1) := by decide +kernel
theorem dX3_firstFault_5 : decode cX3_firstFault 5 = .ok (.istore_n 2, 1) := by decide +kernel
theorem dX3_firstFault_6 : decode cX3_firstFault 6 = .ok (.iload_n 2, 1) := by decide +kernel
theorem dX3_firstFault_7 : decode cX3_firstFault 7 = .ok (.aload_n 0, 1) := by decide +kernel
theorem dX3_firstFault_8 : decode cX3_firstFault 8 = .ok (.invokevirtual 14, 3) := by decide +kernel
theorem dX3_firstFault_11 : decode cX3_firstFault 11 = .ok (.if_icmp .ge 35, 3) := by decide +kernel
theorem dX3_firstFault_14 : decode cX3_firstFault 14 = .ok (.aload_n 0, 1) := by decide +kernel
theorem dX3_firstFault_15 : decode cX3_firstFault 15 = .ok (.bipush 59, 2) := by decide +kernel
theorem dX3_firstFault_17 : decode cX3_firstFault 17 = .ok (.iload_n 2, 1) := by decide +kernel
theorem dX3_firstFault_18 : decode cX3_firstFault 18 = .ok (.invokevirtual 20, 3) := by decide +kernel
theorem dX3_firstFault_21 : decode cX3_firstFault 21 = .ok (.istore_n 3, 1) := by decide +kernel
theorem dX3_firstFault_22 : decode cX3_firstFault 22 = .ok (.iload_n 3, 1) := by decide +kernel
theorem dX3_firstFault_23 : decode cX3_firstFault 23 = .ok (.iload_n 2, 1) := by decide +kernel
theorem dX3_firstFault_24 : decode cX3_firstFault 24 = .ok (.if_icmp .lt 13, 3) := by decide +kernel
theorem dX3_firstFault_27 : decode cX3_firstFault 27 = .ok (.aload_n 0, 1) := by decide +kernel
theorem dX3_firstFault_28 : decode cX3_firstFault 28 = .ok (.iload_n 2, 1) := by decide +kernel
theorem dX3_firstFault_29 : decode cX3_firstFault 29 = .ok (.iload_n 3, 1) := by decide +kernel
theorem dX3_firstFault_30 : decode cX3_firstFault 30 = .ok (.aload_n 1, 1) := by decide +kernel
theorem dX3_firstFault_31 : decode cX3_firstFault 31 = .ok (.invokestatic 24, 3) := by decide +kernel
theorem dX3_firstFault_34 : decode cX3_firstFault 34 = .ok (.ifCond .ne 5, 3) := by decide +kernel
theorem dX3_firstFault_37 : decode cX3_firstFault 37 = .ok (.iload_n 2, 1) := by decide +kernel
theorem dX3_firstFault_38 : decode cX3_firstFault 38 = .ok (.ireturn, 1) := by decide +kernel
theorem dX3_firstFault_39 : decode cX3_firstFault 39 = .ok (.iload_n 3, 1) := by decide +kernel
theorem dX3_firstFault_40 : decode cX3_firstFault 40 = .ok (.iconst 1, 1) := by decide +kernel
theorem dX3_firstFault_41 : decode cX3_firstFault 41 = .ok (.iadd, 1) := by decide +kernel
theorem dX3_firstFault_42 : decode cX3_firstFault 42 = .ok (.istore_n 2, 1) := by decide +kernel
theorem dX3_firstFault_43 : decode cX3_firstFault 43 = .ok (.goto (-37), 3) := by decide +kernel
theorem dX3_firstFault_46 : decode cX3_firstFault 46 = .ok (.bipush (-4), 2) := by decide +kernel
theorem dX3_firstFault_48 : decode cX3_firstFault 48 = .ok (.ireturn, 1) := by decide +kernel
theorem dX3_takesItem_0 : decode cX3_takesItem 0 = .ok (.aload_n 0, 1) := by decide +kernel
theorem dX3_takesItem_1 : decode cX3_takesItem 1 = .ok (.iload_n 1, 1) := by decide +kernel
theorem dX3_takesItem_2 : decode cX3_takesItem 2 = .ok (.invokevirtual 30, 3) := by decide +kernel
theorem dX3_takesItem_5 : decode cX3_takesItem 5 = .ok (.tableswitch 107 107 119 #[99, 107, 83, 107, 107, 67, 107, 107, 75, 107, 107, 107, 91], 67) := by decide +kernel
theorem dX3_takesItem_72 : decode cX3_takesItem 72 = .ok (.aload_n 0, 1) := by decide +kernel
theorem dX3_takesItem_73 : decode cX3_takesItem 73 = .ok (.iload_n 1, 1) := by decide +kernel
theorem dX3_takesItem_74 : decode cX3_takesItem 74 = .ok (.iload_n 2, 1) := by decide +kernel
theorem dX3_takesItem_75 : decode cX3_takesItem 75 = .ok (.aload_n 3, 1) := by decide +kernel
theorem dX3_takesItem_76 : decode cX3_takesItem 76 = .ok (.invokestatic 34, 3) := by decide +kernel
theorem dX3_takesItem_79 : decode cX3_takesItem 79 = .ok (.ireturn, 1) := by decide +kernel
theorem dX3_takesItem_80 : decode cX3_takesItem 80 = .ok (.aload_n 0, 1) := by decide +kernel
theorem dX3_takesItem_81 : decode cX3_takesItem 81 = .ok (.iload_n 1, 1) := by decide +kernel
theorem dX3_takesItem_82 : decode cX3_takesItem 82 = .ok (.iload_n 2, 1) := by decide +kernel
theorem dX3_takesItem_83 : decode cX3_takesItem 83 = .ok (.aload_n 3, 1) := by decide +kernel
theorem dX3_takesItem_84 : decode cX3_takesItem 84 = .ok (.invokestatic 37, 3) := by decide +kernel
theorem dX3_takesItem_87 : decode cX3_takesItem 87 = .ok (.ireturn, 1) := by decide +kernel
theorem dX3_takesItem_88 : decode cX3_takesItem 88 = .ok (.aload_n 0, 1) := by decide +kernel
theorem dX3_takesItem_89 : decode cX3_takesItem 89 = .ok (.iload_n 1, 1) := by decide +kernel
theorem dX3_takesItem_90 : decode cX3_takesItem 90 = .ok (.iload_n 2, 1) := by decide +kernel
theorem dX3_takesItem_91 : decode cX3_takesItem 91 = .ok (.aload_n 3, 1) := by decide +kernel
theorem dX3_takesItem_92 : decode cX3_takesItem 92 = .ok (.invokestatic 40, 3) := by decide +kernel
theorem dX3_takesItem_95 : decode cX3_takesItem 95 = .ok (.ireturn, 1) := by decide +kernel
theorem dX3_takesItem_96 : decode cX3_takesItem 96 = .ok (.aload_n 0, 1) := by decide +kernel
theorem dX3_takesItem_97 : decode cX3_takesItem 97 = .ok (.iload_n 1, 1) := by decide +kernel
theorem dX3_takesItem_98 : decode cX3_takesItem 98 = .ok (.iload_n 2, 1) := by decide +kernel
theorem dX3_takesItem_99 : decode cX3_takesItem 99 = .ok (.aload_n 3, 1) := by decide +kernel
theorem dX3_takesItem_100 : decode cX3_takesItem 100 = .ok (.invokestatic 43, 3) := by decide +kernel
theorem dX3_takesItem_103 : decode cX3_takesItem 103 = .ok (.ireturn, 1) := by decide +kernel
theorem dX3_takesItem_104 : decode cX3_takesItem 104 = .ok (.aload_n 0, 1) := by decide +kernel
theorem dX3_takesItem_105 : decode cX3_takesItem 105 = .ok (.iload_n 1, 1) := by decide +kernel
theorem dX3_takesItem_106 : decode cX3_takesItem 106 = .ok (.iload_n 2, 1) := by decide +kernel
theorem dX3_takesItem_107 : decode cX3_takesItem 107 = .ok (.aload_n 3, 1) := by decide +kernel
theorem dX3_takesItem_108 : decode cX3_takesItem 108 = .ok (.invokestatic 46, 3) := by decide +kernel
theorem dX3_takesItem_111 : decode cX3_takesItem 111 = .ok (.ireturn, 1) := by decide +kernel
theorem dX3_takesItem_112 : decode cX3_takesItem 112 = .ok (.iconst 0, 1) := by decide +kernel
theorem dX3_takesItem_113 : decode cX3_takesItem 113 = .ok (.ireturn, 1) := by decide +kernel
