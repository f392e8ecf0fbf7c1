theorem dX0_init_0 : decode cX0_init 0 = .ok (.aload_n 0, 1) := by decide +kernel
theorem dX0_init_1 : decode cX0_init 1 = .ok (.invokespecial 3, 3) := by decide +kernel
theorem dX0_init_4 : decode cX0_init 4 = .ok (.aload_n 0, 1) := by decide +kernel
theorem dX0_init_5 : decode cX0_init 5 = .ok (.iconst 0, 1) := by decide +kernel
theorem dX0_init_6 : decode cX0_init 6 = .ok (.putfield 9, 3) := by decide +kernel
theorem dX0_init_9 : decode cX0_init 9 = .ok (.aload_n 0, 1) := by decide +kernel
theorem dX0_init_10 : decode cX0_init 10 = .ok (.iconst 0, 1) := by decide +kernel
theorem dX0_init_11 : decode cX0_init 11 = .ok (.putfield 15, 3) := by decide +kernel
theorem dX0_init_14 : decode cX0_init 14 = .ok (.aload_n 0, 1) := by decide +kernel
theorem dX0_init_15 : decode cX0_init 15 = .ok (.bipush 6, 2) := by decide +kernel
theorem dX0_init_17 : decode cX0_init 17 = .ok (.anewarray 18, 3) := by decide +kernel
theorem dX0_init_20 : decode cX0_init 20 = .ok (.putfield 20, 3) := by decide +kernel
theorem dX0_init_23 : decode cX0_init 23 = .ok (.iconst 0, 1) := by decide +kernel
theorem dX0_init_24 : decode cX0_init 24 = .ok (.istore_n 1, 1) := by decide +kernel
theorem dX0_init_25 : decode cX0_init 25 = .ok (.iload_n 1, 1) := by decide +kernel
theorem dX0_init_26 : decode cX0_init 26 = .ok (.bipush 6, 2) := by decide +kernel
theorem dX0_init_28 : decode cX0_init 28 = .ok (.if_icmp .ge 22, 3) := by decide +kernel
theorem dX0_init_31 : decode cX0_init 31 = .ok (.aload_n 0, 1) := by decide +kernel
theorem dX0_init_32 : decode cX0_init 32 = .ok (.getfield 20, 3) := by decide +kernel
theorem dX0_init_35 : decode cX0_init 35 = .ok (.iload_n 1, 1) := by decide +kernel
theorem dX0_init_36 : decode cX0_init 36 = .ok (.new 18, 3) := by decide +kernel
theorem dX0_init_39 : decode cX0_init 39 = .ok (.dup, 1) := by decide +kernel
theorem dX0_init_40 : decode cX0_init 40 = .ok (.invokespecial 24, 3) := by decide +kernel
theorem dX0_init_43 : decode cX0_init 43 = .ok (.aastore, 1) := by decide +kernel
theorem dX0_init_44 : decode cX0_init 44 = .ok (.iinc 1 1, 3) := by decide +kernel
theorem dX0_init_47 : decode cX0_init 47 = .ok (.goto (-22), 3) := by decide +kernel
theorem dX0_init_50 : decode cX0_init 50 = .ok (.return_, 1) := by decide +kernel
theorem dX0_keep_0 : decode cX0_keep 0 = .ok (.aload_n 0, 1) := by decide +kernel
theorem dX0_keep_1 : decode cX0_keep 1 = .ok (.aload_n 0, 1) := by decide +kernel
theorem dX0_keep_2 : decode cX0_keep 2 = .ok (.getfield 15, 3) := by decide +kernel
theorem dX0_keep_5 : decode cX0_keep 5 = .ok (.iconst 1, 1) := by decide +kernel
theorem dX0_keep_6 : decode cX0_keep 6 = .ok (.iadd, 1) := by decide +kernel
theorem dX0_keep_7 : decode cX0_keep 7 = .ok (.bipush 6, 2) := by decide +kernel
theorem dX0_keep_9 : decode cX0_keep 9 = .ok (.irem, 1) := by decide +kernel
theorem dX0_keep_10 : decode cX0_keep 10 = .ok (.putfield 15, 3) := by decide +kernel
theorem dX0_keep_13 : decode cX0_keep 13 = .ok (.aload_n 0, 1) := by decide +kernel
theorem dX0_keep_14 : decode cX0_keep 14 = .ok (.getfield 20, 3) := by decide +kernel
theorem dX0_keep_17 : decode cX0_keep 17 = .ok (.aload_n 0, 1) := by decide +kernel
theorem dX0_keep_18 : decode cX0_keep 18 = .ok (.getfield 15, 3) := by decide +kernel
theorem dX0_keep_21 : decode cX0_keep 21 = .ok (.aaload, 1) := by decide +kernel
theorem dX0_keep_22 : decode cX0_keep 22 = .ok (.aload_n 1, 1) := by decide +kernel
theorem dX0_keep_23 : decode cX0_keep 23 = .ok (.invokevirtual 25, 3) := by decide +kernel
theorem dX0_keep_26 : decode cX0_keep 26 = .ok (.aload_n 0, 1) := by decide +kernel
theorem dX0_keep_27 : decode cX0_keep 27 = .ok (.aload_n 0, 1) := by decide +kernel
theorem dX0_keep_28 : decode cX0_keep 28 = .ok (.getfield 9, 3) := by decide +kernel
theorem dX0_keep_31 : decode cX0_keep 31 = .ok (.iconst 1, 1) := by decide +kernel
theorem dX0_keep_32 : decode cX0_keep 32 = .ok (.iadd, 1) := by decide +kernel
theorem dX0_keep_33 : decode cX0_keep 33 = .ok (.bipush 6, 2) := by decide +kernel
theorem dX0_keep_35 : decode cX0_keep 35 = .ok (.invokestatic 29, 3) := by decide +kernel
theorem dX0_keep_38 : decode cX0_keep 38 = .ok (.putfield 9, 3) := by decide +kernel
theorem dX0_keep_41 : decode cX0_keep 41 = .ok (.return_, 1) := by decide +kernel
theorem dX0_restore_0 : decode cX0_restore 0 = .ok (.aload_n 0, 1) := by decide +kernel
theorem dX0_restore_1 : decode cX0_restore 1 = .ok (.getfield 9, 3) := by decide +kernel
theorem dX0_restore_4 : decode cX0_restore 4 = .ok (.ifCond .ne 4, 3) := by decide +kernel
theorem dX0_restore_7 : decode cX0_restore 7 = .ok (.return_, 1) := by decide +kernel
theorem dX0_restore_8 : decode cX0_restore 8 = .ok (.aload_n 1, 1) := by decide +kernel
theorem dX0_restore_9 : decode cX0_restore 9 = .ok (.aload_n 0, 1) := by decide +kernel
theorem dX0_restore_10 : decode cX0_restore 10 = .ok (.getfield 20, 3) := by decide +kernel
theorem dX0_restore_13 : decode cX0_restore 13 = .ok (.aload_n 0, 1) := by decide +kernel
theorem dX0_restore_14 : decode cX0_restore 14 = .ok (.getfield 15, 3) := by decide +kernel
theorem dX0_restore_17 : decode cX0_restore 17 = .ok (.aaload, 1) := by decide +kernel
theorem dX0_restore_18 : decode cX0_restore 18 = .ok (.invokevirtual 25, 3) := by decide +kernel
theorem dX0_restore_21 : decode cX0_restore 21 = .ok (.aload_n 0, 1) := by decide +kernel
theorem dX0_restore_22 : decode cX0_restore 22 = .ok (.aload_n 0, 1) := by decide +kernel
theorem dX0_restore_23 : decode cX0_restore 23 = .ok (.getfield 15, 3) := by decide +kernel
theorem dX0_restore_26 : decode cX0_restore 26 = .ok (.bipush 6, 2) := by decide +kernel
theorem dX0_restore_28 : decode cX0_restore 28 = .ok (.iadd, 1) := by decide +kernel
theorem dX0_restore_29 : decode cX0_restore 29 = .ok (.iconst 1, 1) := by decide +kernel
theorem dX0_restore_30 : decode cX0_restore 30 = .ok (.isub, 1) := by decide +kernel
theorem dX0_restore_31 : decode cX0_restore 31 = .ok (.bipush 6, 2) := by decide +kernel
theorem dX0_restore_33 : decode cX0_restore 33 = .ok (.irem, 1) := by decide +kernel
theorem dX0_restore_34 : decode cX0_restore 34 = .ok (.putfield 15, 3) := by decide +kernel
theorem dX0_restore_37 : decode cX0_restore 37 = .ok (.aload_n 0, 1) := by decide +kernel
theorem dX0_restore_38 : decode cX0_restore 38 = .ok (.dup, 1) := by decide +kernel
theorem dX0_restore_39 : decode cX0_restore 39 = .ok (.getfield 9, 3) := by decide +kernel
theorem dX0_restore_42 : decode cX0_restore 42 = .ok (.iconst 1, 1) := by decide +kernel
theorem dX0_restore_43 : decode cX0_restore 43 = .ok (.isub, 1) := by decide +kernel
theorem dX0_restore_44 : decode cX0_restore 44 = .ok (.putfield 9, 3) := by decide +kernel
theorem dX0_restore_47 : decode cX0_restore 47 = .ok (.return_, 1) := by decide +kernel
theorem dX1_init_0 : decode cX1_init 0 = .ok (.aload_n 0, 1) := by decide +kernel
theorem dX1_init_1 : decode cX1_init 1 = .ok (.invokespecial 3, 3) := by decide +kernel
theorem dX1_init_4 : decode cX1_init 4 = .ok (.aload_n 0, 1) := by decide +kernel
theorem dX1_init_5 : decode cX1_init 5 = .ok (.bipush 64, 2) := by decide +kernel
theorem dX1_init_7 : decode cX1_init 7 = .ok (.newarray .int, 2) := by decide +kernel
theorem dX1_init_9 : decode cX1_init 9 = .ok (.putfield 9, 3) := by decide +kernel
theorem dX1_init_12 : decode cX1_init 12 = .ok (.return_, 1) := by decide +kernel
theorem dX1_empty_0 : decode cX1_empty 0 = .ok (.aload_n 0, 1) := by decide +kernel
theorem dX1_empty_1 : decode cX1_empty 1 = .ok (.getfield 9, 3) := by decide +kernel
theorem dX1_empty_4 : decode cX1_empty 4 = .ok (.iconst 0, 1) := by decide +kernel
theorem dX1_empty_5 : decode cX1_empty 5 = .ok (.invokestatic 15, 3) := by decide +kernel
theorem dX1_empty_8 : decode cX1_empty 8 = .ok (.return_, 1) := by decide +kernel
theorem dX1_add_0 : decode cX1_add 0 = .ok (.iconst 0, 1) := by decide +kernel
theorem dX1_add_1 : decode cX1_add 1 = .ok (.istore 4, 2) := by decide +kernel
theorem dX1_add_3 : decode cX1_add 3 = .ok (.iload 4, 2) := by decide +kernel
theorem dX1_add_5 : decode cX1_add 5 = .ok (.aload_n 1, 1) := by decide +kernel
theorem dX1_add_6 : decode cX1_add 6 = .ok (.getfield 21, 3) := by decide +kernel
theorem dX1_add_9 : decode cX1_add 9 = .ok (.iload_n 2, 1) := by decide +kernel
theorem dX1_add_10 : decode cX1_add 10 = .ok (.iaload, 1) := by decide +kernel
theorem dX1_add_11 : decode cX1_add 11 = .ok (.if_icmp .ge 25, 3) := by decide +kernel
theorem dX1_add_14 : decode cX1_add 14 = .ok (.aload_n 0, 1) := by decide +kernel
theorem dX1_add_15 : decode cX1_add 15 = .ok (.getfield 9, 3) := by decide +kernel
theorem dX1_add_18 : decode cX1_add 18 = .ok (.aload_n 1, 1) := by decide +kernel
theorem dX1_add_19 : decode cX1_add 19 = .ok (.iload_n 2, 1) := by decide +kernel
theorem dX1_add_20 : decode cX1_add 20 = .ok (.iload 4, 2) := by decide +kernel
theorem dX1_add_22 : decode cX1_add 22 = .ok (.invokevirtual 26, 3) := by decide +kernel
theorem dX1_add_25 : decode cX1_add 25 = .ok (.dup2, 1) := by decide +kernel
theorem dX1_add_26 : decode cX1_add 26 = .ok (.iaload, 1) := by decide +kernel
theorem dX1_add_27 : decode cX1_add 27 = .ok (.iload_n 3, 1) := by decide +kernel
theorem dX1_add_28 : decode cX1_add 28 = .ok (.iadd, 1) := by decide +kernel
theorem dX1_add_29 : decode cX1_add 29 = .ok (.iastore, 1) := by decide +kernel
theorem dX1_add_30 : decode cX1_add 30 = .ok (.iinc 4 1, 3) := by decide +kernel
theorem dX1_add_33 : decode cX1_add 33 = .ok (.goto (-30), 3) := by decide +kernel
theorem dX1_add_36 : decode cX1_add 36 = .ok (.return_, 1) := by decide +kernel
theorem dX1_firstGreatest_0 : decode cX1_firstGreatest 0 = .ok (.iconst 0, 1) := by decide +kernel
theorem dX1_firstGreatest_1 : decode cX1_firstGreatest 1 = .ok (.istore_n 1, 1) := by decide +kernel
theorem dX1_firstGreatest_2 : decode cX1_firstGreatest 2 = .ok (.iconst 1, 1) := by decide +kernel
theorem dX1_firstGreatest_3 : decode cX1_firstGreatest 3 = .ok (.istore_n 2, 1) := by decide +kernel
theorem dX1_firstGreatest_4 : decode cX1_firstGreatest 4 = .ok (.iload_n 2, 1) := by decide +kernel
theorem dX1_firstGreatest_5 : decode cX1_firstGreatest 5 = .ok (.bipush 64, 2) := by decide +kernel
theorem dX1_firstGreatest_7 : decode cX1_firstGreatest 7 = .ok (.if_icmp .ge 26, 3) := by decide +kernel
theorem dX1_firstGreatest_10 : decode cX1_firstGreatest 10 = .ok (.aload_n 0, 1) := by decide +kernel
theorem dX1_firstGreatest_11 : decode cX1_firstGreatest 11 = .ok (.getfield 9, 3) := by decide +kernel
theorem dX1_firstGreatest_14 : decode cX1_firstGreatest 14 = .ok (.iload_n 2, 1) := by decide +kernel
theorem dX1_firstGreatest_15 : decode cX1_firstGreatest 15 = .ok (.iaload, 1) := by decide +kernel
theorem dX1_firstGreatest_16 : decode cX1_firstGreatest 16 = .ok (.aload_n 0, 1) := by decide +kernel
theorem dX1_firstGreatest_17 : decode cX1_firstGreatest 17 = .ok (.getfield 9, 3) := by decide +kernel
theorem dX1_firstGreatest_20 : decode cX1_firstGreatest 20 = .ok (.iload_n 1, 1) := by decide +kernel
theorem dX1_firstGreatest_21 : decode cX1_firstGreatest 21 = .ok (.iaload, 1) := by decide +kernel
theorem dX1_firstGreatest_22 : decode cX1_firstGreatest 22 = .ok (.if_icmp .le 5, 3) := by decide +kernel
theorem dX1_firstGreatest_25 : decode cX1_firstGreatest 25 = .ok (.iload_n 2, 1) := by decide +kernel
theorem dX1_firstGreatest_26 : decode cX1_firstGreatest 26 = .ok (.istore_n 1, 1) := by decide +kernel
theorem dX1_firstGreatest_27 : decode cX1_firstGreatest 27 = .ok (.iinc 2 1, 3) := by decide +kernel
theorem dX1_firstGreatest_30 : decode cX1_firstGreatest 30 = .ok (.goto (-26), 3) := by decide +kernel
theorem dX1_firstGreatest_33 : decode cX1_firstGreatest 33 = .ok (.iload_n 1, 1) := by decide +kernel
theorem dX1_firstGreatest_34 : decode cX1_firstGreatest 34 = .ok (.ireturn, 1) := by decide +kernel
theorem dX1_squares_0 : decode cX1_squares 0 = .ok (.iconst 0, 1) := by decide +kernel
theorem dX1_squares_1 : decode cX1_squares 1 = .ok (.istore_n 1, 1) := by decide +kernel
theorem dX1_squares_2 : decode cX1_squares 2 = .ok (.iconst 0, 1) := by decide +kernel
theorem dX1_squares_3 : decode cX1_squares 3 = .ok (.istore_n 2, 1) := by decide +kernel
theorem dX1_squares_4 : decode cX1_squares 4 = .ok (.iload_n 2, 1) := by decide +kernel
theorem dX1_squares_5 : decode cX1_squares 5 = .ok (.bipush 64, 2) := by decide +kernel
theorem dX1_squares_7 : decode cX1_squares 7 = .ok (.if_icmp .ge 25, 3) := by decide +kernel
theorem dX1_squares_10 : decode cX1_squares 10 = .ok (.iload_n 1, 1) := by decide +kernel
theorem dX1_squares_11 : decode cX1_squares 11 = .ok (.aload_n 0, 1) := by decide +kernel
theorem dX1_squares_12 : decode cX1_squares 12 = .ok (.getfield 9, 3) := by decide +kernel
theorem dX1_squares_15 : decode cX1_squares 15 = .ok (.iload_n 2, 1) := by decide +kernel
theorem dX1_squares_16 : decode cX1_squares 16 = .ok (.iaload, 1) := by decide +kernel
theorem dX1_squares_17 : decode cX1_squares 17 = .ok (.aload_n 0, 1) := by decide +kernel
theorem dX1_squares_18 : decode cX1_squares 18 = .ok (.getfield 9, 3) := by decide +kernel
theorem dX1_squares_21 : decode cX1_squares 21 = .ok (.iload_n 2, 1) := by decide +kernel
theorem dX1_squares_22 : decode cX1_squares 22 = .ok (.iaload, 1) := by decide +kernel
theorem dX1_squares_23 : decode cX1_squares 23 = .ok (.imul, 1) := by decide +kernel
theorem dX1_squares_24 : decode cX1_squares 24 = .ok (.iadd, 1) := by decide +kernel
theorem dX1_squares_25 : decode cX1_squares 25 = .ok (.istore_n 1, 1) := by decide +kernel
theorem dX1_squares_26 : decode cX1_squares 26 = .ok (.iinc 2 1, 3) := by decide +kernel
theorem dX1_squares_29 : decode cX1_squares 29 = .ok (.goto (-25), 3) := by decide +kernel
theorem dX1_squares_32 : decode cX1_squares 32 = .ok (.iload_n 1, 1) := by decide +kernel
theorem dX1_squares_33 : decode cX1_squares 33 = .ok (.ireturn, 1) := by decide +kernel
theorem dX1_countAtLeast_0 : decode cX1_countAtLeast 0 = .ok (.iconst 0, 1) := by decide +kernel
theorem dX1_countAtLeast_1 : decode cX1_countAtLeast 1 = .ok (.istore_n 3, 1) := by decide +kernel
theorem dX1_countAtLeast_2 : decode cX1_countAtLeast 2 = .ok (.iconst 0, 1) := by decide +kernel
theorem dX1_countAtLeast_3 : decode cX1_countAtLeast 3 = .ok (.istore 4, 2) := by decide +kernel
theorem dX1_countAtLeast_5 : decode cX1_countAtLeast 5 = .ok (.iload 4, 2) := by decide +kernel
theorem dX1_countAtLeast_7 : decode cX1_countAtLeast 7 = .ok (.aload_n 2, 1) := by decide +kernel
theorem dX1_countAtLeast_8 : decode cX1_countAtLeast 8 = .ok (.invokevirtual 30, 3) := by decide +kernel
theorem dX1_countAtLeast_11 : decode cX1_countAtLeast 11 = .ok (.if_icmp .ge 46, 3) := by decide +kernel
theorem dX1_countAtLeast_14 : decode cX1_countAtLeast 14 = .ok (.iconst 0, 1) := by decide +kernel
theorem dX1_countAtLeast_15 : decode cX1_countAtLeast 15 = .ok (.istore 5, 2) := by decide +kernel
theorem dX1_countAtLeast_17 : decode cX1_countAtLeast 17 = .ok (.iload 5, 2) := by decide +kernel
theorem dX1_countAtLeast_19 : decode cX1_countAtLeast 19 = .ok (.aload_n 2, 1) := by decide +kernel
theorem dX1_countAtLeast_20 : decode cX1_countAtLeast 20 = .ok (.getfield 36, 3) := by decide +kernel
theorem dX1_countAtLeast_23 : decode cX1_countAtLeast 23 = .ok (.if_icmp .ge 28, 3) := by decide +kernel
theorem dX1_countAtLeast_26 : decode cX1_countAtLeast 26 = .ok (.aload_n 0, 1) := by decide +kernel
theorem dX1_countAtLeast_27 : decode cX1_countAtLeast 27 = .ok (.getfield 9, 3) := by decide +kernel
theorem dX1_countAtLeast_30 : decode cX1_countAtLeast 30 = .ok (.iload 4, 2) := by decide +kernel
theorem dX1_countAtLeast_32 : decode cX1_countAtLeast 32 = .ok (.iconst 4, 1) := by decide +kernel
theorem dX1_countAtLeast_33 : decode cX1_countAtLeast 33 = .ok (.imul, 1) := by decide +kernel
theorem dX1_countAtLeast_34 : decode cX1_countAtLeast 34 = .ok (.iload 5, 2) := by decide +kernel
theorem dX1_countAtLeast_36 : decode cX1_countAtLeast 36 = .ok (.iadd, 1) := by decide +kernel
theorem dX1_countAtLeast_37 : decode cX1_countAtLeast 37 = .ok (.iaload, 1) := by decide +kernel
theorem dX1_countAtLeast_38 : decode cX1_countAtLeast 38 = .ok (.iload_n 1, 1) := by decide +kernel
theorem dX1_countAtLeast_39 : decode cX1_countAtLeast 39 = .ok (.if_icmp .lt 6, 3) := by decide +kernel
theorem dX1_countAtLeast_42 : decode cX1_countAtLeast 42 = .ok (.iinc 3 1, 3) := by decide +kernel
theorem dX1_countAtLeast_45 : decode cX1_countAtLeast 45 = .ok (.iinc 5 1, 3) := by decide +kernel
theorem dX1_countAtLeast_48 : decode cX1_countAtLeast 48 = .ok (.goto (-31), 3) := by decide +kernel
theorem dX1_countAtLeast_51 : decode cX1_countAtLeast 51 = .ok (.iinc 4 1, 3) := by decide +kernel
theorem dX1_countAtLeast_54 : decode cX1_countAtLeast 54 = .ok (.goto (-49), 3) := by decide +kernel
theorem dX1_countAtLeast_57 : decode cX1_countAtLeast 57 = .ok (.iload_n 3, 1) := by decide +kernel
theorem dX1_countAtLeast_58 : decode cX1_countAtLeast 58 = .ok (.ireturn, 1) := by decide +kernel
theorem dX2_init_0 : decode cX2_init 0 = .ok (.aload_n 0, 1) := by decide +kernel
theorem dX2_init_1 : decode cX2_init 1 = .ok (.invokespecial 3, 3) := by decide +kernel
theorem dX2_init_4 : decode cX2_init 4 = .ok (.aload_n 0, 1) := by decide +kernel
theorem dX2_init_5 : decode cX2_init 5 = .ok (.iconst 0, 1) := by decide +kernel
theorem dX2_init_6 : decode cX2_init 6 = .ok (.putfield 9, 3) := by decide +kernel
theorem dX2_init_9 : decode cX2_init 9 = .ok (.aload_n 0, 1) := by decide +kernel
theorem dX2_init_10 : decode cX2_init 10 = .ok (.iconst (-1), 1) := by decide +kernel
theorem dX2_init_11 : decode cX2_init 11 = .ok (.putfield 15, 3) := by decide +kernel
theorem dX2_init_14 : decode cX2_init 14 = .ok (.aload_n 0, 1) := by decide +kernel
theorem dX2_init_15 : decode cX2_init 15 = .ok (.iconst 0, 1) := by decide +kernel
theorem dX2_init_16 : decode cX2_init 16 = .ok (.putfield 18, 3) := by decide +kernel
theorem dX2_init_19 : decode cX2_init 19 = .ok (.aload_n 0, 1) := by decide +kernel
theorem dX2_init_20 : decode cX2_init 20 = .ok (.iconst 0, 1) := by decide +kernel
theorem dX2_init_21 : decode cX2_init 21 = .ok (.putfield 21, 3) := by decide +kernel
theorem dX2_init_24 : decode cX2_init 24 = .ok (.aload_n 0, 1) := by decide +kernel
theorem dX2_init_25 : decode cX2_init 25 = .ok (.bipush 120, 2) := by decide +kernel
theorem dX2_init_27 : decode cX2_init 27 = .ok (.newarray .byte, 2) := by decide +kernel
theorem dX2_init_29 : decode cX2_init 29 = .ok (.putfield 24, 3) := by decide +kernel
theorem dX2_init_32 : decode cX2_init 32 = .ok (.aload_n 0, 1) := by decide +kernel
theorem dX2_init_33 : decode cX2_init 33 = .ok (.bipush 64, 2) := by decide +kernel
theorem dX2_init_35 : decode cX2_init 35 = .ok (.newarray .int, 2) := by decide +kernel
theorem dX2_init_37 : decode cX2_init 37 = .ok (.putfield 28, 3) := by decide +kernel
theorem dX2_init_40 : decode cX2_init 40 = .ok (.return_, 1) := by decide +kernel
theorem dX2_append_0 : decode cX2_append 0 = .ok (.aload_n 0, 1) := by decide +kernel
theorem dX2_append_1 : decode cX2_append 1 = .ok (.getfield 9, 3) := by decide +kernel
theorem dX2_append_4 : decode cX2_append 4 = .ok (.bipush 120, 2) := by decide +kernel
theorem dX2_append_6 : decode cX2_append 6 = .ok (.if_icmp .ge 24, 3) := by decide +kernel
theorem dX2_append_9 : decode cX2_append 9 = .ok (.aload_n 0, 1) := by decide +kernel
theorem dX2_append_10 : decode cX2_append 10 = .ok (.getfield 24, 3) := by decide +kernel
theorem dX2_append_13 : decode cX2_append 13 = .ok (.aload_n 0, 1) := by decide +kernel
theorem dX2_append_14 : decode cX2_append 14 = .ok (.getfield 9, 3) := by decide +kernel
theorem dX2_append_17 : decode cX2_append 17 = .ok (.iload_n 1, 1) := by decide +kernel
theorem dX2_append_18 : decode cX2_append 18 = .ok (.i2b, 1) := by decide +kernel
theorem dX2_append_19 : decode cX2_append 19 = .ok (.bastore, 1) := by decide +kernel
theorem dX2_append_20 : decode cX2_append 20 = .ok (.aload_n 0, 1) := by decide +kernel
theorem dX2_append_21 : decode cX2_append 21 = .ok (.dup, 1) := by decide +kernel
theorem dX2_append_22 : decode cX2_append 22 = .ok (.getfield 9, 3) := by decide +kernel
theorem dX2_append_25 : decode cX2_append 25 = .ok (.iconst 1, 1) := by decide +kernel
theorem dX2_append_26 : decode cX2_append 26 = .ok (.iadd, 1) := by decide +kernel
theorem dX2_append_27 : decode cX2_append 27 = .ok (.putfield 9, 3) := by decide +kernel
theorem dX2_append_30 : decode cX2_append 30 = .ok (.return_, 1) := by decide +kernel
theorem dX2_trait_0 : decode cX2_trait 0 = .ok (.aload_n 0, 1) := by decide +kernel
theorem dX2_trait_1 : decode cX2_trait 1 = .ok (.getfield 28, 3) := by decide +kernel
theorem dX2_trait_4 : decode cX2_trait 4 = .ok (.iload_n 1, 1) := by decide +kernel
theorem dX2_trait_5 : decode cX2_trait 5 = .ok (.iconst 4, 1) := by decide +kernel
theorem dX2_trait_6 : decode cX2_trait 6 = .ok (.imul, 1) := by decide +kernel
theorem dX2_trait_7 : decode cX2_trait 7 = .ok (.iload_n 2, 1) := by decide +kernel
theorem dX2_trait_8 : decode cX2_trait 8 = .ok (.iadd, 1) := by decide +kernel
theorem dX2_trait_9 : decode cX2_trait 9 = .ok (.iaload, 1) := by decide +kernel
theorem dX2_trait_10 : decode cX2_trait 10 = .ok (.ireturn, 1) := by decide +kernel
theorem dX2_read_0 : decode cX2_read 0 = .ok (.aload_n 0, 1) := by decide +kernel
theorem dX2_read_1 : decode cX2_read 1 = .ok (.iconst (-1), 1) := by decide +kernel
theorem dX2_read_2 : decode cX2_read 2 = .ok (.putfield 15, 3) := by decide +kernel
theorem dX2_read_5 : decode cX2_read 5 = .ok (.aload_n 0, 1) := by decide +kernel
theorem dX2_read_6 : decode cX2_read 6 = .ok (.iconst 0, 1) := by decide +kernel
theorem dX2_read_7 : decode cX2_read 7 = .ok (.putfield 18, 3) := by decide +kernel
theorem dX2_read_10 : decode cX2_read 10 = .ok (.aload_n 0, 1) := by decide +kernel
theorem dX2_read_11 : decode cX2_read 11 = .ok (.iconst 0, 1) := by decide +kernel
theorem dX2_read_12 : decode cX2_read 12 = .ok (.putfield 21, 3) := by decide +kernel
theorem dX2_read_15 : decode cX2_read 15 = .ok (.aload_n 0, 1) := by decide +kernel
theorem dX2_read_16 : decode cX2_read 16 = .ok (.invokevirtual 32, 3) := by decide +kernel
theorem dX2_read_19 : decode cX2_read 19 = .ok (.aload_n 0, 1) := by decide +kernel
theorem dX2_read_20 : decode cX2_read 20 = .ok (.getfield 21, 3) := by decide +kernel
theorem dX2_read_23 : decode cX2_read 23 = .ok (.aload_n 0, 1) := by decide +kernel
theorem dX2_read_24 : decode cX2_read 24 = .ok (.getfield 9, 3) := by decide +kernel
theorem dX2_read_27 : decode cX2_read 27 = .ok (.if_icmp .lt 11, 3) := by decide +kernel
theorem dX2_read_30 : decode cX2_read 30 = .ok (.aload_n 0, 1) := by decide +kernel
theorem dX2_read_31 : decode cX2_read 31 = .ok (.aload_n 0, 1) := by decide +kernel
theorem dX2_read_32 : decode cX2_read 32 = .ok (.getfield 9, 3) := by decide +kernel
theorem dX2_read_35 : decode cX2_read 35 = .ok (.invokevirtual 35, 3) := by decide +kernel
theorem dX2_read_38 : decode cX2_read 38 = .ok (.iconst 0, 1) := by decide +kernel
theorem dX2_read_39 : decode cX2_read 39 = .ok (.istore_n 3, 1) := by decide +kernel
theorem dX2_read_40 : decode cX2_read 40 = .ok (.iload_n 3, 1) := by decide +kernel
theorem dX2_read_41 : decode cX2_read 41 = .ok (.bipush 120, 2) := by decide +kernel
theorem dX2_read_43 : decode cX2_read 43 = .ok (.if_icmp .ge 38, 3) := by decide +kernel
theorem dX2_read_46 : decode cX2_read 46 = .ok (.aload_n 0, 1) := by decide +kernel
theorem dX2_read_47 : decode cX2_read 47 = .ok (.getfield 21, 3) := by decide +kernel
theorem dX2_read_50 : decode cX2_read 50 = .ok (.aload_n 0, 1) := by decide +kernel
theorem dX2_read_51 : decode cX2_read 51 = .ok (.getfield 9, 3) := by decide +kernel
theorem dX2_read_54 : decode cX2_read 54 = .ok (.if_icmp .ge 27, 3) := by decide +kernel
theorem dX2_read_57 : decode cX2_read 57 = .ok (.aload_n 0, 1) := by decide +kernel
theorem dX2_read_58 : decode cX2_read 58 = .ok (.getfield 15, 3) := by decide +kernel
theorem dX2_read_61 : decode cX2_read 61 = .ok (.iconst (-1), 1) := by decide +kernel
theorem dX2_read_62 : decode cX2_read 62 = .ok (.if_icmp .ne 19, 3) := by decide +kernel
theorem dX2_read_65 : decode cX2_read 65 = .ok (.aload_n 0, 1) := by decide +kernel
theorem dX2_read_66 : decode cX2_read 66 = .ok (.iload_n 1, 1) := by decide +kernel
theorem dX2_read_67 : decode cX2_read 67 = .ok (.iload_n 2, 1) := by decide +kernel
theorem dX2_read_68 : decode cX2_read 68 = .ok (.invokevirtual 39, 3) := by decide +kernel
theorem dX2_read_71 : decode cX2_read 71 = .ok (.aload_n 0, 1) := by decide +kernel
theorem dX2_read_72 : decode cX2_read 72 = .ok (.invokevirtual 32, 3) := by decide +kernel
theorem dX2_read_75 : decode cX2_read 75 = .ok (.iinc 3 1, 3) := by decide +kernel
theorem dX2_read_78 : decode cX2_read 78 = .ok (.goto (-38), 3) := by decide +kernel
theorem dX2_read_81 : decode cX2_read 81 = .ok (.return_, 1) := by decide +kernel
theorem dX2_readParcel_0 : decode cX2_readParcel 0 = .ok (.iload_n 1, 1) := by decide +kernel
theorem dX2_readParcel_1 : decode cX2_readParcel 1 = .ok (.aload_n 0, 1) := by decide +kernel
theorem dX2_readParcel_2 : decode cX2_readParcel 2 = .ok (.getfield 18, 3) := by decide +kernel
theorem dX2_readParcel_5 : decode cX2_readParcel 5 = .ok (.iadd, 1) := by decide +kernel
theorem dX2_readParcel_6 : decode cX2_readParcel 6 = .ok (.bipush 16, 2) := by decide +kernel
theorem dX2_readParcel_8 : decode cX2_readParcel 8 = .ok (.if_icmp .lt 12, 3) := by decide +kernel
theorem dX2_readParcel_11 : decode cX2_readParcel 11 = .ok (.aload_n 0, 1) := by decide +kernel
theorem dX2_readParcel_12 : decode cX2_readParcel 12 = .ok (.aload_n 0, 1) := by decide +kernel
theorem dX2_readParcel_13 : decode cX2_readParcel 13 = .ok (.getfield 21, 3) := by decide +kernel
theorem dX2_readParcel_16 : decode cX2_readParcel 16 = .ok (.invokevirtual 35, 3) := by decide +kernel
theorem dX2_readParcel_19 : decode cX2_readParcel 19 = .ok (.return_, 1) := by decide +kernel
theorem dX2_readParcel_20 : decode cX2_readParcel 20 = .ok (.aload_n 0, 1) := by decide +kernel
theorem dX2_readParcel_21 : decode cX2_readParcel 21 = .ok (.iload_n 2, 1) := by decide +kernel
theorem dX2_readParcel_22 : decode cX2_readParcel 22 = .ok (.invokevirtual 43, 3) := by decide +kernel
theorem dX2_readParcel_25 : decode cX2_readParcel 25 = .ok (.istore_n 3, 1) := by decide +kernel
theorem dX2_readParcel_26 : decode cX2_readParcel 26 = .ok (.aload_n 0, 1) := by decide +kernel
theorem dX2_readParcel_27 : decode cX2_readParcel 27 = .ok (.bipush 62, 2) := by decide +kernel
theorem dX2_readParcel_29 : decode cX2_readParcel 29 = .ok (.invokevirtual 47, 3) := by decide +kernel
theorem dX2_readParcel_32 : decode cX2_readParcel 32 = .ok (.aload_n 0, 1) := by decide +kernel
theorem dX2_readParcel_33 : decode cX2_readParcel 33 = .ok (.iload_n 2, 1) := by decide +kernel
theorem dX2_readParcel_34 : decode cX2_readParcel 34 = .ok (.invokevirtual 43, 3) := by decide +kernel
theorem dX2_readParcel_37 : decode cX2_readParcel 37 = .ok (.istore 4, 2) := by decide +kernel
theorem dX2_readParcel_39 : decode cX2_readParcel 39 = .ok (.aload_n 0, 1) := by decide +kernel
theorem dX2_readParcel_40 : decode cX2_readParcel 40 = .ok (.bipush 47, 2) := by decide +kernel
theorem dX2_readParcel_42 : decode cX2_readParcel 42 = .ok (.invokevirtual 51, 3) := by decide +kernel
theorem dX2_readParcel_45 : decode cX2_readParcel 45 = .ok (.ifCond .eq 11, 3) := by decide +kernel
theorem dX2_readParcel_48 : decode cX2_readParcel 48 = .ok (.aload_n 0, 1) := by decide +kernel
theorem dX2_readParcel_49 : decode cX2_readParcel 49 = .ok (.iload_n 2, 1) := by decide +kernel
theorem dX2_readParcel_50 : decode cX2_readParcel 50 = .ok (.invokevirtual 43, 3) := by decide +kernel
theorem dX2_readParcel_53 : decode cX2_readParcel 53 = .ok (.goto 4, 3) := by decide +kernel
theorem dX2_readParcel_56 : decode cX2_readParcel 56 = .ok (.iload_n 3, 1) := by decide +kernel
theorem dX2_readParcel_57 : decode cX2_readParcel 57 = .ok (.istore 5, 2) := by decide +kernel
theorem dX2_readParcel_59 : decode cX2_readParcel 59 = .ok (.aload_n 0, 1) := by decide +kernel
theorem dX2_readParcel_60 : decode cX2_readParcel 60 = .ok (.bipush 42, 2) := by decide +kernel
theorem dX2_readParcel_62 : decode cX2_readParcel 62 = .ok (.invokevirtual 51, 3) := by decide +kernel
theorem dX2_readParcel_65 : decode cX2_readParcel 65 = .ok (.ifCond .eq 12, 3) := by decide +kernel
theorem dX2_readParcel_68 : decode cX2_readParcel 68 = .ok (.aload_n 0, 1) := by decide +kernel
theorem dX2_readParcel_69 : decode cX2_readParcel 69 = .ok (.bipush 100, 2) := by decide +kernel
theorem dX2_readParcel_71 : decode cX2_readParcel 71 = .ok (.invokevirtual 43, 3) := by decide +kernel
theorem dX2_readParcel_74 : decode cX2_readParcel 74 = .ok (.goto 4, 3) := by decide +kernel
theorem dX2_readParcel_77 : decode cX2_readParcel 77 = .ok (.iconst 0, 1) := by decide +kernel
theorem dX2_readParcel_78 : decode cX2_readParcel 78 = .ok (.istore 6, 2) := by decide +kernel
theorem dX2_readParcel_80 : decode cX2_readParcel 80 = .ok (.aload_n 0, 1) := by decide +kernel
theorem dX2_readParcel_81 : decode cX2_readParcel 81 = .ok (.bipush 59, 2) := by decide +kernel
theorem dX2_readParcel_83 : decode cX2_readParcel 83 = .ok (.invokevirtual 47, 3) := by decide +kernel
theorem dX2_readParcel_86 : decode cX2_readParcel 86 = .ok (.aload_n 0, 1) := by decide +kernel
theorem dX2_readParcel_87 : decode cX2_readParcel 87 = .ok (.getfield 15, 3) := by decide +kernel
theorem dX2_readParcel_90 : decode cX2_readParcel 90 = .ok (.iconst (-1), 1) := by decide +kernel
theorem dX2_readParcel_91 : decode cX2_readParcel 91 = .ok (.if_icmp .ne 72, 3) := by decide +kernel
theorem dX2_readParcel_94 : decode cX2_readParcel 94 = .ok (.aload_n 0, 1) := by decide +kernel
theorem dX2_readParcel_95 : decode cX2_readParcel 95 = .ok (.getfield 28, 3) := by decide +kernel
theorem dX2_readParcel_98 : decode cX2_readParcel 98 = .ok (.aload_n 0, 1) := by decide +kernel
theorem dX2_readParcel_99 : decode cX2_readParcel 99 = .ok (.getfield 18, 3) := by decide +kernel
theorem dX2_readParcel_102 : decode cX2_readParcel 102 = .ok (.iconst 4, 1) := by decide +kernel
theorem dX2_readParcel_103 : decode cX2_readParcel 103 = .ok (.imul, 1) := by decide +kernel
theorem dX2_readParcel_104 : decode cX2_readParcel 104 = .ok (.iconst 0, 1) := by decide +kernel
theorem dX2_readParcel_105 : decode cX2_readParcel 105 = .ok (.iadd, 1) := by decide +kernel
theorem dX2_readParcel_106 : decode cX2_readParcel 106 = .ok (.iload_n 3, 1) := by decide +kernel
theorem dX2_readParcel_107 : decode cX2_readParcel 107 = .ok (.iastore, 1) := by decide +kernel
theorem dX2_readParcel_108 : decode cX2_readParcel 108 = .ok (.aload_n 0, 1) := by decide +kernel
theorem dX2_readParcel_109 : decode cX2_readParcel 109 = .ok (.getfield 28, 3) := by decide +kernel
theorem dX2_readParcel_112 : decode cX2_readParcel 112 = .ok (.aload_n 0, 1) := by decide +kernel
theorem dX2_readParcel_113 : decode cX2_readParcel 113 = .ok (.getfield 18, 3) := by decide +kernel
theorem dX2_readParcel_116 : decode cX2_readParcel 116 = .ok (.iconst 4, 1) := by decide +kernel
theorem dX2_readParcel_117 : decode cX2_readParcel 117 = .ok (.imul, 1) := by decide +kernel
theorem dX2_readParcel_118 : decode cX2_readParcel 118 = .ok (.iconst 1, 1) := by decide +kernel
theorem dX2_readParcel_119 : decode cX2_readParcel 119 = .ok (.iadd, 1) := by decide +kernel
theorem dX2_readParcel_120 : decode cX2_readParcel 120 = .ok (.iload 4, 2) := by decide +kernel
theorem dX2_readParcel_122 : decode cX2_readParcel 122 = .ok (.iastore, 1) := by decide +kernel
theorem dX2_readParcel_123 : decode cX2_readParcel 123 = .ok (.aload_n 0, 1) := by decide +kernel
theorem dX2_readParcel_124 : decode cX2_readParcel 124 = .ok (.getfield 28, 3) := by decide +kernel
theorem dX2_readParcel_127 : decode cX2_readParcel 127 = .ok (.aload_n 0, 1) := by decide +kernel
theorem dX2_readParcel_128 : decode cX2_readParcel 128 = .ok (.getfield 18, 3) := by decide +kernel
theorem dX2_readParcel_131 : decode cX2_readParcel 131 = .ok (.iconst 4, 1) := by decide +kernel
theorem dX2_readParcel_132 : decode cX2_readParcel 132 = .ok (.imul, 1) := by decide +kernel
theorem dX2_readParcel_133 : decode cX2_readParcel 133 = .ok (.iconst 2, 1) := by decide +kernel
theorem dX2_readParcel_134 : decode cX2_readParcel 134 = .ok (.iadd, 1) := by decide +kernel
theorem dX2_readParcel_135 : decode cX2_readParcel 135 = .ok (.iload 5, 2) := by decide +kernel
theorem dX2_readParcel_137 : decode cX2_readParcel 137 = .ok (.iastore, 1) := by decide +kernel
theorem dX2_readParcel_138 : decode cX2_readParcel 138 = .ok (.aload_n 0, 1) := by decide +kernel
theorem dX2_readParcel_139 : decode cX2_readParcel 139 = .ok (.getfield 28, 3) := by decide +kernel
theorem dX2_readParcel_142 : decode cX2_readParcel 142 = .ok (.aload_n 0, 1) := by decide +kernel
theorem dX2_readParcel_143 : decode cX2_readParcel 143 = .ok (.getfield 18, 3) := by decide +kernel
theorem dX2_readParcel_146 : decode cX2_readParcel 146 = .ok (.iconst 4, 1) := by decide +kernel
theorem dX2_readParcel_147 : decode cX2_readParcel 147 = .ok (.imul, 1) := by decide +kernel
theorem dX2_readParcel_148 : decode cX2_readParcel 148 = .ok (.iconst 3, 1) := by decide +kernel
theorem dX2_readParcel_149 : decode cX2_readParcel 149 = .ok (.iadd, 1) := by decide +kernel
theorem dX2_readParcel_150 : decode cX2_readParcel 150 = .ok (.iload 6, 2) := by decide +kernel
theorem dX2_readParcel_152 : decode cX2_readParcel 152 = .ok (.iastore, 1) := by decide +kernel
theorem dX2_readParcel_153 : decode cX2_readParcel 153 = .ok (.aload_n 0, 1) := by decide +kernel
theorem dX2_readParcel_154 : decode cX2_readParcel 154 = .ok (.dup, 1) := by decide +kernel
theorem dX2_readParcel_155 : decode cX2_readParcel 155 = .ok (.getfield 18, 3) := by decide +kernel
theorem dX2_readParcel_158 : decode cX2_readParcel 158 = .ok (.iconst 1, 1) := by decide +kernel
theorem dX2_readParcel_159 : decode cX2_readParcel 159 = .ok (.iadd, 1) := by decide +kernel
theorem dX2_readParcel_160 : decode cX2_readParcel 160 = .ok (.putfield 18, 3) := by decide +kernel
theorem dX2_readParcel_163 : decode cX2_readParcel 163 = .ok (.return_, 1) := by decide +kernel
theorem dX2_readNumber_0 : decode cX2_readNumber 0 = .ok (.aload_n 0, 1) := by decide +kernel
theorem dX2_readNumber_1 : decode cX2_readNumber 1 = .ok (.getfield 15, 3) := by decide +kernel
theorem dX2_readNumber_4 : decode cX2_readNumber 4 = .ok (.iconst (-1), 1) := by decide +kernel
theorem dX2_readNumber_5 : decode cX2_readNumber 5 = .ok (.if_icmp .eq 5, 3) := by decide +kernel
theorem dX2_readNumber_8 : decode cX2_readNumber 8 = .ok (.iconst 0, 1) := by decide +kernel
theorem dX2_readNumber_9 : decode cX2_readNumber 9 = .ok (.ireturn, 1) := by decide +kernel
theorem dX2_readNumber_10 : decode cX2_readNumber 10 = .ok (.aload_n 0, 1) := by decide +kernel
theorem dX2_readNumber_11 : decode cX2_readNumber 11 = .ok (.invokevirtual 32, 3) := by decide +kernel
theorem dX2_readNumber_14 : decode cX2_readNumber 14 = .ok (.aload_n 0, 1) := by decide +kernel
theorem dX2_readNumber_15 : decode cX2_readNumber 15 = .ok (.getfield 21, 3) := by decide +kernel
theorem dX2_readNumber_18 : decode cX2_readNumber 18 = .ok (.istore_n 2, 1) := by decide +kernel
theorem dX2_readNumber_19 : decode cX2_readNumber 19 = .ok (.iconst 0, 1) := by decide +kernel
theorem dX2_readNumber_20 : decode cX2_readNumber 20 = .ok (.istore_n 3, 1) := by decide +kernel
theorem dX2_readNumber_21 : decode cX2_readNumber 21 = .ok (.aload_n 0, 1) := by decide +kernel
theorem dX2_readNumber_22 : decode cX2_readNumber 22 = .ok (.getfield 21, 3) := by decide +kernel
theorem dX2_readNumber_25 : decode cX2_readNumber 25 = .ok (.aload_n 0, 1) := by decide +kernel
theorem dX2_readNumber_26 : decode cX2_readNumber 26 = .ok (.getfield 9, 3) := by decide +kernel
theorem dX2_readNumber_29 : decode cX2_readNumber 29 = .ok (.if_icmp .ge 66, 3) := by decide +kernel
theorem dX2_readNumber_32 : decode cX2_readNumber 32 = .ok (.aload_n 0, 1) := by decide +kernel
theorem dX2_readNumber_33 : decode cX2_readNumber 33 = .ok (.getfield 24, 3) := by decide +kernel
theorem dX2_readNumber_36 : decode cX2_readNumber 36 = .ok (.aload_n 0, 1) := by decide +kernel
theorem dX2_readNumber_37 : decode cX2_readNumber 37 = .ok (.getfield 21, 3) := by decide +kernel
theorem dX2_readNumber_40 : decode cX2_readNumber 40 = .ok (.baload, 1) := by decide +kernel
theorem dX2_readNumber_41 : decode cX2_readNumber 41 = .ok (.bipush 48, 2) := by decide +kernel
theorem dX2_readNumber_43 : decode cX2_readNumber 43 = .ok (.if_icmp .lt 52, 3) := by decide +kernel
theorem dX2_readNumber_46 : decode cX2_readNumber 46 = .ok (.aload_n 0, 1) := by decide +kernel
theorem dX2_readNumber_47 : decode cX2_readNumber 47 = .ok (.getfield 24, 3) := by decide +kernel
theorem dX2_readNumber_50 : decode cX2_readNumber 50 = .ok (.aload_n 0, 1) := by decide +kernel
theorem dX2_readNumber_51 : decode cX2_readNumber 51 = .ok (.getfield 21, 3) := by decide +kernel
theorem dX2_readNumber_54 : decode cX2_readNumber 54 = .ok (.baload, 1) := by decide +kernel
theorem dX2_readNumber_55 : decode cX2_readNumber 55 = .ok (.bipush 57, 2) := by decide +kernel
theorem dX2_readNumber_57 : decode cX2_readNumber 57 = .ok (.if_icmp .gt 38, 3) := by decide +kernel
theorem dX2_readNumber_60 : decode cX2_readNumber 60 = .ok (.bipush 10, 2) := by decide +kernel
theorem dX2_readNumber_62 : decode cX2_readNumber 62 = .ok (.iload_n 3, 1) := by decide +kernel
theorem dX2_readNumber_63 : decode cX2_readNumber 63 = .ok (.imul, 1) := by decide +kernel
theorem dX2_readNumber_64 : decode cX2_readNumber 64 = .ok (.aload_n 0, 1) := by decide +kernel
theorem dX2_readNumber_65 : decode cX2_readNumber 65 = .ok (.getfield 24, 3) := by decide +kernel
theorem dX2_readNumber_68 : decode cX2_readNumber 68 = .ok (.aload_n 0, 1) := by decide +kernel
theorem dX2_readNumber_69 : decode cX2_readNumber 69 = .ok (.getfield 21, 3) := by decide +kernel
theorem dX2_readNumber_72 : decode cX2_readNumber 72 = .ok (.baload, 1) := by decide +kernel
theorem dX2_readNumber_73 : decode cX2_readNumber 73 = .ok (.iadd, 1) := by decide +kernel
theorem dX2_readNumber_74 : decode cX2_readNumber 74 = .ok (.bipush 48, 2) := by decide +kernel
theorem dX2_readNumber_76 : decode cX2_readNumber 76 = .ok (.isub, 1) := by decide +kernel
theorem dX2_readNumber_77 : decode cX2_readNumber 77 = .ok (.iload_n 1, 1) := by decide +kernel
theorem dX2_readNumber_78 : decode cX2_readNumber 78 = .ok (.invokestatic 55, 3) := by decide +kernel
theorem dX2_readNumber_81 : decode cX2_readNumber 81 = .ok (.istore_n 3, 1) := by decide +kernel
theorem dX2_readNumber_82 : decode cX2_readNumber 82 = .ok (.aload_n 0, 1) := by decide +kernel
theorem dX2_readNumber_83 : decode cX2_readNumber 83 = .ok (.dup, 1) := by decide +kernel
theorem dX2_readNumber_84 : decode cX2_readNumber 84 = .ok (.getfield 21, 3) := by decide +kernel
theorem dX2_readNumber_87 : decode cX2_readNumber 87 = .ok (.iconst 1, 1) := by decide +kernel
theorem dX2_readNumber_88 : decode cX2_readNumber 88 = .ok (.iadd, 1) := by decide +kernel
theorem dX2_readNumber_89 : decode cX2_readNumber 89 = .ok (.putfield 21, 3) := by decide +kernel
theorem dX2_readNumber_92 : decode cX2_readNumber 92 = .ok (.goto (-71), 3) := by decide +kernel
theorem dX2_readNumber_95 : decode cX2_readNumber 95 = .ok (.aload_n 0, 1) := by decide +kernel
theorem dX2_readNumber_96 : decode cX2_readNumber 96 = .ok (.getfield 21, 3) := by decide +kernel
theorem dX2_readNumber_99 : decode cX2_readNumber 99 = .ok (.iload_n 2, 1) := by decide +kernel
theorem dX2_readNumber_100 : decode cX2_readNumber 100 = .ok (.if_icmp .eq 18, 3) := by decide +kernel
theorem dX2_readNumber_103 : decode cX2_readNumber 103 = .ok (.aload_n 0, 1) := by decide +kernel
theorem dX2_readNumber_104 : decode cX2_readNumber 104 = .ok (.getfield 21, 3) := by decide +kernel
theorem dX2_readNumber_107 : decode cX2_readNumber 107 = .ok (.iload_n 2, 1) := by decide +kernel
theorem dX2_readNumber_108 : decode cX2_readNumber 108 = .ok (.isub, 1) := by decide +kernel
theorem dX2_readNumber_109 : decode cX2_readNumber 109 = .ok (.iconst 2, 1) := by decide +kernel
theorem dX2_readNumber_110 : decode cX2_readNumber 110 = .ok (.if_icmp .gt 8, 3) := by decide +kernel
theorem dX2_readNumber_113 : decode cX2_readNumber 113 = .ok (.iload_n 3, 1) := by decide +kernel
theorem dX2_readNumber_114 : decode cX2_readNumber 114 = .ok (.iload_n 1, 1) := by decide +kernel
theorem dX2_readNumber_115 : decode cX2_readNumber 115 = .ok (.if_icmp .lt 8, 3) := by decide +kernel
theorem dX2_readNumber_118 : decode cX2_readNumber 118 = .ok (.aload_n 0, 1) := by decide +kernel
theorem dX2_readNumber_119 : decode cX2_readNumber 119 = .ok (.iload_n 2, 1) := by decide +kernel
theorem dX2_readNumber_120 : decode cX2_readNumber 120 = .ok (.invokevirtual 35, 3) := by decide +kernel
theorem dX2_readNumber_123 : decode cX2_readNumber 123 = .ok (.iload_n 3, 1) := by decide +kernel
theorem dX2_readNumber_124 : decode cX2_readNumber 124 = .ok (.ireturn, 1) := by decide +kernel
theorem dX2_takes_0 : decode cX2_takes 0 = .ok (.aload_n 0, 1) := by decide +kernel
theorem dX2_takes_1 : decode cX2_takes 1 = .ok (.getfield 15, 3) := by decide +kernel
theorem dX2_takes_4 : decode cX2_takes 4 = .ok (.iconst (-1), 1) := by decide +kernel
theorem dX2_takes_5 : decode cX2_takes 5 = .ok (.if_icmp .eq 5, 3) := by decide +kernel
theorem dX2_takes_8 : decode cX2_takes 8 = .ok (.iconst 0, 1) := by decide +kernel
theorem dX2_takes_9 : decode cX2_takes 9 = .ok (.ireturn, 1) := by decide +kernel
theorem dX2_takes_10 : decode cX2_takes 10 = .ok (.aload_n 0, 1) := by decide +kernel
theorem dX2_takes_11 : decode cX2_takes 11 = .ok (.invokevirtual 32, 3) := by decide +kernel
theorem dX2_takes_14 : decode cX2_takes 14 = .ok (.aload_n 0, 1) := by decide +kernel
theorem dX2_takes_15 : decode cX2_takes 15 = .ok (.getfield 21, 3) := by decide +kernel
theorem dX2_takes_18 : decode cX2_takes 18 = .ok (.aload_n 0, 1) := by decide +kernel
theorem dX2_takes_19 : decode cX2_takes 19 = .ok (.getfield 9, 3) := by decide +kernel
theorem dX2_takes_22 : decode cX2_takes 22 = .ok (.if_icmp .ge 28, 3) := by decide +kernel
theorem dX2_takes_25 : decode cX2_takes 25 = .ok (.aload_n 0, 1) := by decide +kernel
theorem dX2_takes_26 : decode cX2_takes 26 = .ok (.getfield 24, 3) := by decide +kernel
theorem dX2_takes_29 : decode cX2_takes 29 = .ok (.aload_n 0, 1) := by decide +kernel
theorem dX2_takes_30 : decode cX2_takes 30 = .ok (.getfield 21, 3) := by decide +kernel
theorem dX2_takes_33 : decode cX2_takes 33 = .ok (.baload, 1) := by decide +kernel
theorem dX2_takes_34 : decode cX2_takes 34 = .ok (.iload_n 1, 1) := by decide +kernel
theorem dX2_takes_35 : decode cX2_takes 35 = .ok (.if_icmp .ne 15, 3) := by decide +kernel
theorem dX2_takes_38 : decode cX2_takes 38 = .ok (.aload_n 0, 1) := by decide +kernel
theorem dX2_takes_39 : decode cX2_takes 39 = .ok (.dup, 1) := by decide +kernel
theorem dX2_takes_40 : decode cX2_takes 40 = .ok (.getfield 21, 3) := by decide +kernel
theorem dX2_takes_43 : decode cX2_takes 43 = .ok (.iconst 1, 1) := by decide +kernel
theorem dX2_takes_44 : decode cX2_takes 44 = .ok (.iadd, 1) := by decide +kernel
theorem dX2_takes_45 : decode cX2_takes 45 = .ok (.putfield 21, 3) := by decide +kernel
theorem dX2_takes_48 : decode cX2_takes 48 = .ok (.iconst 1, 1) := by decide +kernel
theorem dX2_takes_49 : decode cX2_takes 49 = .ok (.ireturn, 1) := by decide +kernel
theorem dX2_takes_50 : decode cX2_takes 50 = .ok (.iconst 0, 1) := by decide +kernel
theorem dX2_takes_51 : decode cX2_takes 51 = .ok (.ireturn, 1) := by decide +kernel
theorem dX2_need_0 : decode cX2_need 0 = .ok (.aload_n 0, 1) := by decide +kernel
theorem dX2_need_1 : decode cX2_need 1 = .ok (.iload_n 1, 1) := by decide +kernel
theorem dX2_need_2 : decode cX2_need 2 = .ok (.invokevirtual 51, 3) := by decide +kernel
theorem dX2_need_5 : decode cX2_need 5 = .ok (.ifCond .ne 11, 3) := by decide +kernel
theorem dX2_need_8 : decode cX2_need 8 = .ok (.aload_n 0, 1) := by decide +kernel
theorem dX2_need_9 : decode cX2_need 9 = .ok (.aload_n 0, 1) := by decide +kernel
theorem dX2_need_10 : decode cX2_need 10 = .ok (.getfield 21, 3) := by decide +kernel
theorem dX2_need_13 : decode cX2_need 13 = .ok (.invokevirtual 35, 3) := by decide +kernel
theorem dX2_need_16 : decode cX2_need 16 = .ok (.return_, 1) := by decide +kernel
theorem dX2_skipBlanks_0 : decode cX2_skipBlanks 0 = .ok (.aload_n 0, 1) := by decide +kernel
theorem dX2_skipBlanks_1 : decode cX2_skipBlanks 1 = .ok (.getfield 21, 3) := by decide +kernel
theorem dX2_skipBlanks_4 : decode cX2_skipBlanks 4 = .ok (.aload_n 0, 1) := by decide +kernel
theorem dX2_skipBlanks_5 : decode cX2_skipBlanks 5 = .ok (.getfield 9, 3) := by decide +kernel
theorem dX2_skipBlanks_8 : decode cX2_skipBlanks 8 = .ok (.if_icmp .ge 30, 3) := by decide +kernel
theorem dX2_skipBlanks_11 : decode cX2_skipBlanks 11 = .ok (.aload_n 0, 1) := by decide +kernel
theorem dX2_skipBlanks_12 : decode cX2_skipBlanks 12 = .ok (.getfield 24, 3) := by decide +kernel
theorem dX2_skipBlanks_15 : decode cX2_skipBlanks 15 = .ok (.aload_n 0, 1) := by decide +kernel
theorem dX2_skipBlanks_16 : decode cX2_skipBlanks 16 = .ok (.getfield 21, 3) := by decide +kernel
theorem dX2_skipBlanks_19 : decode cX2_skipBlanks 19 = .ok (.baload, 1) := by decide +kernel
theorem dX2_skipBlanks_20 : decode cX2_skipBlanks 20 = .ok (.bipush 32, 2) := by decide +kernel
theorem dX2_skipBlanks_22 : decode cX2_skipBlanks 22 = .ok (.if_icmp .ne 16, 3) := by decide +kernel
theorem dX2_skipBlanks_25 : decode cX2_skipBlanks 25 = .ok (.aload_n 0, 1) := by decide +kernel
theorem dX2_skipBlanks_26 : decode cX2_skipBlanks 26 = .ok (.dup, 1) := by decide +kernel
theorem dX2_skipBlanks_27 : decode cX2_skipBlanks 27 = .ok (.getfield 21, 3) := by decide +kernel
theorem dX2_skipBlanks_30 : decode cX2_skipBlanks 30 = .ok (.iconst 1, 1) := by decide +kernel
theorem dX2_skipBlanks_31 : decode cX2_skipBlanks 31 = .ok (.iadd, 1) := by decide +kernel
theorem dX2_skipBlanks_32 : decode cX2_skipBlanks 32 = .ok (.putfield 21, 3) := by decide +kernel
theorem dX2_skipBlanks_35 : decode cX2_skipBlanks 35 = .ok (.goto (-35), 3) := by decide +kernel
theorem dX2_skipBlanks_38 : decode cX2_skipBlanks 38 = .ok (.return_, 1) := by decide +kernel
theorem dX2_failAt_0 : decode cX2_failAt 0 = .ok (.aload_n 0, 1) := by decide +kernel
theorem dX2_failAt_1 : decode cX2_failAt 1 = .ok (.getfield 15, 3) := by decide +kernel
theorem dX2_failAt_4 : decode cX2_failAt 4 = .ok (.iconst (-1), 1) := by decide +kernel
theorem dX2_failAt_5 : decode cX2_failAt 5 = .ok (.if_icmp .ne 8, 3) := by decide +kernel
theorem dX2_failAt_8 : decode cX2_failAt 8 = .ok (.aload_n 0, 1) := by decide +kernel
theorem dX2_failAt_9 : decode cX2_failAt 9 = .ok (.iload_n 1, 1) := by decide +kernel
theorem dX2_failAt_10 : decode cX2_failAt 10 = .ok (.putfield 15, 3) := by decide +kernel
theorem dX2_failAt_13 : decode cX2_failAt 13 = .ok (.return_, 1) := by decide +kernel
theorem dX3_init_0 : decode cX3_init 0 = .ok (.aload_n 0, 1) := by decide +kernel
theorem dX3_init_1 : decode cX3_init 1 = .ok (.invokespecial 3, 3) := by decide +kernel
theorem dX3_init_4 : decode cX3_init 4 = .ok (.aload_n 0, 1) := by decide +kernel
theorem dX3_init_5 : decode cX3_init 5 = .ok (.iconst 3, 1) := by decide +kernel
theorem dX3_init_6 : decode cX3_init 6 = .ok (.putfield 9, 3) := by decide +kernel
theorem dX3_init_9 : decode cX3_init 9 = .ok (.aload_n 0, 1) := by decide +kernel
theorem dX3_init_10 : decode cX3_init 10 = .ok (.iconst 0, 1) := by decide +kernel
theorem dX3_init_11 : decode cX3_init 11 = .ok (.putfield 15, 3) := by decide +kernel
theorem dX3_init_14 : decode cX3_init 14 = .ok (.aload_n 0, 1) := by decide +kernel
theorem dX3_init_15 : decode cX3_init 15 = .ok (.iconst 0, 1) := by decide +kernel
theorem dX3_init_16 : decode cX3_init 16 = .ok (.putfield 18, 3) := by decide +kernel
theorem dX3_init_19 : decode cX3_init 19 = .ok (.aload_n 0, 1) := by decide +kernel
theorem dX3_init_20 : decode cX3_init 20 = .ok (.iconst 0, 1) := by decide +kernel
theorem dX3_init_21 : decode cX3_init 21 = .ok (.putfield 21, 3) := by decide +kernel
theorem dX3_init_24 : decode cX3_init 24 = .ok (.aload_n 0, 1) := by decide +kernel
theorem dX3_init_25 : decode cX3_init 25 = .ok (.bipush 64, 2) := by decide +kernel
theorem dX3_init_27 : decode cX3_init 27 = .ok (.newarray .int, 2) := by decide +kernel
theorem dX3_init_29 : decode cX3_init 29 = .ok (.putfield 24, 3) := by decide +kernel
theorem dX3_init_32 : decode cX3_init 32 = .ok (.return_, 1) := by decide +kernel
theorem dX3_corners_0 : decode cX3_corners 0 = .ok (.iconst 1, 1) := by decide +kernel
theorem dX3_corners_1 : decode cX3_corners 1 = .ok (.aload_n 0, 1) := by decide +kernel
theorem dX3_corners_2 : decode cX3_corners 2 = .ok (.getfield 9, 3) := by decide +kernel
theorem dX3_corners_5 : decode cX3_corners 5 = .ok (.ishl, 1) := by decide +kernel
theorem dX3_corners_6 : decode cX3_corners 6 = .ok (.ireturn, 1) := by decide +kernel
theorem dX3_has_0 : decode cX3_has 0 = .ok (.iload_n 1, 1) := by decide +kernel
theorem dX3_has_1 : decode cX3_has 1 = .ok (.ifCond .lt 15, 3) := by decide +kernel
theorem dX3_has_4 : decode cX3_has 4 = .ok (.iload_n 1, 1) := by decide +kernel
theorem dX3_has_5 : decode cX3_has 5 = .ok (.aload_n 0, 1) := by decide +kernel
theorem dX3_has_6 : decode cX3_has 6 = .ok (.getfield 21, 3) := by decide +kernel
theorem dX3_has_9 : decode cX3_has 9 = .ok (.if_icmp .ge 7, 3) := by decide +kernel
theorem dX3_has_12 : decode cX3_has 12 = .ok (.iconst 1, 1) := by decide +kernel
theorem dX3_has_13 : decode cX3_has 13 = .ok (.goto 4, 3) := by decide +kernel
theorem dX3_has_16 : decode cX3_has 16 = .ok (.iconst 0, 1) := by decide +kernel
theorem dX3_has_17 : decode cX3_has 17 = .ok (.ireturn, 1) := by decide +kernel
theorem dX3_hasEdge_0 : decode cX3_hasEdge 0 = .ok (.iload_n 1, 1) := by decide +kernel
theorem dX3_hasEdge_1 : decode cX3_hasEdge 1 = .ok (.ifCond .lt 27, 3) := by decide +kernel
theorem dX3_hasEdge_4 : decode cX3_hasEdge 4 = .ok (.iload_n 1, 1) := by decide +kernel
theorem dX3_hasEdge_5 : decode cX3_hasEdge 5 = .ok (.aload_n 0, 1) := by decide +kernel
theorem dX3_hasEdge_6 : decode cX3_hasEdge 6 = .ok (.invokevirtual 28, 3) := by decide +kernel
theorem dX3_hasEdge_9 : decode cX3_hasEdge 9 = .ok (.if_icmp .ge 19, 3) := by decide +kernel
theorem dX3_hasEdge_12 : decode cX3_hasEdge 12 = .ok (.iload_n 2, 1) := by decide +kernel
theorem dX3_hasEdge_13 : decode cX3_hasEdge 13 = .ok (.ifCond .lt 15, 3) := by decide +kernel
theorem dX3_hasEdge_16 : decode cX3_hasEdge 16 = .ok (.iload_n 2, 1) := by decide +kernel
theorem dX3_hasEdge_17 : decode cX3_hasEdge 17 = .ok (.aload_n 0, 1) := by decide +kernel
theorem dX3_hasEdge_18 : decode cX3_hasEdge 18 = .ok (.getfield 9, 3) := by decide +kernel
theorem dX3_hasEdge_21 : decode cX3_hasEdge 21 = .ok (.if_icmp .ge 7, 3) := by decide +kernel
theorem dX3_hasEdge_24 : decode cX3_hasEdge 24 = .ok (.iconst 1, 1) := by decide +kernel
theorem dX3_hasEdge_25 : decode cX3_hasEdge 25 = .ok (.goto 4, 3) := by decide +kernel
theorem dX3_hasEdge_28 : decode cX3_hasEdge 28 = .ok (.iconst 0, 1) := by decide +kernel
theorem dX3_hasEdge_29 : decode cX3_hasEdge 29 = .ok (.ireturn, 1) := by decide +kernel
theorem dX3_allows_0 : decode cX3_allows 0 = .ok (.iload_n 2, 1) := by decide +kernel
theorem dX3_allows_1 : decode cX3_allows 1 = .ok (.ifCond .lt 25, 3) := by decide +kernel
theorem dX3_allows_4 : decode cX3_allows 4 = .ok (.iload_n 2, 1) := by decide +kernel
theorem dX3_allows_5 : decode cX3_allows 5 = .ok (.iload_n 1, 1) := by decide +kernel
theorem dX3_allows_6 : decode cX3_allows 6 = .ok (.iconst 3, 1) := by decide +kernel
theorem dX3_allows_7 : decode cX3_allows 7 = .ok (.if_icmp .ne 8, 3) := by decide +kernel
theorem dX3_allows_10 : decode cX3_allows 10 = .ok (.bipush 100, 2) := by decide +kernel
theorem dX3_allows_12 : decode cX3_allows 12 = .ok (.goto 7, 3) := by decide +kernel
theorem dX3_allows_15 : decode cX3_allows 15 = .ok (.aload_n 0, 1) := by decide +kernel
theorem dX3_allows_16 : decode cX3_allows 16 = .ok (.invokevirtual 28, 3) := by decide +kernel
theorem dX3_allows_19 : decode cX3_allows 19 = .ok (.if_icmp .ge 7, 3) := by decide +kernel
theorem dX3_allows_22 : decode cX3_allows 22 = .ok (.iconst 1, 1) := by decide +kernel
theorem dX3_allows_23 : decode cX3_allows 23 = .ok (.goto 4, 3) := by decide +kernel
theorem dX3_allows_26 : decode cX3_allows 26 = .ok (.iconst 0, 1) := by decide +kernel
theorem dX3_allows_27 : decode cX3_allows 27 = .ok (.ireturn, 1) := by decide +kernel
theorem dX3_trait_0 : decode cX3_trait 0 = .ok (.aload_n 0, 1) := by decide +kernel
theorem dX3_trait_1 : decode cX3_trait 1 = .ok (.getfield 24, 3) := by decide +kernel
theorem dX3_trait_4 : decode cX3_trait 4 = .ok (.iload_n 1, 1) := by decide +kernel
theorem dX3_trait_5 : decode cX3_trait 5 = .ok (.iconst 4, 1) := by decide +kernel
theorem dX3_trait_6 : decode cX3_trait 6 = .ok (.imul, 1) := by decide +kernel
theorem dX3_trait_7 : decode cX3_trait 7 = .ok (.iload_n 2, 1) := by decide +kernel
theorem dX3_trait_8 : decode cX3_trait 8 = .ok (.iadd, 1) := by decide +kernel
theorem dX3_trait_9 : decode cX3_trait 9 = .ok (.iaload, 1) := by decide +kernel
theorem dX3_trait_10 : decode cX3_trait 10 = .ok (.ireturn, 1) := by decide +kernel
theorem dX3_change_0 : decode cX3_change 0 = .ok (.aload_n 0, 1) := by decide +kernel
theorem dX3_change_1 : decode cX3_change 1 = .ok (.getfield 24, 3) := by decide +kernel
theorem dX3_change_4 : decode cX3_change 4 = .ok (.iload_n 1, 1) := by decide +kernel
theorem dX3_change_5 : decode cX3_change 5 = .ok (.iconst 4, 1) := by decide +kernel
theorem dX3_change_6 : decode cX3_change 6 = .ok (.imul, 1) := by decide +kernel
theorem dX3_change_7 : decode cX3_change 7 = .ok (.iload_n 2, 1) := by decide +kernel
theorem dX3_change_8 : decode cX3_change 8 = .ok (.iadd, 1) := by decide +kernel
theorem dX3_change_9 : decode cX3_change 9 = .ok (.iload_n 3, 1) := by decide +kernel
theorem dX3_change_10 : decode cX3_change 10 = .ok (.iastore, 1) := by decide +kernel
theorem dX3_change_11 : decode cX3_change 11 = .ok (.return_, 1) := by decide +kernel
theorem dX3_add_0 : decode cX3_add 0 = .ok (.aload_n 0, 1) := by decide +kernel
theorem dX3_add_1 : decode cX3_add 1 = .ok (.getfield 21, 3) := by decide +kernel
theorem dX3_add_4 : decode cX3_add 4 = .ok (.bipush 16, 2) := by decide +kernel
theorem dX3_add_6 : decode cX3_add 6 = .ok (.if_icmp .lt 4, 3) := by decide +kernel
theorem dX3_add_9 : decode cX3_add 9 = .ok (.return_, 1) := by decide +kernel
theorem dX3_add_10 : decode cX3_add 10 = .ok (.aload_n 0, 1) := by decide +kernel
theorem dX3_add_11 : decode cX3_add 11 = .ok (.aload_n 0, 1) := by decide +kernel
theorem dX3_add_12 : decode cX3_add 12 = .ok (.getfield 21, 3) := by decide +kernel
theorem dX3_add_15 : decode cX3_add 15 = .ok (.iconst 0, 1) := by decide +kernel
theorem dX3_add_16 : decode cX3_add 16 = .ok (.iload_n 1, 1) := by decide +kernel
theorem dX3_add_17 : decode cX3_add 17 = .ok (.invokevirtual 32, 3) := by decide +kernel
theorem dX3_add_20 : decode cX3_add 20 = .ok (.aload_n 0, 1) := by decide +kernel
theorem dX3_add_21 : decode cX3_add 21 = .ok (.aload_n 0, 1) := by decide +kernel
theorem dX3_add_22 : decode cX3_add 22 = .ok (.getfield 21, 3) := by decide +kernel
theorem dX3_add_25 : decode cX3_add 25 = .ok (.iconst 1, 1) := by decide +kernel
theorem dX3_add_26 : decode cX3_add 26 = .ok (.iload_n 2, 1) := by decide +kernel
theorem dX3_add_27 : decode cX3_add 27 = .ok (.invokevirtual 32, 3) := by decide +kernel
theorem dX3_add_30 : decode cX3_add 30 = .ok (.aload_n 0, 1) := by decide +kernel
theorem dX3_add_31 : decode cX3_add 31 = .ok (.aload_n 0, 1) := by decide +kernel
theorem dX3_add_32 : decode cX3_add 32 = .ok (.getfield 21, 3) := by decide +kernel
theorem dX3_add_35 : decode cX3_add 35 = .ok (.iconst 2, 1) := by decide +kernel
theorem dX3_add_36 : decode cX3_add 36 = .ok (.iload_n 3, 1) := by decide +kernel
theorem dX3_add_37 : decode cX3_add 37 = .ok (.invokevirtual 32, 3) := by decide +kernel
theorem dX3_add_40 : decode cX3_add 40 = .ok (.aload_n 0, 1) := by decide +kernel
theorem dX3_add_41 : decode cX3_add 41 = .ok (.aload_n 0, 1) := by decide +kernel
theorem dX3_add_42 : decode cX3_add 42 = .ok (.getfield 21, 3) := by decide +kernel
theorem dX3_add_45 : decode cX3_add 45 = .ok (.iconst 3, 1) := by decide +kernel
theorem dX3_add_46 : decode cX3_add 46 = .ok (.iload 4, 2) := by decide +kernel
theorem dX3_add_48 : decode cX3_add 48 = .ok (.invokevirtual 32, 3) := by decide +kernel
theorem dX3_add_51 : decode cX3_add 51 = .ok (.aload_n 0, 1) := by decide +kernel
theorem dX3_add_52 : decode cX3_add 52 = .ok (.dup, 1) := by decide +kernel
theorem dX3_add_53 : decode cX3_add 53 = .ok (.getfield 21, 3) := by decide +kernel
theorem dX3_add_56 : decode cX3_add 56 = .ok (.iconst 1, 1) := by decide +kernel
theorem dX3_add_57 : decode cX3_add 57 = .ok (.iadd, 1) := by decide +kernel
theorem dX3_add_58 : decode cX3_add 58 = .ok (.putfield 21, 3) := by decide +kernel
theorem dX3_add_61 : decode cX3_add 61 = .ok (.return_, 1) := by decide +kernel
theorem dX3_partner_0 : decode cX3_partner 0 = .ok (.aload_n 0, 1) := by decide +kernel
theorem dX3_partner_1 : decode cX3_partner 1 = .ok (.invokevirtual 28, 3) := by decide +kernel
theorem dX3_partner_4 : decode cX3_partner 4 = .ok (.iconst 1, 1) := by decide +kernel
theorem dX3_partner_5 : decode cX3_partner 5 = .ok (.isub, 1) := by decide +kernel
theorem dX3_partner_6 : decode cX3_partner 6 = .ok (.istore_n 3, 1) := by decide +kernel
theorem dX3_partner_7 : decode cX3_partner 7 = .ok (.iload_n 2, 1) := by decide +kernel
theorem dX3_partner_8 : decode cX3_partner 8 = .ok (.ifCond .ne 7, 3) := by decide +kernel
theorem dX3_partner_11 : decode cX3_partner 11 = .ok (.iload_n 3, 1) := by decide +kernel
theorem dX3_partner_12 : decode cX3_partner 12 = .ok (.iload_n 1, 1) := by decide +kernel
theorem dX3_partner_13 : decode cX3_partner 13 = .ok (.isub, 1) := by decide +kernel
theorem dX3_partner_14 : decode cX3_partner 14 = .ok (.ireturn, 1) := by decide +kernel
theorem dX3_partner_15 : decode cX3_partner 15 = .ok (.iload_n 2, 1) := by decide +kernel
theorem dX3_partner_16 : decode cX3_partner 16 = .ok (.iconst 2, 1) := by decide +kernel
theorem dX3_partner_17 : decode cX3_partner 17 = .ok (.if_icmp .ne 16, 3) := by decide +kernel
theorem dX3_partner_20 : decode cX3_partner 20 = .ok (.iload_n 1, 1) := by decide +kernel
theorem dX3_partner_21 : decode cX3_partner 21 = .ok (.iload_n 3, 1) := by decide +kernel
theorem dX3_partner_22 : decode cX3_partner 22 = .ok (.if_icmp .ne 7, 3) := by decide +kernel
theorem dX3_partner_25 : decode cX3_partner 25 = .ok (.iconst 0, 1) := by decide +kernel
theorem dX3_partner_26 : decode cX3_partner 26 = .ok (.goto 6, 3) := by decide +kernel
theorem dX3_partner_29 : decode cX3_partner 29 = .ok (.iload_n 1, 1) := by decide +kernel
theorem dX3_partner_30 : decode cX3_partner 30 = .ok (.iconst 1, 1) := by decide +kernel
theorem dX3_partner_31 : decode cX3_partner 31 = .ok (.iadd, 1) := by decide +kernel
theorem dX3_partner_32 : decode cX3_partner 32 = .ok (.ireturn, 1) := by decide +kernel
theorem dX3_partner_33 : decode cX3_partner 33 = .ok (.iconst 0, 1) := by decide +kernel
theorem dX3_partner_34 : decode cX3_partner 34 = .ok (.istore 4, 2) := by decide +kernel
theorem dX3_partner_36 : decode cX3_partner 36 = .ok (.iconst 0, 1) := by decide +kernel
theorem dX3_partner_37 : decode cX3_partner 37 = .ok (.istore 5, 2) := by decide +kernel
theorem dX3_partner_39 : decode cX3_partner 39 = .ok (.iload 5, 2) := by decide +kernel
theorem dX3_partner_41 : decode cX3_partner 41 = .ok (.aload_n 0, 1) := by decide +kernel
theorem dX3_partner_42 : decode cX3_partner 42 = .ok (.getfield 9, 3) := by decide +kernel
theorem dX3_partner_45 : decode cX3_partner 45 = .ok (.if_icmp .ge 22, 3) := by decide +kernel
theorem dX3_partner_48 : decode cX3_partner 48 = .ok (.iconst 2, 1) := by decide +kernel
theorem dX3_partner_49 : decode cX3_partner 49 = .ok (.iload 4, 2) := by decide +kernel
theorem dX3_partner_51 : decode cX3_partner 51 = .ok (.imul, 1) := by decide +kernel
theorem dX3_partner_52 : decode cX3_partner 52 = .ok (.iload_n 1, 1) := by decide +kernel
theorem dX3_partner_53 : decode cX3_partner 53 = .ok (.iload 5, 2) := by decide +kernel
theorem dX3_partner_55 : decode cX3_partner 55 = .ok (.ishr, 1) := by decide +kernel
theorem dX3_partner_56 : decode cX3_partner 56 = .ok (.iconst 2, 1) := by decide +kernel
theorem dX3_partner_57 : decode cX3_partner 57 = .ok (.irem, 1) := by decide +kernel
theorem dX3_partner_58 : decode cX3_partner 58 = .ok (.iadd, 1) := by decide +kernel
theorem dX3_partner_59 : decode cX3_partner 59 = .ok (.istore 4, 2) := by decide +kernel
theorem dX3_partner_61 : decode cX3_partner 61 = .ok (.iinc 5 1, 3) := by decide +kernel
theorem dX3_partner_64 : decode cX3_partner 64 = .ok (.goto (-25), 3) := by decide +kernel
theorem dX3_partner_67 : decode cX3_partner 67 = .ok (.iload 4, 2) := by decide +kernel
theorem dX3_partner_69 : decode cX3_partner 69 = .ok (.ireturn, 1) := by decide +kernel
theorem dX3_take_0 : decode cX3_take 0 = .ok (.aload_n 0, 1) := by decide +kernel
theorem dX3_take_1 : decode cX3_take 1 = .ok (.aload_n 1, 1) := by decide +kernel
theorem dX3_take_2 : decode cX3_take 2 = .ok (.getfield 9, 3) := by decide +kernel
theorem dX3_take_5 : decode cX3_take 5 = .ok (.putfield 9, 3) := by decide +kernel
theorem dX3_take_8 : decode cX3_take 8 = .ok (.aload_n 0, 1) := by decide +kernel
theorem dX3_take_9 : decode cX3_take 9 = .ok (.aload_n 1, 1) := by decide +kernel
theorem dX3_take_10 : decode cX3_take 10 = .ok (.getfield 15, 3) := by decide +kernel
theorem dX3_take_13 : decode cX3_take 13 = .ok (.putfield 15, 3) := by decide +kernel
theorem dX3_take_16 : decode cX3_take 16 = .ok (.aload_n 0, 1) := by decide +kernel
theorem dX3_take_17 : decode cX3_take 17 = .ok (.aload_n 1, 1) := by decide +kernel
theorem dX3_take_18 : decode cX3_take 18 = .ok (.getfield 18, 3) := by decide +kernel
theorem dX3_take_21 : decode cX3_take 21 = .ok (.putfield 18, 3) := by decide +kernel
theorem dX3_take_24 : decode cX3_take 24 = .ok (.aload_n 0, 1) := by decide +kernel
theorem dX3_take_25 : decode cX3_take 25 = .ok (.aload_n 1, 1) := by decide +kernel
theorem dX3_take_26 : decode cX3_take 26 = .ok (.getfield 21, 3) := by decide +kernel
theorem dX3_take_29 : decode cX3_take 29 = .ok (.putfield 21, 3) := by decide +kernel
theorem dX3_take_32 : decode cX3_take 32 = .ok (.aload_n 1, 1) := by decide +kernel
theorem dX3_take_33 : decode cX3_take 33 = .ok (.getfield 24, 3) := by decide +kernel
theorem dX3_take_36 : decode cX3_take 36 = .ok (.iconst 0, 1) := by decide +kernel
theorem dX3_take_37 : decode cX3_take 37 = .ok (.aload_n 0, 1) := by decide +kernel
theorem dX3_take_38 : decode cX3_take 38 = .ok (.getfield 24, 3) := by decide +kernel
theorem dX3_take_41 : decode cX3_take 41 = .ok (.iconst 0, 1) := by decide +kernel
theorem dX3_take_42 : decode cX3_take 42 = .ok (.aload_n 0, 1) := by decide +kernel
theorem dX3_take_43 : decode cX3_take 43 = .ok (.getfield 24, 3) := by decide +kernel
theorem dX3_take_46 : decode cX3_take 46 = .ok (.arraylength, 1) := by decide +kernel
theorem dX3_take_47 : decode cX3_take 47 = .ok (.invokestatic 36, 3) := by decide +kernel
theorem dX3_take_50 : decode cX3_take 50 = .ok (.return_, 1) := by decide +kernel
theorem dX4_init_0 : decode cX4_init 0 = .ok (.aload_n 0, 1) := by decide +kernel
theorem dX4_init_1 : decode cX4_init 1 = .ok (.invokespecial 3, 3) := by decide +kernel
theorem dX4_init_4 : decode cX4_init 4 = .ok (.aload_n 0, 1) := by decide +kernel
theorem dX4_init_5 : decode cX4_init 5 = .ok (.bipush 16, 2) := by decide +kernel
theorem dX4_init_7 : decode cX4_init 7 = .ok (.newarray .int, 2) := by decide +kernel
theorem dX4_init_9 : decode cX4_init 9 = .ok (.putfield 9, 3) := by decide +kernel
theorem dX4_init_12 : decode cX4_init 12 = .ok (.aload_n 0, 1) := by decide +kernel
theorem dX4_init_13 : decode cX4_init 13 = .ok (.bipush 16, 2) := by decide +kernel
theorem dX4_init_15 : decode cX4_init 15 = .ok (.newarray .int, 2) := by decide +kernel
theorem dX4_init_17 : decode cX4_init 17 = .ok (.putfield 15, 3) := by decide +kernel
theorem dX4_init_20 : decode cX4_init 20 = .ok (.aload_n 0, 1) := by decide +kernel
theorem dX4_init_21 : decode cX4_init 21 = .ok (.bipush 16, 2) := by decide +kernel
theorem dX4_init_23 : decode cX4_init 23 = .ok (.newarray .int, 2) := by decide +kernel
theorem dX4_init_25 : decode cX4_init 25 = .ok (.putfield 18, 3) := by decide +kernel
theorem dX4_init_28 : decode cX4_init 28 = .ok (.aload_n 0, 1) := by decide +kernel
theorem dX4_init_29 : decode cX4_init 29 = .ok (.bipush 16, 2) := by decide +kernel
theorem dX4_init_31 : decode cX4_init 31 = .ok (.newarray .int, 2) := by decide +kernel
theorem dX4_init_33 : decode cX4_init 33 = .ok (.putfield 21, 3) := by decide +kernel
theorem dX4_init_36 : decode cX4_init 36 = .ok (.aload_n 0, 1) := by decide +kernel
theorem dX4_init_37 : decode cX4_init 37 = .ok (.bipush 16, 2) := by decide +kernel
theorem dX4_init_39 : decode cX4_init 39 = .ok (.newarray .int, 2) := by decide +kernel
theorem dX4_init_41 : decode cX4_init 41 = .ok (.putfield 24, 3) := by decide +kernel
theorem dX4_init_44 : decode cX4_init 44 = .ok (.aload_n 0, 1) := by decide +kernel
theorem dX4_init_45 : decode cX4_init 45 = .ok (.bipush 64, 2) := by decide +kernel
theorem dX4_init_47 : decode cX4_init 47 = .ok (.newarray .int, 2) := by decide +kernel
theorem dX4_init_49 : decode cX4_init 49 = .ok (.putfield 27, 3) := by decide +kernel
theorem dX4_init_52 : decode cX4_init 52 = .ok (.aload_n 0, 1) := by decide +kernel
theorem dX4_init_53 : decode cX4_init 53 = .ok (.bipush 64, 2) := by decide +kernel
theorem dX4_init_55 : decode cX4_init 55 = .ok (.newarray .int, 2) := by decide +kernel
theorem dX4_init_57 : decode cX4_init 57 = .ok (.putfield 30, 3) := by decide +kernel
theorem dX4_init_60 : decode cX4_init 60 = .ok (.return_, 1) := by decide +kernel
theorem dX4_flow_0 : decode cX4_flow 0 = .ok (.aload_n 0, 1) := by decide +kernel
theorem dX4_flow_1 : decode cX4_flow 1 = .ok (.iconst 0, 1) := by decide +kernel
theorem dX4_flow_2 : decode cX4_flow 2 = .ok (.putfield 33, 3) := by decide +kernel
theorem dX4_flow_5 : decode cX4_flow 5 = .ok (.aload_n 0, 1) := by decide +kernel
theorem dX4_flow_6 : decode cX4_flow 6 = .ok (.iconst 0, 1) := by decide +kernel
theorem dX4_flow_7 : decode cX4_flow 7 = .ok (.putfield 37, 3) := by decide +kernel
theorem dX4_flow_10 : decode cX4_flow 10 = .ok (.aload_n 0, 1) := by decide +kernel
theorem dX4_flow_11 : decode cX4_flow 11 = .ok (.getfield 9, 3) := by decide +kernel
theorem dX4_flow_14 : decode cX4_flow 14 = .ok (.iconst 0, 1) := by decide +kernel
theorem dX4_flow_15 : decode cX4_flow 15 = .ok (.invokestatic 40, 3) := by decide +kernel
theorem dX4_flow_18 : decode cX4_flow 18 = .ok (.aload_n 0, 1) := by decide +kernel
theorem dX4_flow_19 : decode cX4_flow 19 = .ok (.getfield 15, 3) := by decide +kernel
theorem dX4_flow_22 : decode cX4_flow 22 = .ok (.iconst 0, 1) := by decide +kernel
theorem dX4_flow_23 : decode cX4_flow 23 = .ok (.invokestatic 40, 3) := by decide +kernel
theorem dX4_flow_26 : decode cX4_flow 26 = .ok (.aload_n 0, 1) := by decide +kernel
theorem dX4_flow_27 : decode cX4_flow 27 = .ok (.getfield 18, 3) := by decide +kernel
theorem dX4_flow_30 : decode cX4_flow 30 = .ok (.iconst 0, 1) := by decide +kernel
theorem dX4_flow_31 : decode cX4_flow 31 = .ok (.invokestatic 40, 3) := by decide +kernel
theorem dX4_flow_34 : decode cX4_flow 34 = .ok (.aload_n 0, 1) := by decide +kernel
theorem dX4_flow_35 : decode cX4_flow 35 = .ok (.getfield 21, 3) := by decide +kernel
theorem dX4_flow_38 : decode cX4_flow 38 = .ok (.iconst 0, 1) := by decide +kernel
theorem dX4_flow_39 : decode cX4_flow 39 = .ok (.invokestatic 40, 3) := by decide +kernel
theorem dX4_flow_42 : decode cX4_flow 42 = .ok (.iconst 1, 1) := by decide +kernel
theorem dX4_flow_43 : decode cX4_flow 43 = .ok (.istore 5, 2) := by decide +kernel
theorem dX4_flow_45 : decode cX4_flow 45 = .ok (.iload 5, 2) := by decide +kernel
theorem dX4_flow_47 : decode cX4_flow 47 = .ok (.iload 4, 2) := by decide +kernel
theorem dX4_flow_49 : decode cX4_flow 49 = .ok (.if_icmp .gt 38, 3) := by decide +kernel
theorem dX4_flow_52 : decode cX4_flow 52 = .ok (.aload_n 0, 1) := by decide +kernel
theorem dX4_flow_53 : decode cX4_flow 53 = .ok (.aload_n 1, 1) := by decide +kernel
theorem dX4_flow_54 : decode cX4_flow 54 = .ok (.aload_n 2, 1) := by decide +kernel
theorem dX4_flow_55 : decode cX4_flow 55 = .ok (.invokevirtual 46, 3) := by decide +kernel
theorem dX4_flow_58 : decode cX4_flow 58 = .ok (.ifCond .eq 29, 3) := by decide +kernel
theorem dX4_flow_61 : decode cX4_flow 61 = .ok (.aload_n 0, 1) := by decide +kernel
theorem dX4_flow_62 : decode cX4_flow 62 = .ok (.aload_n 1, 1) := by decide +kernel
theorem dX4_flow_63 : decode cX4_flow 63 = .ok (.aload_n 2, 1) := by decide +kernel
theorem dX4_flow_64 : decode cX4_flow 64 = .ok (.iload_n 3, 1) := by decide +kernel
theorem dX4_flow_65 : decode cX4_flow 65 = .ok (.invokevirtual 50, 3) := by decide +kernel
theorem dX4_flow_68 : decode cX4_flow 68 = .ok (.aload_n 0, 1) := by decide +kernel
theorem dX4_flow_69 : decode cX4_flow 69 = .ok (.aload_n 1, 1) := by decide +kernel
theorem dX4_flow_70 : decode cX4_flow 70 = .ok (.iload 5, 2) := by decide +kernel
theorem dX4_flow_72 : decode cX4_flow 72 = .ok (.invokevirtual 54, 3) := by decide +kernel
theorem dX4_flow_75 : decode cX4_flow 75 = .ok (.aload_n 0, 1) := by decide +kernel
theorem dX4_flow_76 : decode cX4_flow 76 = .ok (.iload 5, 2) := by decide +kernel
theorem dX4_flow_78 : decode cX4_flow 78 = .ok (.putfield 33, 3) := by decide +kernel
theorem dX4_flow_81 : decode cX4_flow 81 = .ok (.iinc 5 1, 3) := by decide +kernel
theorem dX4_flow_84 : decode cX4_flow 84 = .ok (.goto (-39), 3) := by decide +kernel
theorem dX4_flow_87 : decode cX4_flow 87 = .ok (.return_, 1) := by decide +kernel
theorem dX4_look_0 : decode cX4_look 0 = .ok (.iconst 0, 1) := by decide +kernel
theorem dX4_look_1 : decode cX4_look 1 = .ok (.istore_n 3, 1) := by decide +kernel
theorem dX4_look_2 : decode cX4_look 2 = .ok (.iconst 0, 1) := by decide +kernel
theorem dX4_look_3 : decode cX4_look 3 = .ok (.istore 4, 2) := by decide +kernel
theorem dX4_look_5 : decode cX4_look 5 = .ok (.iload 4, 2) := by decide +kernel
theorem dX4_look_7 : decode cX4_look 7 = .ok (.aload_n 1, 1) := by decide +kernel
theorem dX4_look_8 : decode cX4_look 8 = .ok (.getfield 58, 3) := by decide +kernel
theorem dX4_look_11 : decode cX4_look 11 = .ok (.if_icmp .ge 76, 3) := by decide +kernel
theorem dX4_look_14 : decode cX4_look 14 = .ok (.aload_n 0, 1) := by decide +kernel
theorem dX4_look_15 : decode cX4_look 15 = .ok (.getfield 24, 3) := by decide +kernel
theorem dX4_look_18 : decode cX4_look 18 = .ok (.iload 4, 2) := by decide +kernel
theorem dX4_look_20 : decode cX4_look 20 = .ok (.iconst (-1), 1) := by decide +kernel
theorem dX4_look_21 : decode cX4_look 21 = .ok (.iastore, 1) := by decide +kernel
theorem dX4_look_22 : decode cX4_look 22 = .ok (.aload_n 0, 1) := by decide +kernel
theorem dX4_look_23 : decode cX4_look 23 = .ok (.getfield 18, 3) := by decide +kernel
theorem dX4_look_26 : decode cX4_look 26 = .ok (.iload 4, 2) := by decide +kernel
theorem dX4_look_28 : decode cX4_look 28 = .ok (.iaload, 1) := by decide +kernel
theorem dX4_look_29 : decode cX4_look 29 = .ok (.aload_n 2, 1) := by decide +kernel
theorem dX4_look_30 : decode cX4_look 30 = .ok (.getfield 63, 3) := by decide +kernel
theorem dX4_look_33 : decode cX4_look 33 = .ok (.iload 4, 2) := by decide +kernel
theorem dX4_look_35 : decode cX4_look 35 = .ok (.iaload, 1) := by decide +kernel
theorem dX4_look_36 : decode cX4_look 36 = .ok (.if_icmp .ge 45, 3) := by decide +kernel
theorem dX4_look_39 : decode cX4_look 39 = .ok (.aload_n 2, 1) := by decide +kernel
theorem dX4_look_40 : decode cX4_look 40 = .ok (.iload 4, 2) := by decide +kernel
theorem dX4_look_42 : decode cX4_look 42 = .ok (.aload_n 0, 1) := by decide +kernel
theorem dX4_look_43 : decode cX4_look 43 = .ok (.getfield 18, 3) := by decide +kernel
theorem dX4_look_46 : decode cX4_look 46 = .ok (.iload 4, 2) := by decide +kernel
theorem dX4_look_48 : decode cX4_look 48 = .ok (.iaload, 1) := by decide +kernel
theorem dX4_look_49 : decode cX4_look 49 = .ok (.invokevirtual 68, 3) := by decide +kernel
theorem dX4_look_52 : decode cX4_look 52 = .ok (.istore 5, 2) := by decide +kernel
theorem dX4_look_54 : decode cX4_look 54 = .ok (.aload_n 0, 1) := by decide +kernel
theorem dX4_look_55 : decode cX4_look 55 = .ok (.getfield 24, 3) := by decide +kernel
theorem dX4_look_58 : decode cX4_look 58 = .ok (.iload 4, 2) := by decide +kernel
theorem dX4_look_60 : decode cX4_look 60 = .ok (.iload 5, 2) := by decide +kernel
theorem dX4_look_62 : decode cX4_look 62 = .ok (.iastore, 1) := by decide +kernel
theorem dX4_look_63 : decode cX4_look 63 = .ok (.aload_n 0, 1) := by decide +kernel
theorem dX4_look_64 : decode cX4_look 64 = .ok (.getfield 27, 3) := by decide +kernel
theorem dX4_look_67 : decode cX4_look 67 = .ok (.iload 5, 2) := by decide +kernel
theorem dX4_look_69 : decode cX4_look 69 = .ok (.iconst 0, 1) := by decide +kernel
theorem dX4_look_70 : decode cX4_look 70 = .ok (.iastore, 1) := by decide +kernel
theorem dX4_look_71 : decode cX4_look 71 = .ok (.aload_n 0, 1) := by decide +kernel
theorem dX4_look_72 : decode cX4_look 72 = .ok (.getfield 30, 3) := by decide +kernel
theorem dX4_look_75 : decode cX4_look 75 = .ok (.iload 5, 2) := by decide +kernel
theorem dX4_look_77 : decode cX4_look 77 = .ok (.iconst (-1), 1) := by decide +kernel
theorem dX4_look_78 : decode cX4_look 78 = .ok (.iastore, 1) := by decide +kernel
theorem dX4_look_79 : decode cX4_look 79 = .ok (.iconst 1, 1) := by decide +kernel
theorem dX4_look_80 : decode cX4_look 80 = .ok (.istore_n 3, 1) := by decide +kernel
theorem dX4_look_81 : decode cX4_look 81 = .ok (.iinc 4 1, 3) := by decide +kernel
theorem dX4_look_84 : decode cX4_look 84 = .ok (.goto (-79), 3) := by decide +kernel
theorem dX4_look_87 : decode cX4_look 87 = .ok (.iload_n 3, 1) := by decide +kernel
theorem dX4_look_88 : decode cX4_look 88 = .ok (.ireturn, 1) := by decide +kernel
theorem dX4_contest_0 : decode cX4_contest 0 = .ok (.iconst 0, 1) := by decide +kernel
theorem dX4_contest_1 : decode cX4_contest 1 = .ok (.istore 4, 2) := by decide +kernel
theorem dX4_contest_3 : decode cX4_contest 3 = .ok (.iload 4, 2) := by decide +kernel
theorem dX4_contest_5 : decode cX4_contest 5 = .ok (.aload_n 1, 1) := by decide +kernel
theorem dX4_contest_6 : decode cX4_contest 6 = .ok (.getfield 58, 3) := by decide +kernel
theorem dX4_contest_9 : decode cX4_contest 9 = .ok (.if_icmp .ge 92, 3) := by decide +kernel
theorem dX4_contest_12 : decode cX4_contest 12 = .ok (.aload_n 0, 1) := by decide +kernel
theorem dX4_contest_13 : decode cX4_contest 13 = .ok (.getfield 24, 3) := by decide +kernel
theorem dX4_contest_16 : decode cX4_contest 16 = .ok (.iload 4, 2) := by decide +kernel
theorem dX4_contest_18 : decode cX4_contest 18 = .ok (.iaload, 1) := by decide +kernel
theorem dX4_contest_19 : decode cX4_contest 19 = .ok (.istore 5, 2) := by decide +kernel
theorem dX4_contest_21 : decode cX4_contest 21 = .ok (.iload 5, 2) := by decide +kernel
theorem dX4_contest_23 : decode cX4_contest 23 = .ok (.iconst (-1), 1) := by decide +kernel
theorem dX4_contest_24 : decode cX4_contest 24 = .ok (.if_icmp .eq 71, 3) := by decide +kernel
theorem dX4_contest_27 : decode cX4_contest 27 = .ok (.aload_n 0, 1) := by decide +kernel
theorem dX4_contest_28 : decode cX4_contest 28 = .ok (.getfield 27, 3) := by decide +kernel
theorem dX4_contest_31 : decode cX4_contest 31 = .ok (.iload 5, 2) := by decide +kernel
theorem dX4_contest_33 : decode cX4_contest 33 = .ok (.dup2, 1) := by decide +kernel
theorem dX4_contest_34 : decode cX4_contest 34 = .ok (.iaload, 1) := by decide +kernel
theorem dX4_contest_35 : decode cX4_contest 35 = .ok (.iconst 1, 1) := by decide +kernel
theorem dX4_contest_36 : decode cX4_contest 36 = .ok (.iadd, 1) := by decide +kernel
theorem dX4_contest_37 : decode cX4_contest 37 = .ok (.iastore, 1) := by decide +kernel
theorem dX4_contest_38 : decode cX4_contest 38 = .ok (.aload_n 0, 1) := by decide +kernel
theorem dX4_contest_39 : decode cX4_contest 39 = .ok (.aload_n 0, 1) := by decide +kernel
theorem dX4_contest_40 : decode cX4_contest 40 = .ok (.getfield 37, 3) := by decide +kernel
theorem dX4_contest_43 : decode cX4_contest 43 = .ok (.aload_n 0, 1) := by decide +kernel
theorem dX4_contest_44 : decode cX4_contest 44 = .ok (.getfield 27, 3) := by decide +kernel
theorem dX4_contest_47 : decode cX4_contest 47 = .ok (.iload 5, 2) := by decide +kernel
theorem dX4_contest_49 : decode cX4_contest 49 = .ok (.iaload, 1) := by decide +kernel
theorem dX4_contest_50 : decode cX4_contest 50 = .ok (.invokestatic 72, 3) := by decide +kernel
theorem dX4_contest_53 : decode cX4_contest 53 = .ok (.putfield 37, 3) := by decide +kernel
theorem dX4_contest_56 : decode cX4_contest 56 = .ok (.aload_n 0, 1) := by decide +kernel
theorem dX4_contest_57 : decode cX4_contest 57 = .ok (.getfield 30, 3) := by decide +kernel
theorem dX4_contest_60 : decode cX4_contest 60 = .ok (.iload 5, 2) := by decide +kernel
theorem dX4_contest_62 : decode cX4_contest 62 = .ok (.iaload, 1) := by decide +kernel
theorem dX4_contest_63 : decode cX4_contest 63 = .ok (.iconst (-1), 1) := by decide +kernel
theorem dX4_contest_64 : decode cX4_contest 64 = .ok (.if_icmp .eq 22, 3) := by decide +kernel
theorem dX4_contest_67 : decode cX4_contest 67 = .ok (.aload_n 0, 1) := by decide +kernel
theorem dX4_contest_68 : decode cX4_contest 68 = .ok (.aload_n 1, 1) := by decide +kernel
theorem dX4_contest_69 : decode cX4_contest 69 = .ok (.aload_n 2, 1) := by decide +kernel
theorem dX4_contest_70 : decode cX4_contest 70 = .ok (.iload_n 3, 1) := by decide +kernel
theorem dX4_contest_71 : decode cX4_contest 71 = .ok (.iload 4, 2) := by decide +kernel
theorem dX4_contest_73 : decode cX4_contest 73 = .ok (.aload_n 0, 1) := by decide +kernel
theorem dX4_contest_74 : decode cX4_contest 74 = .ok (.getfield 30, 3) := by decide +kernel
theorem dX4_contest_77 : decode cX4_contest 77 = .ok (.iload 5, 2) := by decide +kernel
theorem dX4_contest_79 : decode cX4_contest 79 = .ok (.iaload, 1) := by decide +kernel
theorem dX4_contest_80 : decode cX4_contest 80 = .ok (.invokevirtual 77, 3) := by decide +kernel
theorem dX4_contest_83 : decode cX4_contest 83 = .ok (.ifCond .eq 12, 3) := by decide +kernel
theorem dX4_contest_86 : decode cX4_contest 86 = .ok (.aload_n 0, 1) := by decide +kernel
theorem dX4_contest_87 : decode cX4_contest 87 = .ok (.getfield 30, 3) := by decide +kernel
theorem dX4_contest_90 : decode cX4_contest 90 = .ok (.iload 5, 2) := by decide +kernel
theorem dX4_contest_92 : decode cX4_contest 92 = .ok (.iload 4, 2) := by decide +kernel
theorem dX4_contest_94 : decode cX4_contest 94 = .ok (.iastore, 1) := by decide +kernel
theorem dX4_contest_95 : decode cX4_contest 95 = .ok (.iinc 4 1, 3) := by decide +kernel
theorem dX4_contest_98 : decode cX4_contest 98 = .ok (.goto (-95), 3) := by decide +kernel
theorem dX4_contest_101 : decode cX4_contest 101 = .ok (.return_, 1) := by decide +kernel
theorem dX4_move_0 : decode cX4_move 0 = .ok (.iconst 0, 1) := by decide +kernel
theorem dX4_move_1 : decode cX4_move 1 = .ok (.istore_n 3, 1) := by decide +kernel
theorem dX4_move_2 : decode cX4_move 2 = .ok (.iload_n 3, 1) := by decide +kernel
theorem dX4_move_3 : decode cX4_move 3 = .ok (.aload_n 1, 1) := by decide +kernel
theorem dX4_move_4 : decode cX4_move 4 = .ok (.getfield 58, 3) := by decide +kernel
theorem dX4_move_7 : decode cX4_move 7 = .ok (.if_icmp .ge 74, 3) := by decide +kernel
theorem dX4_move_10 : decode cX4_move 10 = .ok (.aload_n 0, 1) := by decide +kernel
theorem dX4_move_11 : decode cX4_move 11 = .ok (.getfield 24, 3) := by decide +kernel
theorem dX4_move_14 : decode cX4_move 14 = .ok (.iload_n 3, 1) := by decide +kernel
theorem dX4_move_15 : decode cX4_move 15 = .ok (.iaload, 1) := by decide +kernel
theorem dX4_move_16 : decode cX4_move 16 = .ok (.istore 4, 2) := by decide +kernel
theorem dX4_move_18 : decode cX4_move 18 = .ok (.iload 4, 2) := by decide +kernel
theorem dX4_move_20 : decode cX4_move 20 = .ok (.iconst (-1), 1) := by decide +kernel
theorem dX4_move_21 : decode cX4_move 21 = .ok (.if_icmp .ne 6, 3) := by decide +kernel
theorem dX4_move_24 : decode cX4_move 24 = .ok (.goto 51, 3) := by decide +kernel
theorem dX4_move_27 : decode cX4_move 27 = .ok (.aload_n 0, 1) := by decide +kernel
theorem dX4_move_28 : decode cX4_move 28 = .ok (.getfield 30, 3) := by decide +kernel
theorem dX4_move_31 : decode cX4_move 31 = .ok (.iload 4, 2) := by decide +kernel
theorem dX4_move_33 : decode cX4_move 33 = .ok (.iaload, 1) := by decide +kernel
theorem dX4_move_34 : decode cX4_move 34 = .ok (.iload_n 3, 1) := by decide +kernel
theorem dX4_move_35 : decode cX4_move 35 = .ok (.if_icmp .ne 30, 3) := by decide +kernel
theorem dX4_move_38 : decode cX4_move 38 = .ok (.aload_n 0, 1) := by decide +kernel
theorem dX4_move_39 : decode cX4_move 39 = .ok (.getfield 18, 3) := by decide +kernel
theorem dX4_move_42 : decode cX4_move 42 = .ok (.iload_n 3, 1) := by decide +kernel
theorem dX4_move_43 : decode cX4_move 43 = .ok (.dup2, 1) := by decide +kernel
theorem dX4_move_44 : decode cX4_move 44 = .ok (.iaload, 1) := by decide +kernel
theorem dX4_move_45 : decode cX4_move 45 = .ok (.iconst 1, 1) := by decide +kernel
theorem dX4_move_46 : decode cX4_move 46 = .ok (.iadd, 1) := by decide +kernel
theorem dX4_move_47 : decode cX4_move 47 = .ok (.iastore, 1) := by decide +kernel
theorem dX4_move_48 : decode cX4_move 48 = .ok (.aload_n 0, 1) := by decide +kernel
theorem dX4_move_49 : decode cX4_move 49 = .ok (.getfield 21, 3) := by decide +kernel
theorem dX4_move_52 : decode cX4_move 52 = .ok (.iload_n 3, 1) := by decide +kernel
theorem dX4_move_53 : decode cX4_move 53 = .ok (.iload_n 2, 1) := by decide +kernel
theorem dX4_move_54 : decode cX4_move 54 = .ok (.iastore, 1) := by decide +kernel
theorem dX4_move_55 : decode cX4_move 55 = .ok (.aload_n 0, 1) := by decide +kernel
theorem dX4_move_56 : decode cX4_move 56 = .ok (.getfield 9, 3) := by decide +kernel
theorem dX4_move_59 : decode cX4_move 59 = .ok (.iload_n 3, 1) := by decide +kernel
theorem dX4_move_60 : decode cX4_move 60 = .ok (.iload_n 2, 1) := by decide +kernel
theorem dX4_move_61 : decode cX4_move 61 = .ok (.iastore, 1) := by decide +kernel
theorem dX4_move_62 : decode cX4_move 62 = .ok (.goto 13, 3) := by decide +kernel
theorem dX4_move_65 : decode cX4_move 65 = .ok (.aload_n 0, 1) := by decide +kernel
theorem dX4_move_66 : decode cX4_move 66 = .ok (.getfield 15, 3) := by decide +kernel
theorem dX4_move_69 : decode cX4_move 69 = .ok (.iload_n 3, 1) := by decide +kernel
theorem dX4_move_70 : decode cX4_move 70 = .ok (.dup2, 1) := by decide +kernel
theorem dX4_move_71 : decode cX4_move 71 = .ok (.iaload, 1) := by decide +kernel
theorem dX4_move_72 : decode cX4_move 72 = .ok (.iconst 1, 1) := by decide +kernel
theorem dX4_move_73 : decode cX4_move 73 = .ok (.iadd, 1) := by decide +kernel
theorem dX4_move_74 : decode cX4_move 74 = .ok (.iastore, 1) := by decide +kernel
theorem dX4_move_75 : decode cX4_move 75 = .ok (.iinc 3 1, 3) := by decide +kernel
theorem dX4_move_78 : decode cX4_move 78 = .ok (.goto (-76), 3) := by decide +kernel
theorem dX4_move_81 : decode cX4_move 81 = .ok (.return_, 1) := by decide +kernel
theorem dX4_isAhead_0 : decode cX4_isAhead 0 = .ok (.aload_n 0, 1) := by decide +kernel
theorem dX4_isAhead_1 : decode cX4_isAhead 1 = .ok (.aload_n 2, 1) := by decide +kernel
theorem dX4_isAhead_2 : decode cX4_isAhead 2 = .ok (.iload_n 3, 1) := by decide +kernel
theorem dX4_isAhead_3 : decode cX4_isAhead 3 = .ok (.iload 4, 2) := by decide +kernel
theorem dX4_isAhead_5 : decode cX4_isAhead 5 = .ok (.iload 5, 2) := by decide +kernel
theorem dX4_isAhead_7 : decode cX4_isAhead 7 = .ok (.invokevirtual 81, 3) := by decide +kernel
theorem dX4_isAhead_10 : decode cX4_isAhead 10 = .ok (.istore 6, 2) := by decide +kernel
theorem dX4_isAhead_12 : decode cX4_isAhead 12 = .ok (.iload 6, 2) := by decide +kernel
theorem dX4_isAhead_14 : decode cX4_isAhead 14 = .ok (.ifCond .eq 14, 3) := by decide +kernel
theorem dX4_isAhead_17 : decode cX4_isAhead 17 = .ok (.iload 6, 2) := by decide +kernel
theorem dX4_isAhead_19 : decode cX4_isAhead 19 = .ok (.ifCond .le 7, 3) := by decide +kernel
theorem dX4_isAhead_22 : decode cX4_isAhead 22 = .ok (.iconst 1, 1) := by decide +kernel
theorem dX4_isAhead_23 : decode cX4_isAhead 23 = .ok (.goto 4, 3) := by decide +kernel
theorem dX4_isAhead_26 : decode cX4_isAhead 26 = .ok (.iconst 0, 1) := by decide +kernel
theorem dX4_isAhead_27 : decode cX4_isAhead 27 = .ok (.ireturn, 1) := by decide +kernel
theorem dX4_isAhead_28 : decode cX4_isAhead 28 = .ok (.aload_n 1, 1) := by decide +kernel
theorem dX4_isAhead_29 : decode cX4_isAhead 29 = .ok (.iload 4, 2) := by decide +kernel
theorem dX4_isAhead_31 : decode cX4_isAhead 31 = .ok (.iconst 3, 1) := by decide +kernel
theorem dX4_isAhead_32 : decode cX4_isAhead 32 = .ok (.invokevirtual 85, 3) := by decide +kernel
theorem dX4_isAhead_35 : decode cX4_isAhead 35 = .ok (.istore 7, 2) := by decide +kernel
theorem dX4_isAhead_37 : decode cX4_isAhead 37 = .ok (.aload_n 1, 1) := by decide +kernel
theorem dX4_isAhead_38 : decode cX4_isAhead 38 = .ok (.iload 5, 2) := by decide +kernel
theorem dX4_isAhead_40 : decode cX4_isAhead 40 = .ok (.iconst 3, 1) := by decide +kernel
theorem dX4_isAhead_41 : decode cX4_isAhead 41 = .ok (.invokevirtual 85, 3) := by decide +kernel
theorem dX4_isAhead_44 : decode cX4_isAhead 44 = .ok (.istore 8, 2) := by decide +kernel
theorem dX4_isAhead_46 : decode cX4_isAhead 46 = .ok (.iload 7, 2) := by decide +kernel
theorem dX4_isAhead_48 : decode cX4_isAhead 48 = .ok (.iload 8, 2) := by decide +kernel
theorem dX4_isAhead_50 : decode cX4_isAhead 50 = .ok (.if_icmp .eq 18, 3) := by decide +kernel
theorem dX4_isAhead_53 : decode cX4_isAhead 53 = .ok (.iload 7, 2) := by decide +kernel
theorem dX4_isAhead_55 : decode cX4_isAhead 55 = .ok (.iload 8, 2) := by decide +kernel
theorem dX4_isAhead_57 : decode cX4_isAhead 57 = .ok (.if_icmp .le 7, 3) := by decide +kernel
theorem dX4_isAhead_60 : decode cX4_isAhead 60 = .ok (.iconst 1, 1) := by decide +kernel
theorem dX4_isAhead_61 : decode cX4_isAhead 61 = .ok (.goto 19, 3) := by decide +kernel
theorem dX4_isAhead_64 : decode cX4_isAhead 64 = .ok (.iconst 0, 1) := by decide +kernel
theorem dX4_isAhead_65 : decode cX4_isAhead 65 = .ok (.goto 15, 3) := by decide +kernel
theorem dX4_isAhead_68 : decode cX4_isAhead 68 = .ok (.iload 4, 2) := by decide +kernel
theorem dX4_isAhead_70 : decode cX4_isAhead 70 = .ok (.iload 5, 2) := by decide +kernel
theorem dX4_isAhead_72 : decode cX4_isAhead 72 = .ok (.if_icmp .ge 7, 3) := by decide +kernel
theorem dX4_isAhead_75 : decode cX4_isAhead 75 = .ok (.iconst 1, 1) := by decide +kernel
theorem dX4_isAhead_76 : decode cX4_isAhead 76 = .ok (.goto 4, 3) := by decide +kernel
theorem dX4_isAhead_79 : decode cX4_isAhead 79 = .ok (.iconst 0, 1) := by decide +kernel
theorem dX4_isAhead_80 : decode cX4_isAhead 80 = .ok (.ireturn, 1) := by decide +kernel
theorem dX4_lead_0 : decode cX4_lead 0 = .ok (.iload_n 2, 1) := by decide +kernel
theorem dX4_lead_1 : decode cX4_lead 1 = .ok (.tableswitch 91 0 3 #[31, 91, 46, 76], 31) := by decide +kernel
theorem dX4_lead_32 : decode cX4_lead 32 = .ok (.aload_n 0, 1) := by decide +kernel
theorem dX4_lead_33 : decode cX4_lead 33 = .ok (.getfield 21, 3) := by decide +kernel
theorem dX4_lead_36 : decode cX4_lead 36 = .ok (.iload 4, 2) := by decide +kernel
theorem dX4_lead_38 : decode cX4_lead 38 = .ok (.iaload, 1) := by decide +kernel
theorem dX4_lead_39 : decode cX4_lead 39 = .ok (.aload_n 0, 1) := by decide +kernel
theorem dX4_lead_40 : decode cX4_lead 40 = .ok (.getfield 21, 3) := by decide +kernel
theorem dX4_lead_43 : decode cX4_lead 43 = .ok (.iload_n 3, 1) := by decide +kernel
theorem dX4_lead_44 : decode cX4_lead 44 = .ok (.iaload, 1) := by decide +kernel
theorem dX4_lead_45 : decode cX4_lead 45 = .ok (.isub, 1) := by decide +kernel
theorem dX4_lead_46 : decode cX4_lead 46 = .ok (.ireturn, 1) := by decide +kernel
theorem dX4_lead_47 : decode cX4_lead 47 = .ok (.aload_n 1, 1) := by decide +kernel
theorem dX4_lead_48 : decode cX4_lead 48 = .ok (.getfield 63, 3) := by decide +kernel
theorem dX4_lead_51 : decode cX4_lead 51 = .ok (.iload_n 3, 1) := by decide +kernel
theorem dX4_lead_52 : decode cX4_lead 52 = .ok (.iaload, 1) := by decide +kernel
theorem dX4_lead_53 : decode cX4_lead 53 = .ok (.aload_n 0, 1) := by decide +kernel
theorem dX4_lead_54 : decode cX4_lead 54 = .ok (.getfield 18, 3) := by decide +kernel
theorem dX4_lead_57 : decode cX4_lead 57 = .ok (.iload_n 3, 1) := by decide +kernel
theorem dX4_lead_58 : decode cX4_lead 58 = .ok (.iaload, 1) := by decide +kernel
theorem dX4_lead_59 : decode cX4_lead 59 = .ok (.isub, 1) := by decide +kernel
theorem dX4_lead_60 : decode cX4_lead 60 = .ok (.aload_n 1, 1) := by decide +kernel
theorem dX4_lead_61 : decode cX4_lead 61 = .ok (.getfield 63, 3) := by decide +kernel
theorem dX4_lead_64 : decode cX4_lead 64 = .ok (.iload 4, 2) := by decide +kernel
theorem dX4_lead_66 : decode cX4_lead 66 = .ok (.iaload, 1) := by decide +kernel
theorem dX4_lead_67 : decode cX4_lead 67 = .ok (.aload_n 0, 1) := by decide +kernel
theorem dX4_lead_68 : decode cX4_lead 68 = .ok (.getfield 18, 3) := by decide +kernel
theorem dX4_lead_71 : decode cX4_lead 71 = .ok (.iload 4, 2) := by decide +kernel
theorem dX4_lead_73 : decode cX4_lead 73 = .ok (.iaload, 1) := by decide +kernel
theorem dX4_lead_74 : decode cX4_lead 74 = .ok (.isub, 1) := by decide +kernel
theorem dX4_lead_75 : decode cX4_lead 75 = .ok (.isub, 1) := by decide +kernel
theorem dX4_lead_76 : decode cX4_lead 76 = .ok (.ireturn, 1) := by decide +kernel
theorem dX4_lead_77 : decode cX4_lead 77 = .ok (.aload_n 0, 1) := by decide +kernel
theorem dX4_lead_78 : decode cX4_lead 78 = .ok (.aload_n 1, 1) := by decide +kernel
theorem dX4_lead_79 : decode cX4_lead 79 = .ok (.iload_n 3, 1) := by decide +kernel
theorem dX4_lead_80 : decode cX4_lead 80 = .ok (.invokevirtual 88, 3) := by decide +kernel
theorem dX4_lead_83 : decode cX4_lead 83 = .ok (.aload_n 0, 1) := by decide +kernel
theorem dX4_lead_84 : decode cX4_lead 84 = .ok (.aload_n 1, 1) := by decide +kernel
theorem dX4_lead_85 : decode cX4_lead 85 = .ok (.iload 4, 2) := by decide +kernel
theorem dX4_lead_87 : decode cX4_lead 87 = .ok (.invokevirtual 88, 3) := by decide +kernel
theorem dX4_lead_90 : decode cX4_lead 90 = .ok (.isub, 1) := by decide +kernel
theorem dX4_lead_91 : decode cX4_lead 91 = .ok (.ireturn, 1) := by decide +kernel
theorem dX4_lead_92 : decode cX4_lead 92 = .ok (.iconst 0, 1) := by decide +kernel
theorem dX4_lead_93 : decode cX4_lead 93 = .ok (.ireturn, 1) := by decide +kernel
theorem dX4_legOf_0 : decode cX4_legOf 0 = .ok (.aload_n 0, 1) := by decide +kernel
theorem dX4_legOf_1 : decode cX4_legOf 1 = .ok (.getfield 18, 3) := by decide +kernel
theorem dX4_legOf_4 : decode cX4_legOf 4 = .ok (.iload_n 2, 1) := by decide +kernel
theorem dX4_legOf_5 : decode cX4_legOf 5 = .ok (.iaload, 1) := by decide +kernel
theorem dX4_legOf_6 : decode cX4_legOf 6 = .ok (.aload_n 1, 1) := by decide +kernel
theorem dX4_legOf_7 : decode cX4_legOf 7 = .ok (.getfield 92, 3) := by decide +kernel
theorem dX4_legOf_10 : decode cX4_legOf 10 = .ok (.iload_n 2, 1) := by decide +kernel
theorem dX4_legOf_11 : decode cX4_legOf 11 = .ok (.iaload, 1) := by decide +kernel
theorem dX4_legOf_12 : decode cX4_legOf 12 = .ok (.if_icmp .ge 7, 3) := by decide +kernel
theorem dX4_legOf_15 : decode cX4_legOf 15 = .ok (.iconst 1, 1) := by decide +kernel
theorem dX4_legOf_16 : decode cX4_legOf 16 = .ok (.goto 4, 3) := by decide +kernel
theorem dX4_legOf_19 : decode cX4_legOf 19 = .ok (.iconst 2, 1) := by decide +kernel
theorem dX4_legOf_20 : decode cX4_legOf 20 = .ok (.ireturn, 1) := by decide +kernel
theorem dX4_delayOfAll_0 : decode cX4_delayOfAll 0 = .ok (.iconst 0, 1) := by decide +kernel
theorem dX4_delayOfAll_1 : decode cX4_delayOfAll 1 = .ok (.istore_n 2, 1) := by decide +kernel
theorem dX4_delayOfAll_2 : decode cX4_delayOfAll 2 = .ok (.iconst 0, 1) := by decide +kernel
theorem dX4_delayOfAll_3 : decode cX4_delayOfAll 3 = .ok (.istore_n 3, 1) := by decide +kernel
theorem dX4_delayOfAll_4 : decode cX4_delayOfAll 4 = .ok (.iload_n 3, 1) := by decide +kernel
theorem dX4_delayOfAll_5 : decode cX4_delayOfAll 5 = .ok (.iload_n 1, 1) := by decide +kernel
theorem dX4_delayOfAll_6 : decode cX4_delayOfAll 6 = .ok (.if_icmp .ge 18, 3) := by decide +kernel
theorem dX4_delayOfAll_9 : decode cX4_delayOfAll 9 = .ok (.iload_n 2, 1) := by decide +kernel
theorem dX4_delayOfAll_10 : decode cX4_delayOfAll 10 = .ok (.aload_n 0, 1) := by decide +kernel
theorem dX4_delayOfAll_11 : decode cX4_delayOfAll 11 = .ok (.getfield 15, 3) := by decide +kernel
theorem dX4_delayOfAll_14 : decode cX4_delayOfAll 14 = .ok (.iload_n 3, 1) := by decide +kernel
theorem dX4_delayOfAll_15 : decode cX4_delayOfAll 15 = .ok (.iaload, 1) := by decide +kernel
theorem dX4_delayOfAll_16 : decode cX4_delayOfAll 16 = .ok (.iadd, 1) := by decide +kernel
theorem dX4_delayOfAll_17 : decode cX4_delayOfAll 17 = .ok (.istore_n 2, 1) := by decide +kernel
theorem dX4_delayOfAll_18 : decode cX4_delayOfAll 18 = .ok (.iinc 3 1, 3) := by decide +kernel
theorem dX4_delayOfAll_21 : decode cX4_delayOfAll 21 = .ok (.goto (-17), 3) := by decide +kernel
theorem dX4_delayOfAll_24 : decode cX4_delayOfAll 24 = .ok (.iload_n 2, 1) := by decide +kernel
theorem dX4_delayOfAll_25 : decode cX4_delayOfAll 25 = .ok (.ireturn, 1) := by decide +kernel
theorem dX4_mostDelayed_0 : decode cX4_mostDelayed 0 = .ok (.iconst (-1), 1) := by decide +kernel
theorem dX4_mostDelayed_1 : decode cX4_mostDelayed 1 = .ok (.istore_n 2, 1) := by decide +kernel
theorem dX4_mostDelayed_2 : decode cX4_mostDelayed 2 = .ok (.iconst 0, 1) := by decide +kernel
theorem dX4_mostDelayed_3 : decode cX4_mostDelayed 3 = .ok (.istore_n 3, 1) := by decide +kernel
theorem dX4_mostDelayed_4 : decode cX4_mostDelayed 4 = .ok (.iload_n 3, 1) := by decide +kernel
theorem dX4_mostDelayed_5 : decode cX4_mostDelayed 5 = .ok (.iload_n 1, 1) := by decide +kernel
theorem dX4_mostDelayed_6 : decode cX4_mostDelayed 6 = .ok (.if_icmp .ge 31, 3) := by decide +kernel
theorem dX4_mostDelayed_9 : decode cX4_mostDelayed 9 = .ok (.iload_n 2, 1) := by decide +kernel
theorem dX4_mostDelayed_10 : decode cX4_mostDelayed 10 = .ok (.iconst (-1), 1) := by decide +kernel
theorem dX4_mostDelayed_11 : decode cX4_mostDelayed 11 = .ok (.if_icmp .eq 18, 3) := by decide +kernel
theorem dX4_mostDelayed_14 : decode cX4_mostDelayed 14 = .ok (.aload_n 0, 1) := by decide +kernel
theorem dX4_mostDelayed_15 : decode cX4_mostDelayed 15 = .ok (.getfield 15, 3) := by decide +kernel
theorem dX4_mostDelayed_18 : decode cX4_mostDelayed 18 = .ok (.iload_n 3, 1) := by decide +kernel
theorem dX4_mostDelayed_19 : decode cX4_mostDelayed 19 = .ok (.iaload, 1) := by decide +kernel
theorem dX4_mostDelayed_20 : decode cX4_mostDelayed 20 = .ok (.aload_n 0, 1) := by decide +kernel
theorem dX4_mostDelayed_21 : decode cX4_mostDelayed 21 = .ok (.getfield 15, 3) := by decide +kernel
theorem dX4_mostDelayed_24 : decode cX4_mostDelayed 24 = .ok (.iload_n 2, 1) := by decide +kernel
theorem dX4_mostDelayed_25 : decode cX4_mostDelayed 25 = .ok (.iaload, 1) := by decide +kernel
theorem dX4_mostDelayed_26 : decode cX4_mostDelayed 26 = .ok (.if_icmp .le 5, 3) := by decide +kernel
theorem dX4_mostDelayed_29 : decode cX4_mostDelayed 29 = .ok (.iload_n 3, 1) := by decide +kernel
theorem dX4_mostDelayed_30 : decode cX4_mostDelayed 30 = .ok (.istore_n 2, 1) := by decide +kernel
theorem dX4_mostDelayed_31 : decode cX4_mostDelayed 31 = .ok (.iinc 3 1, 3) := by decide +kernel
theorem dX4_mostDelayed_34 : decode cX4_mostDelayed 34 = .ok (.goto (-30), 3) := by decide +kernel
theorem dX4_mostDelayed_37 : decode cX4_mostDelayed 37 = .ok (.iload_n 2, 1) := by decide +kernel
theorem dX4_mostDelayed_38 : decode cX4_mostDelayed 38 = .ok (.ireturn, 1) := by decide +kernel
theorem dX5_init_0 : decode cX5_init 0 = .ok (.aload_n 0, 1) := by decide +kernel
theorem dX5_init_1 : decode cX5_init 1 = .ok (.invokespecial 3, 3) := by decide +kernel
theorem dX5_init_4 : decode cX5_init 4 = .ok (.aload_n 0, 1) := by decide +kernel
theorem dX5_init_5 : decode cX5_init 5 = .ok (.bipush 16, 2) := by decide +kernel
theorem dX5_init_7 : decode cX5_init 7 = .ok (.newarray .int, 2) := by decide +kernel
theorem dX5_init_9 : decode cX5_init 9 = .ok (.putfield 9, 3) := by decide +kernel
theorem dX5_init_12 : decode cX5_init 12 = .ok (.aload_n 0, 1) := by decide +kernel
theorem dX5_init_13 : decode cX5_init 13 = .ok (.bipush 16, 2) := by decide +kernel
theorem dX5_init_15 : decode cX5_init 15 = .ok (.newarray .int, 2) := by decide +kernel
theorem dX5_init_17 : decode cX5_init 17 = .ok (.putfield 15, 3) := by decide +kernel
theorem dX5_init_20 : decode cX5_init 20 = .ok (.aload_n 0, 1) := by decide +kernel
theorem dX5_init_21 : decode cX5_init 21 = .ok (.sipush 128, 3) := by decide +kernel
theorem dX5_init_24 : decode cX5_init 24 = .ok (.newarray .int, 2) := by decide +kernel
theorem dX5_init_26 : decode cX5_init 26 = .ok (.putfield 18, 3) := by decide +kernel
theorem dX5_init_29 : decode cX5_init 29 = .ok (.aload_n 0, 1) := by decide +kernel
theorem dX5_init_30 : decode cX5_init 30 = .ok (.bipush 16, 2) := by decide +kernel
theorem dX5_init_32 : decode cX5_init 32 = .ok (.newarray .long, 2) := by decide +kernel
theorem dX5_init_34 : decode cX5_init 34 = .ok (.putfield 21, 3) := by decide +kernel
theorem dX5_init_37 : decode cX5_init 37 = .ok (.return_, 1) := by decide +kernel
theorem dX5_follow_0 : decode cX5_follow 0 = .ok (.iconst 0, 1) := by decide +kernel
theorem dX5_follow_1 : decode cX5_follow 1 = .ok (.istore_n 2, 1) := by decide +kernel
theorem dX5_follow_2 : decode cX5_follow 2 = .ok (.iload_n 2, 1) := by decide +kernel
theorem dX5_follow_3 : decode cX5_follow 3 = .ok (.aload_n 1, 1) := by decide +kernel
theorem dX5_follow_4 : decode cX5_follow 4 = .ok (.getfield 25, 3) := by decide +kernel
theorem dX5_follow_7 : decode cX5_follow 7 = .ok (.if_icmp .ge 21, 3) := by decide +kernel
theorem dX5_follow_10 : decode cX5_follow 10 = .ok (.aload_n 0, 1) := by decide +kernel
theorem dX5_follow_11 : decode cX5_follow 11 = .ok (.aload_n 1, 1) := by decide +kernel
theorem dX5_follow_12 : decode cX5_follow 12 = .ok (.iload_n 2, 1) := by decide +kernel
theorem dX5_follow_13 : decode cX5_follow 13 = .ok (.aload_n 1, 1) := by decide +kernel
theorem dX5_follow_14 : decode cX5_follow 14 = .ok (.iload_n 2, 1) := by decide +kernel
theorem dX5_follow_15 : decode cX5_follow 15 = .ok (.iconst 2, 1) := by decide +kernel
theorem dX5_follow_16 : decode cX5_follow 16 = .ok (.invokevirtual 31, 3) := by decide +kernel
theorem dX5_follow_19 : decode cX5_follow 19 = .ok (.invokevirtual 35, 3) := by decide +kernel
theorem dX5_follow_22 : decode cX5_follow 22 = .ok (.iinc 2 1, 3) := by decide +kernel
theorem dX5_follow_25 : decode cX5_follow 25 = .ok (.goto (-23), 3) := by decide +kernel
theorem dX5_follow_28 : decode cX5_follow 28 = .ok (.return_, 1) := by decide +kernel
theorem dX5_trace_0 : decode cX5_trace 0 = .ok (.aload_n 0, 1) := by decide +kernel
theorem dX5_trace_1 : decode cX5_trace 1 = .ok (.getfield 9, 3) := by decide +kernel
theorem dX5_trace_4 : decode cX5_trace 4 = .ok (.iload_n 2, 1) := by decide +kernel
theorem dX5_trace_5 : decode cX5_trace 5 = .ok (.iconst 0, 1) := by decide +kernel
theorem dX5_trace_6 : decode cX5_trace 6 = .ok (.iastore, 1) := by decide +kernel
theorem dX5_trace_7 : decode cX5_trace 7 = .ok (.aload_n 0, 1) := by decide +kernel
theorem dX5_trace_8 : decode cX5_trace 8 = .ok (.getfield 21, 3) := by decide +kernel
theorem dX5_trace_11 : decode cX5_trace 11 = .ok (.iload_n 2, 1) := by decide +kernel
theorem dX5_trace_12 : decode cX5_trace 12 = .ok (.lconst 0, 1) := by decide +kernel
theorem dX5_trace_13 : decode cX5_trace 13 = .ok (.lastore, 1) := by decide +kernel
theorem dX5_trace_14 : decode cX5_trace 14 = .ok (.aload_n 0, 1) := by decide +kernel
theorem dX5_trace_15 : decode cX5_trace 15 = .ok (.aload_n 1, 1) := by decide +kernel
theorem dX5_trace_16 : decode cX5_trace 16 = .ok (.iload_n 2, 1) := by decide +kernel
theorem dX5_trace_17 : decode cX5_trace 17 = .ok (.aload_n 1, 1) := by decide +kernel
theorem dX5_trace_18 : decode cX5_trace 18 = .ok (.iload_n 2, 1) := by decide +kernel
theorem dX5_trace_19 : decode cX5_trace 19 = .ok (.iconst 0, 1) := by decide +kernel
theorem dX5_trace_20 : decode cX5_trace 20 = .ok (.invokevirtual 31, 3) := by decide +kernel
theorem dX5_trace_23 : decode cX5_trace 23 = .ok (.iload_n 3, 1) := by decide +kernel
theorem dX5_trace_24 : decode cX5_trace 24 = .ok (.invokevirtual 39, 3) := by decide +kernel
theorem dX5_trace_27 : decode cX5_trace 27 = .ok (.aload_n 0, 1) := by decide +kernel
theorem dX5_trace_28 : decode cX5_trace 28 = .ok (.getfield 15, 3) := by decide +kernel
theorem dX5_trace_31 : decode cX5_trace 31 = .ok (.iload_n 2, 1) := by decide +kernel
theorem dX5_trace_32 : decode cX5_trace 32 = .ok (.aload_n 0, 1) := by decide +kernel
theorem dX5_trace_33 : decode cX5_trace 33 = .ok (.getfield 9, 3) := by decide +kernel
theorem dX5_trace_36 : decode cX5_trace 36 = .ok (.iload_n 2, 1) := by decide +kernel
theorem dX5_trace_37 : decode cX5_trace 37 = .ok (.iaload, 1) := by decide +kernel
theorem dX5_trace_38 : decode cX5_trace 38 = .ok (.iastore, 1) := by decide +kernel
theorem dX5_trace_39 : decode cX5_trace 39 = .ok (.aload_n 0, 1) := by decide +kernel
theorem dX5_trace_40 : decode cX5_trace 40 = .ok (.aload_n 1, 1) := by decide +kernel
theorem dX5_trace_41 : decode cX5_trace 41 = .ok (.iload_n 2, 1) := by decide +kernel
theorem dX5_trace_42 : decode cX5_trace 42 = .ok (.iload_n 3, 1) := by decide +kernel
theorem dX5_trace_43 : decode cX5_trace 43 = .ok (.aload_n 1, 1) := by decide +kernel
theorem dX5_trace_44 : decode cX5_trace 44 = .ok (.iload_n 2, 1) := by decide +kernel
theorem dX5_trace_45 : decode cX5_trace 45 = .ok (.iconst 1, 1) := by decide +kernel
theorem dX5_trace_46 : decode cX5_trace 46 = .ok (.invokevirtual 31, 3) := by decide +kernel
theorem dX5_trace_49 : decode cX5_trace 49 = .ok (.invokevirtual 39, 3) := by decide +kernel
theorem dX5_trace_52 : decode cX5_trace 52 = .ok (.return_, 1) := by decide +kernel
theorem dX5_addLeg_0 : decode cX5_addLeg 0 = .ok (.iload_n 3, 1) := by decide +kernel
theorem dX5_addLeg_1 : decode cX5_addLeg 1 = .ok (.istore 5, 2) := by decide +kernel
theorem dX5_addLeg_3 : decode cX5_addLeg 3 = .ok (.iconst 0, 1) := by decide +kernel
theorem dX5_addLeg_4 : decode cX5_addLeg 4 = .ok (.istore 6, 2) := by decide +kernel
theorem dX5_addLeg_6 : decode cX5_addLeg 6 = .ok (.iload 6, 2) := by decide +kernel
theorem dX5_addLeg_8 : decode cX5_addLeg 8 = .ok (.aload_n 1, 1) := by decide +kernel
theorem dX5_addLeg_9 : decode cX5_addLeg 9 = .ok (.getfield 43, 3) := by decide +kernel
theorem dX5_addLeg_12 : decode cX5_addLeg 12 = .ok (.if_icmp .ge 106, 3) := by decide +kernel
theorem dX5_addLeg_15 : decode cX5_addLeg 15 = .ok (.aload_n 1, 1) := by decide +kernel
theorem dX5_addLeg_16 : decode cX5_addLeg 16 = .ok (.getfield 46, 3) := by decide +kernel
theorem dX5_addLeg_19 : decode cX5_addLeg 19 = .ok (.ifCond .ne 8, 3) := by decide +kernel
theorem dX5_addLeg_22 : decode cX5_addLeg 22 = .ok (.iload 6, 2) := by decide +kernel
theorem dX5_addLeg_24 : decode cX5_addLeg 24 = .ok (.goto 12, 3) := by decide +kernel
theorem dX5_addLeg_27 : decode cX5_addLeg 27 = .ok (.aload_n 1, 1) := by decide +kernel
theorem dX5_addLeg_28 : decode cX5_addLeg 28 = .ok (.getfield 43, 3) := by decide +kernel
theorem dX5_addLeg_31 : decode cX5_addLeg 31 = .ok (.iconst 1, 1) := by decide +kernel
theorem dX5_addLeg_32 : decode cX5_addLeg 32 = .ok (.isub, 1) := by decide +kernel
theorem dX5_addLeg_33 : decode cX5_addLeg 33 = .ok (.iload 6, 2) := by decide +kernel
theorem dX5_addLeg_35 : decode cX5_addLeg 35 = .ok (.isub, 1) := by decide +kernel
theorem dX5_addLeg_36 : decode cX5_addLeg 36 = .ok (.istore 7, 2) := by decide +kernel
theorem dX5_addLeg_38 : decode cX5_addLeg 38 = .ok (.iconst 1, 1) := by decide +kernel
theorem dX5_addLeg_39 : decode cX5_addLeg 39 = .ok (.iload 7, 2) := by decide +kernel
theorem dX5_addLeg_41 : decode cX5_addLeg 41 = .ok (.ishl, 1) := by decide +kernel
theorem dX5_addLeg_42 : decode cX5_addLeg 42 = .ok (.istore 8, 2) := by decide +kernel
theorem dX5_addLeg_44 : decode cX5_addLeg 44 = .ok (.iload 5, 2) := by decide +kernel
theorem dX5_addLeg_46 : decode cX5_addLeg 46 = .ok (.iload 4, 2) := by decide +kernel
theorem dX5_addLeg_48 : decode cX5_addLeg 48 = .ok (.ixor, 1) := by decide +kernel
theorem dX5_addLeg_49 : decode cX5_addLeg 49 = .ok (.iload 8, 2) := by decide +kernel
theorem dX5_addLeg_51 : decode cX5_addLeg 51 = .ok (.iand, 1) := by decide +kernel
theorem dX5_addLeg_52 : decode cX5_addLeg 52 = .ok (.ifCond .eq 60, 3) := by decide +kernel
theorem dX5_addLeg_55 : decode cX5_addLeg 55 = .ok (.iload 5, 2) := by decide +kernel
theorem dX5_addLeg_57 : decode cX5_addLeg 57 = .ok (.iconst 4, 1) := by decide +kernel
theorem dX5_addLeg_58 : decode cX5_addLeg 58 = .ok (.imul, 1) := by decide +kernel
theorem dX5_addLeg_59 : decode cX5_addLeg 59 = .ok (.iload 7, 2) := by decide +kernel
theorem dX5_addLeg_61 : decode cX5_addLeg 61 = .ok (.iadd, 1) := by decide +kernel
theorem dX5_addLeg_62 : decode cX5_addLeg 62 = .ok (.istore 9, 2) := by decide +kernel
theorem dX5_addLeg_64 : decode cX5_addLeg 64 = .ok (.aload_n 0, 1) := by decide +kernel
theorem dX5_addLeg_65 : decode cX5_addLeg 65 = .ok (.getfield 18, 3) := by decide +kernel
theorem dX5_addLeg_68 : decode cX5_addLeg 68 = .ok (.iload_n 2, 1) := by decide +kernel
theorem dX5_addLeg_69 : decode cX5_addLeg 69 = .ok (.bipush 8, 2) := by decide +kernel
theorem dX5_addLeg_71 : decode cX5_addLeg 71 = .ok (.imul, 1) := by decide +kernel
theorem dX5_addLeg_72 : decode cX5_addLeg 72 = .ok (.aload_n 0, 1) := by decide +kernel
theorem dX5_addLeg_73 : decode cX5_addLeg 73 = .ok (.getfield 9, 3) := by decide +kernel
theorem dX5_addLeg_76 : decode cX5_addLeg 76 = .ok (.iload_n 2, 1) := by decide +kernel
theorem dX5_addLeg_77 : decode cX5_addLeg 77 = .ok (.iaload, 1) := by decide +kernel
theorem dX5_addLeg_78 : decode cX5_addLeg 78 = .ok (.iadd, 1) := by decide +kernel
theorem dX5_addLeg_79 : decode cX5_addLeg 79 = .ok (.iload 9, 2) := by decide +kernel
theorem dX5_addLeg_81 : decode cX5_addLeg 81 = .ok (.iastore, 1) := by decide +kernel
theorem dX5_addLeg_82 : decode cX5_addLeg 82 = .ok (.aload_n 0, 1) := by decide +kernel
theorem dX5_addLeg_83 : decode cX5_addLeg 83 = .ok (.getfield 21, 3) := by decide +kernel
theorem dX5_addLeg_86 : decode cX5_addLeg 86 = .ok (.iload_n 2, 1) := by decide +kernel
theorem dX5_addLeg_87 : decode cX5_addLeg 87 = .ok (.dup2, 1) := by decide +kernel
theorem dX5_addLeg_88 : decode cX5_addLeg 88 = .ok (.laload, 1) := by decide +kernel
theorem dX5_addLeg_89 : decode cX5_addLeg 89 = .ok (.lconst 1, 1) := by decide +kernel
theorem dX5_addLeg_90 : decode cX5_addLeg 90 = .ok (.iload 9, 2) := by decide +kernel
theorem dX5_addLeg_92 : decode cX5_addLeg 92 = .ok (.lshl, 1) := by decide +kernel
theorem dX5_addLeg_93 : decode cX5_addLeg 93 = .ok (.lor, 1) := by decide +kernel
theorem dX5_addLeg_94 : decode cX5_addLeg 94 = .ok (.lastore, 1) := by decide +kernel
theorem dX5_addLeg_95 : decode cX5_addLeg 95 = .ok (.aload_n 0, 1) := by decide +kernel
theorem dX5_addLeg_96 : decode cX5_addLeg 96 = .ok (.getfield 9, 3) := by decide +kernel
theorem dX5_addLeg_99 : decode cX5_addLeg 99 = .ok (.iload_n 2, 1) := by decide +kernel
theorem dX5_addLeg_100 : decode cX5_addLeg 100 = .ok (.dup2, 1) := by decide +kernel
theorem dX5_addLeg_101 : decode cX5_addLeg 101 = .ok (.iaload, 1) := by decide +kernel
theorem dX5_addLeg_102 : decode cX5_addLeg 102 = .ok (.iconst 1, 1) := by decide +kernel
theorem dX5_addLeg_103 : decode cX5_addLeg 103 = .ok (.iadd, 1) := by decide +kernel
theorem dX5_addLeg_104 : decode cX5_addLeg 104 = .ok (.iastore, 1) := by decide +kernel
theorem dX5_addLeg_105 : decode cX5_addLeg 105 = .ok (.iload 5, 2) := by decide +kernel
theorem dX5_addLeg_107 : decode cX5_addLeg 107 = .ok (.iload 8, 2) := by decide +kernel
theorem dX5_addLeg_109 : decode cX5_addLeg 109 = .ok (.ixor, 1) := by decide +kernel
theorem dX5_addLeg_110 : decode cX5_addLeg 110 = .ok (.istore 5, 2) := by decide +kernel
theorem dX5_addLeg_112 : decode cX5_addLeg 112 = .ok (.iinc 6 1, 3) := by decide +kernel
theorem dX5_addLeg_115 : decode cX5_addLeg 115 = .ok (.goto (-109), 3) := by decide +kernel
theorem dX5_addLeg_118 : decode cX5_addLeg 118 = .ok (.return_, 1) := by decide +kernel
theorem dX5_edge_0 : decode cX5_edge 0 = .ok (.aload_n 0, 1) := by decide +kernel
theorem dX5_edge_1 : decode cX5_edge 1 = .ok (.getfield 18, 3) := by decide +kernel
theorem dX5_edge_4 : decode cX5_edge 4 = .ok (.iload_n 1, 1) := by decide +kernel
theorem dX5_edge_5 : decode cX5_edge 5 = .ok (.bipush 8, 2) := by decide +kernel
theorem dX5_edge_7 : decode cX5_edge 7 = .ok (.imul, 1) := by decide +kernel
theorem dX5_edge_8 : decode cX5_edge 8 = .ok (.iload_n 2, 1) := by decide +kernel
theorem dX5_edge_9 : decode cX5_edge 9 = .ok (.iadd, 1) := by decide +kernel
theorem dX5_edge_10 : decode cX5_edge 10 = .ok (.iaload, 1) := by decide +kernel
theorem dX5_edge_11 : decode cX5_edge 11 = .ok (.ireturn, 1) := by decide +kernel
theorem dX5_cornerBehind_0 : decode cX5_cornerBehind 0 = .ok (.iload_n 3, 1) := by decide +kernel
theorem dX5_cornerBehind_1 : decode cX5_cornerBehind 1 = .ok (.aload_n 0, 1) := by decide +kernel
theorem dX5_cornerBehind_2 : decode cX5_cornerBehind 2 = .ok (.getfield 9, 3) := by decide +kernel
theorem dX5_cornerBehind_5 : decode cX5_cornerBehind 5 = .ok (.iload_n 2, 1) := by decide +kernel
theorem dX5_cornerBehind_6 : decode cX5_cornerBehind 6 = .ok (.iaload, 1) := by decide +kernel
theorem dX5_cornerBehind_7 : decode cX5_cornerBehind 7 = .ok (.if_icmp .ge 14, 3) := by decide +kernel
theorem dX5_cornerBehind_10 : decode cX5_cornerBehind 10 = .ok (.aload_n 0, 1) := by decide +kernel
theorem dX5_cornerBehind_11 : decode cX5_cornerBehind 11 = .ok (.iload_n 2, 1) := by decide +kernel
theorem dX5_cornerBehind_12 : decode cX5_cornerBehind 12 = .ok (.iload_n 3, 1) := by decide +kernel
theorem dX5_cornerBehind_13 : decode cX5_cornerBehind 13 = .ok (.invokevirtual 49, 3) := by decide +kernel
theorem dX5_cornerBehind_16 : decode cX5_cornerBehind 16 = .ok (.iconst 4, 1) := by decide +kernel
theorem dX5_cornerBehind_17 : decode cX5_cornerBehind 17 = .ok (.idiv, 1) := by decide +kernel
theorem dX5_cornerBehind_18 : decode cX5_cornerBehind 18 = .ok (.goto 9, 3) := by decide +kernel
theorem dX5_cornerBehind_21 : decode cX5_cornerBehind 21 = .ok (.aload_n 1, 1) := by decide +kernel
theorem dX5_cornerBehind_22 : decode cX5_cornerBehind 22 = .ok (.iload_n 2, 1) := by decide +kernel
theorem dX5_cornerBehind_23 : decode cX5_cornerBehind 23 = .ok (.iconst 1, 1) := by decide +kernel
theorem dX5_cornerBehind_24 : decode cX5_cornerBehind 24 = .ok (.invokevirtual 31, 3) := by decide +kernel
theorem dX5_cornerBehind_27 : decode cX5_cornerBehind 27 = .ok (.ireturn, 1) := by decide +kernel
theorem dX5_meetings_0 : decode cX5_meetings 0 = .ok (.iconst 0, 1) := by decide +kernel
theorem dX5_meetings_1 : decode cX5_meetings 1 = .ok (.istore_n 3, 1) := by decide +kernel
theorem dX5_meetings_2 : decode cX5_meetings 2 = .ok (.iconst 0, 1) := by decide +kernel
theorem dX5_meetings_3 : decode cX5_meetings 3 = .ok (.istore 4, 2) := by decide +kernel
theorem dX5_meetings_5 : decode cX5_meetings 5 = .ok (.iload 4, 2) := by decide +kernel
theorem dX5_meetings_7 : decode cX5_meetings 7 = .ok (.iload_n 2, 1) := by decide +kernel
theorem dX5_meetings_8 : decode cX5_meetings 8 = .ok (.if_icmp .ge 37, 3) := by decide +kernel
theorem dX5_meetings_11 : decode cX5_meetings 11 = .ok (.iload 4, 2) := by decide +kernel
theorem dX5_meetings_13 : decode cX5_meetings 13 = .ok (.iload_n 1, 1) := by decide +kernel
theorem dX5_meetings_14 : decode cX5_meetings 14 = .ok (.if_icmp .eq 25, 3) := by decide +kernel
theorem dX5_meetings_17 : decode cX5_meetings 17 = .ok (.aload_n 0, 1) := by decide +kernel
theorem dX5_meetings_18 : decode cX5_meetings 18 = .ok (.getfield 21, 3) := by decide +kernel
theorem dX5_meetings_21 : decode cX5_meetings 21 = .ok (.iload 4, 2) := by decide +kernel
theorem dX5_meetings_23 : decode cX5_meetings 23 = .ok (.laload, 1) := by decide +kernel
theorem dX5_meetings_24 : decode cX5_meetings 24 = .ok (.aload_n 0, 1) := by decide +kernel
theorem dX5_meetings_25 : decode cX5_meetings 25 = .ok (.getfield 21, 3) := by decide +kernel
theorem dX5_meetings_28 : decode cX5_meetings 28 = .ok (.iload_n 1, 1) := by decide +kernel
theorem dX5_meetings_29 : decode cX5_meetings 29 = .ok (.laload, 1) := by decide +kernel
theorem dX5_meetings_30 : decode cX5_meetings 30 = .ok (.land, 1) := by decide +kernel
theorem dX5_meetings_31 : decode cX5_meetings 31 = .ok (.lconst 0, 1) := by decide +kernel
theorem dX5_meetings_32 : decode cX5_meetings 32 = .ok (.lcmp, 1) := by decide +kernel
theorem dX5_meetings_33 : decode cX5_meetings 33 = .ok (.ifCond .eq 6, 3) := by decide +kernel
theorem dX5_meetings_36 : decode cX5_meetings 36 = .ok (.iinc 3 1, 3) := by decide +kernel
theorem dX5_meetings_39 : decode cX5_meetings 39 = .ok (.iinc 4 1, 3) := by decide +kernel
theorem dX5_meetings_42 : decode cX5_meetings 42 = .ok (.goto (-37), 3) := by decide +kernel
theorem dX5_meetings_45 : decode cX5_meetings 45 = .ok (.iload_n 3, 1) := by decide +kernel
theorem dX5_meetings_46 : decode cX5_meetings 46 = .ok (.ireturn, 1) := by decide +kernel
theorem dX6_init_0 : decode cX6_init 0 = .ok (.aload_n 0, 1) := by decide +kernel
theorem dX6_init_1 : decode cX6_init 1 = .ok (.invokespecial 1, 3) := by decide +kernel
theorem dX6_init_4 : decode cX6_init 4 = .ok (.aload_n 0, 1) := by decide +kernel
theorem dX6_init_5 : decode cX6_init 5 = .ok (.new 7, 3) := by decide +kernel
theorem dX6_init_8 : decode cX6_init 8 = .ok (.dup, 1) := by decide +kernel
theorem dX6_init_9 : decode cX6_init 9 = .ok (.invokespecial 9, 3) := by decide +kernel
theorem dX6_init_12 : decode cX6_init 12 = .ok (.putfield 10, 3) := by decide +kernel
theorem dX6_init_15 : decode cX6_init 15 = .ok (.aload_n 0, 1) := by decide +kernel
theorem dX6_init_16 : decode cX6_init 16 = .ok (.new 16, 3) := by decide +kernel
theorem dX6_init_19 : decode cX6_init 19 = .ok (.dup, 1) := by decide +kernel
theorem dX6_init_20 : decode cX6_init 20 = .ok (.invokespecial 18, 3) := by decide +kernel
theorem dX6_init_23 : decode cX6_init 23 = .ok (.putfield 19, 3) := by decide +kernel
theorem dX6_init_26 : decode cX6_init 26 = .ok (.aload_n 0, 1) := by decide +kernel
theorem dX6_init_27 : decode cX6_init 27 = .ok (.new 23, 3) := by decide +kernel
theorem dX6_init_30 : decode cX6_init 30 = .ok (.dup, 1) := by decide +kernel
theorem dX6_init_31 : decode cX6_init 31 = .ok (.invokespecial 25, 3) := by decide +kernel
theorem dX6_init_34 : decode cX6_init 34 = .ok (.putfield 26, 3) := by decide +kernel
theorem dX6_init_37 : decode cX6_init 37 = .ok (.aload_n 0, 1) := by decide +kernel
theorem dX6_init_38 : decode cX6_init 38 = .ok (.new 30, 3) := by decide +kernel
theorem dX6_init_41 : decode cX6_init 41 = .ok (.dup, 1) := by decide +kernel
theorem dX6_init_42 : decode cX6_init 42 = .ok (.invokespecial 32, 3) := by decide +kernel
theorem dX6_init_45 : decode cX6_init 45 = .ok (.putfield 33, 3) := by decide +kernel
theorem dX6_init_48 : decode cX6_init 48 = .ok (.aload_n 0, 1) := by decide +kernel
theorem dX6_init_49 : decode cX6_init 49 = .ok (.new 37, 3) := by decide +kernel
theorem dX6_init_52 : decode cX6_init 52 = .ok (.dup, 1) := by decide +kernel
theorem dX6_init_53 : decode cX6_init 53 = .ok (.invokespecial 39, 3) := by decide +kernel
theorem dX6_init_56 : decode cX6_init 56 = .ok (.putfield 40, 3) := by decide +kernel
theorem dX6_init_59 : decode cX6_init 59 = .ok (.aload_n 0, 1) := by decide +kernel
theorem dX6_init_60 : decode cX6_init 60 = .ok (.new 44, 3) := by decide +kernel
theorem dX6_init_63 : decode cX6_init 63 = .ok (.dup, 1) := by decide +kernel
theorem dX6_init_64 : decode cX6_init 64 = .ok (.invokespecial 46, 3) := by decide +kernel
theorem dX6_init_67 : decode cX6_init 67 = .ok (.putfield 47, 3) := by decide +kernel
theorem dX6_init_70 : decode cX6_init 70 = .ok (.aload_n 0, 1) := by decide +kernel
theorem dX6_init_71 : decode cX6_init 71 = .ok (.iconst 3, 1) := by decide +kernel
theorem dX6_init_72 : decode cX6_init 72 = .ok (.newarray .int, 2) := by decide +kernel
theorem dX6_init_74 : decode cX6_init 74 = .ok (.putfield 51, 3) := by decide +kernel
theorem dX6_init_77 : decode cX6_init 77 = .ok (.aload_n 0, 1) := by decide +kernel
theorem dX6_init_78 : decode cX6_init 78 = .ok (.iconst 0, 1) := by decide +kernel
theorem dX6_init_79 : decode cX6_init 79 = .ok (.putfield 55, 3) := by decide +kernel
theorem dX6_init_82 : decode cX6_init 82 = .ok (.aload_n 0, 1) := by decide +kernel
theorem dX6_init_83 : decode cX6_init 83 = .ok (.iconst 1, 1) := by decide +kernel
theorem dX6_init_84 : decode cX6_init 84 = .ok (.putfield 59, 3) := by decide +kernel
theorem dX6_init_87 : decode cX6_init 87 = .ok (.return_, 1) := by decide +kernel
theorem dX6_sides_0 : decode cX6_sides 0 = .ok (.iload_n 1, 1) := by decide +kernel
theorem dX6_sides_1 : decode cX6_sides 1 = .ok (.iconst 1, 1) := by decide +kernel
theorem dX6_sides_2 : decode cX6_sides 2 = .ok (.if_icmp .lt 8, 3) := by decide +kernel
theorem dX6_sides_5 : decode cX6_sides 5 = .ok (.iload_n 1, 1) := by decide +kernel
theorem dX6_sides_6 : decode cX6_sides 6 = .ok (.iconst 4, 1) := by decide +kernel
theorem dX6_sides_7 : decode cX6_sides 7 = .ok (.if_icmp .le 10, 3) := by decide +kernel
theorem dX6_sides_10 : decode cX6_sides 10 = .ok (.aload_n 0, 1) := by decide +kernel
theorem dX6_sides_11 : decode cX6_sides 11 = .ok (.bipush (-2), 2) := by decide +kernel
theorem dX6_sides_13 : decode cX6_sides 13 = .ok (.invokevirtual 62, 3) := by decide +kernel
theorem dX6_sides_16 : decode cX6_sides 16 = .ok (.ireturn, 1) := by decide +kernel
theorem dX6_sides_17 : decode cX6_sides 17 = .ok (.aload_n 0, 1) := by decide +kernel
theorem dX6_sides_18 : decode cX6_sides 18 = .ok (.getfield 19, 3) := by decide +kernel
theorem dX6_sides_21 : decode cX6_sides 21 = .ok (.aload_n 0, 1) := by decide +kernel
theorem dX6_sides_22 : decode cX6_sides 22 = .ok (.getfield 10, 3) := by decide +kernel
theorem dX6_sides_25 : decode cX6_sides 25 = .ok (.invokevirtual 66, 3) := by decide +kernel
theorem dX6_sides_28 : decode cX6_sides 28 = .ok (.aload_n 0, 1) := by decide +kernel
theorem dX6_sides_29 : decode cX6_sides 29 = .ok (.getfield 10, 3) := by decide +kernel
theorem dX6_sides_32 : decode cX6_sides 32 = .ok (.getfield 70, 3) := by decide +kernel
theorem dX6_sides_35 : decode cX6_sides 35 = .ok (.istore_n 2, 1) := by decide +kernel
theorem dX6_sides_36 : decode cX6_sides 36 = .ok (.aload_n 0, 1) := by decide +kernel
theorem dX6_sides_37 : decode cX6_sides 37 = .ok (.getfield 10, 3) := by decide +kernel
theorem dX6_sides_40 : decode cX6_sides 40 = .ok (.iload_n 1, 1) := by decide +kernel
theorem dX6_sides_41 : decode cX6_sides 41 = .ok (.putfield 70, 3) := by decide +kernel
theorem dX6_sides_44 : decode cX6_sides 44 = .ok (.aload_n 0, 1) := by decide +kernel
theorem dX6_sides_45 : decode cX6_sides 45 = .ok (.getfield 10, 3) := by decide +kernel
theorem dX6_sides_48 : decode cX6_sides 48 = .ok (.iconst 0, 1) := by decide +kernel
theorem dX6_sides_49 : decode cX6_sides 49 = .ok (.putfield 73, 3) := by decide +kernel
theorem dX6_sides_52 : decode cX6_sides 52 = .ok (.iload_n 2, 1) := by decide +kernel
theorem dX6_sides_53 : decode cX6_sides 53 = .ok (.ireturn, 1) := by decide +kernel
theorem dX6_parcel_0 : decode cX6_parcel 0 = .ok (.aload_n 0, 1) := by decide +kernel
theorem dX6_parcel_1 : decode cX6_parcel 1 = .ok (.getfield 10, 3) := by decide +kernel
theorem dX6_parcel_4 : decode cX6_parcel 4 = .ok (.iconst 0, 1) := by decide +kernel
theorem dX6_parcel_5 : decode cX6_parcel 5 = .ok (.iload_n 1, 1) := by decide +kernel
theorem dX6_parcel_6 : decode cX6_parcel 6 = .ok (.invokevirtual 76, 3) := by decide +kernel
theorem dX6_parcel_9 : decode cX6_parcel 9 = .ok (.ifCond .eq 40, 3) := by decide +kernel
theorem dX6_parcel_12 : decode cX6_parcel 12 = .ok (.aload_n 0, 1) := by decide +kernel
theorem dX6_parcel_13 : decode cX6_parcel 13 = .ok (.getfield 10, 3) := by decide +kernel
theorem dX6_parcel_16 : decode cX6_parcel 16 = .ok (.iconst 1, 1) := by decide +kernel
theorem dX6_parcel_17 : decode cX6_parcel 17 = .ok (.iload_n 2, 1) := by decide +kernel
theorem dX6_parcel_18 : decode cX6_parcel 18 = .ok (.invokevirtual 76, 3) := by decide +kernel
theorem dX6_parcel_21 : decode cX6_parcel 21 = .ok (.ifCond .eq 28, 3) := by decide +kernel
theorem dX6_parcel_24 : decode cX6_parcel 24 = .ok (.aload_n 0, 1) := by decide +kernel
theorem dX6_parcel_25 : decode cX6_parcel 25 = .ok (.getfield 10, 3) := by decide +kernel
theorem dX6_parcel_28 : decode cX6_parcel 28 = .ok (.iconst 2, 1) := by decide +kernel
theorem dX6_parcel_29 : decode cX6_parcel 29 = .ok (.iload_n 3, 1) := by decide +kernel
theorem dX6_parcel_30 : decode cX6_parcel 30 = .ok (.invokevirtual 76, 3) := by decide +kernel
theorem dX6_parcel_33 : decode cX6_parcel 33 = .ok (.ifCond .eq 16, 3) := by decide +kernel
theorem dX6_parcel_36 : decode cX6_parcel 36 = .ok (.aload_n 0, 1) := by decide +kernel
theorem dX6_parcel_37 : decode cX6_parcel 37 = .ok (.getfield 10, 3) := by decide +kernel
theorem dX6_parcel_40 : decode cX6_parcel 40 = .ok (.iconst 3, 1) := by decide +kernel
theorem dX6_parcel_41 : decode cX6_parcel 41 = .ok (.iload 4, 2) := by decide +kernel
theorem dX6_parcel_43 : decode cX6_parcel 43 = .ok (.invokevirtual 76, 3) := by decide +kernel
theorem dX6_parcel_46 : decode cX6_parcel 46 = .ok (.ifCond .ne 10, 3) := by decide +kernel
theorem dX6_parcel_49 : decode cX6_parcel 49 = .ok (.aload_n 0, 1) := by decide +kernel
theorem dX6_parcel_50 : decode cX6_parcel 50 = .ok (.bipush (-2), 2) := by decide +kernel
theorem dX6_parcel_52 : decode cX6_parcel 52 = .ok (.invokevirtual 62, 3) := by decide +kernel
theorem dX6_parcel_55 : decode cX6_parcel 55 = .ok (.ireturn, 1) := by decide +kernel
theorem dX6_parcel_56 : decode cX6_parcel 56 = .ok (.aload_n 0, 1) := by decide +kernel
theorem dX6_parcel_57 : decode cX6_parcel 57 = .ok (.getfield 10, 3) := by decide +kernel
theorem dX6_parcel_60 : decode cX6_parcel 60 = .ok (.getfield 73, 3) := by decide +kernel
theorem dX6_parcel_63 : decode cX6_parcel 63 = .ok (.bipush 16, 2) := by decide +kernel
theorem dX6_parcel_65 : decode cX6_parcel 65 = .ok (.if_icmp .lt 10, 3) := by decide +kernel
theorem dX6_parcel_68 : decode cX6_parcel 68 = .ok (.aload_n 0, 1) := by decide +kernel
theorem dX6_parcel_69 : decode cX6_parcel 69 = .ok (.bipush (-4), 2) := by decide +kernel
theorem dX6_parcel_71 : decode cX6_parcel 71 = .ok (.invokevirtual 62, 3) := by decide +kernel
theorem dX6_parcel_74 : decode cX6_parcel 74 = .ok (.ireturn, 1) := by decide +kernel
theorem dX6_parcel_75 : decode cX6_parcel 75 = .ok (.aload_n 0, 1) := by decide +kernel
theorem dX6_parcel_76 : decode cX6_parcel 76 = .ok (.getfield 19, 3) := by decide +kernel
theorem dX6_parcel_79 : decode cX6_parcel 79 = .ok (.aload_n 0, 1) := by decide +kernel
theorem dX6_parcel_80 : decode cX6_parcel 80 = .ok (.getfield 10, 3) := by decide +kernel
theorem dX6_parcel_83 : decode cX6_parcel 83 = .ok (.invokevirtual 66, 3) := by decide +kernel
