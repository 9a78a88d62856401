theorem dX3_readBack_31 : decode cX3_readBack 31 = .ok (.aload_n 0, 1) := by decide +kernel
theorem dX3_readBack_32 : decode cX3_readBack 32 = .ok (.invokevirtual 56, 3) := by decide +kernel
theorem dX3_readBack_35 : decode cX3_readBack 35 = .ok (.invokevirtual 68, 3) := by decide +kernel
theorem dX3_readBack_38 : decode cX3_readBack 38 = .ok (.putfield 31, 3) := by decide +kernel
theorem dX3_readBack_41 : decode cX3_readBack 41 = .ok (.aload_n 0, 1) := by decide +kernel
theorem dX3_readBack_42 : decode cX3_readBack 42 = .ok (.getfield 31, 3) := by decide +kernel
theorem dX3_readBack_45 : decode cX3_readBack 45 = .ok (.bipush (-6), 2) := by decide +kernel
theorem dX3_readBack_47 : decode cX3_readBack 47 = .ok (.if_icmp .eq 5, 3) := by decide +kernel
theorem dX3_readBack_50 : decode cX3_readBack 50 = .ok (.iload_n 3, 1) := by decide +kernel
theorem dX3_readBack_51 : decode cX3_readBack 51 = .ok (.ireturn, 1) := by decide +kernel
theorem dX3_readBack_52 : decode cX3_readBack 52 = .ok (.aload_n 0, 1) := by decide +kernel
theorem dX3_readBack_53 : decode cX3_readBack 53 = .ok (.invokevirtual 65, 3) := by decide +kernel
theorem dX3_readBack_56 : decode cX3_readBack 56 = .ok (.iinc 3 (-1), 3) := by decide +kernel
theorem dX3_readBack_59 : decode cX3_readBack 59 = .ok (.goto (-46), 3) := by decide +kernel
theorem dX3_readBack_62 : decode cX3_readBack 62 = .ok (.bipush (-6), 2) := by decide +kernel
theorem dX3_readBack_64 : decode cX3_readBack 64 = .ok (.ireturn, 1) := by decide +kernel
theorem dX4_init_0 : decode cX4_init 0 = .ok (.aload_n 0, 1) := by decide +kernel
theorem dX4_init_1 : decode cX4_init 1 = .ok (.invokespecial 3, 3) := by decide +kernel
theorem dX4_init_4 : decode cX4_init 4 = .ok (.aload_n 0, 1) := by decide +kernel
theorem dX4_init_5 : decode cX4_init 5 = .ok (.iconst 0, 1) := by decide +kernel
theorem dX4_init_6 : decode cX4_init 6 = .ok (.putfield 9, 3) := by decide +kernel
theorem dX4_init_9 : decode cX4_init 9 = .ok (.aload_n 0, 1) := by decide +kernel
theorem dX4_init_10 : decode cX4_init 10 = .ok (.iconst 0, 1) := by decide +kernel
theorem dX4_init_11 : decode cX4_init 11 = .ok (.putfield 15, 3) := by decide +kernel
theorem dX4_init_14 : decode cX4_init 14 = .ok (.aload_n 0, 1) := by decide +kernel
theorem dX4_init_15 : decode cX4_init 15 = .ok (.iload_n 1, 1) := by decide +kernel
theorem dX4_init_16 : decode cX4_init 16 = .ok (.ifCond .le 7, 3) := by decide +kernel
theorem dX4_init_19 : decode cX4_init 19 = .ok (.iload_n 1, 1) := by decide +kernel
theorem dX4_init_20 : decode cX4_init 20 = .ok (.goto 4, 3) := by decide +kernel
theorem dX4_init_23 : decode cX4_init 23 = .ok (.iconst 0, 1) := by decide +kernel
theorem dX4_init_24 : decode cX4_init 24 = .ok (.newarray .int, 2) := by decide +kernel
theorem dX4_init_26 : decode cX4_init 26 = .ok (.putfield 19, 3) := by decide +kernel
theorem dX4_init_29 : decode cX4_init 29 = .ok (.return_, 1) := by decide +kernel
theorem dX4_size_0 : decode cX4_size 0 = .ok (.aload_n 0, 1) := by decide +kernel
theorem dX4_size_1 : decode cX4_size 1 = .ok (.getfield 9, 3) := by decide +kernel
theorem dX4_size_4 : decode cX4_size 4 = .ok (.ireturn, 1) := by decide +kernel
theorem dX4_at_0 : decode cX4_at 0 = .ok (.iload_n 1, 1) := by decide +kernel
theorem dX4_at_1 : decode cX4_at 1 = .ok (.ifCond .lt 29, 3) := by decide +kernel
theorem dX4_at_4 : decode cX4_at 4 = .ok (.iload_n 1, 1) := by decide +kernel
theorem dX4_at_5 : decode cX4_at 5 = .ok (.aload_n 0, 1) := by decide +kernel
theorem dX4_at_6 : decode cX4_at 6 = .ok (.getfield 9, 3) := by decide +kernel
theorem dX4_at_9 : decode cX4_at 9 = .ok (.if_icmp .ge 21, 3) := by decide +kernel
theorem dX4_at_12 : decode cX4_at 12 = .ok (.iload_n 1, 1) := by decide +kernel
theorem dX4_at_13 : decode cX4_at 13 = .ok (.aload_n 0, 1) := by decide +kernel
theorem dX4_at_14 : decode cX4_at 14 = .ok (.getfield 19, 3) := by decide +kernel
theorem dX4_at_17 : decode cX4_at 17 = .ok (.arraylength, 1) := by decide +kernel
theorem dX4_at_18 : decode cX4_at 18 = .ok (.if_icmp .ge 12, 3) := by decide +kernel
theorem dX4_at_21 : decode cX4_at 21 = .ok (.aload_n 0, 1) := by decide +kernel
theorem dX4_at_22 : decode cX4_at 22 = .ok (.getfield 19, 3) := by decide +kernel
theorem dX4_at_25 : decode cX4_at 25 = .ok (.iload_n 1, 1) := by decide +kernel
theorem dX4_at_26 : decode cX4_at 26 = .ok (.iaload, 1) := by decide +kernel
theorem dX4_at_27 : decode cX4_at 27 = .ok (.goto 5, 3) := by decide +kernel
theorem dX4_at_30 : decode cX4_at 30 = .ok (.bipush (-6), 2) := by decide +kernel
theorem dX4_at_32 : decode cX4_at 32 = .ok (.ireturn, 1) := by decide +kernel
theorem dX4_set_0 : decode cX4_set 0 = .ok (.iload_n 1, 1) := by decide +kernel
theorem dX4_set_1 : decode cX4_set 1 = .ok (.ifCond .lt 27, 3) := by decide +kernel
theorem dX4_set_4 : decode cX4_set 4 = .ok (.iload_n 1, 1) := by decide +kernel
theorem dX4_set_5 : decode cX4_set 5 = .ok (.aload_n 0, 1) := by decide +kernel
theorem dX4_set_6 : decode cX4_set 6 = .ok (.getfield 9, 3) := by decide +kernel
theorem dX4_set_9 : decode cX4_set 9 = .ok (.if_icmp .ge 19, 3) := by decide +kernel
theorem dX4_set_12 : decode cX4_set 12 = .ok (.iload_n 1, 1) := by decide +kernel
theorem dX4_set_13 : decode cX4_set 13 = .ok (.aload_n 0, 1) := by decide +kernel
theorem dX4_set_14 : decode cX4_set 14 = .ok (.getfield 19, 3) := by decide +kernel
theorem dX4_set_17 : decode cX4_set 17 = .ok (.arraylength, 1) := by decide +kernel
theorem dX4_set_18 : decode cX4_set 18 = .ok (.if_icmp .ge 10, 3) := by decide +kernel
theorem dX4_set_21 : decode cX4_set 21 = .ok (.aload_n 0, 1) := by decide +kernel
theorem dX4_set_22 : decode cX4_set 22 = .ok (.getfield 19, 3) := by decide +kernel
theorem dX4_set_25 : decode cX4_set 25 = .ok (.iload_n 1, 1) := by decide +kernel
theorem dX4_set_26 : decode cX4_set 26 = .ok (.iload_n 2, 1) := by decide +kernel
theorem dX4_set_27 : decode cX4_set 27 = .ok (.iastore, 1) := by decide +kernel
theorem dX4_set_28 : decode cX4_set 28 = .ok (.return_, 1) := by decide +kernel
theorem dX4_add_0 : decode cX4_add 0 = .ok (.aload_n 0, 1) := by decide +kernel
theorem dX4_add_1 : decode cX4_add 1 = .ok (.getfield 9, 3) := by decide +kernel
theorem dX4_add_4 : decode cX4_add 4 = .ok (.ifCond .lt 38, 3) := by decide +kernel
theorem dX4_add_7 : decode cX4_add 7 = .ok (.aload_n 0, 1) := by decide +kernel
theorem dX4_add_8 : decode cX4_add 8 = .ok (.getfield 9, 3) := by decide +kernel
theorem dX4_add_11 : decode cX4_add 11 = .ok (.aload_n 0, 1) := by decide +kernel
theorem dX4_add_12 : decode cX4_add 12 = .ok (.getfield 19, 3) := by decide +kernel
theorem dX4_add_15 : decode cX4_add 15 = .ok (.arraylength, 1) := by decide +kernel
theorem dX4_add_16 : decode cX4_add 16 = .ok (.if_icmp .ge 26, 3) := by decide +kernel
theorem dX4_add_19 : decode cX4_add 19 = .ok (.aload_n 0, 1) := by decide +kernel
theorem dX4_add_20 : decode cX4_add 20 = .ok (.getfield 19, 3) := by decide +kernel
theorem dX4_add_23 : decode cX4_add 23 = .ok (.aload_n 0, 1) := by decide +kernel
theorem dX4_add_24 : decode cX4_add 24 = .ok (.getfield 9, 3) := by decide +kernel
theorem dX4_add_27 : decode cX4_add 27 = .ok (.iload_n 1, 1) := by decide +kernel
theorem dX4_add_28 : decode cX4_add 28 = .ok (.iastore, 1) := by decide +kernel
theorem dX4_add_29 : decode cX4_add 29 = .ok (.aload_n 0, 1) := by decide +kernel
theorem dX4_add_30 : decode cX4_add 30 = .ok (.dup, 1) := by decide +kernel
theorem dX4_add_31 : decode cX4_add 31 = .ok (.getfield 9, 3) := by decide +kernel
theorem dX4_add_34 : decode cX4_add 34 = .ok (.iconst 1, 1) := by decide +kernel
theorem dX4_add_35 : decode cX4_add 35 = .ok (.iadd, 1) := by decide +kernel
theorem dX4_add_36 : decode cX4_add 36 = .ok (.putfield 9, 3) := by decide +kernel
theorem dX4_add_39 : decode cX4_add 39 = .ok (.goto 8, 3) := by decide +kernel
theorem dX4_add_42 : decode cX4_add 42 = .ok (.aload_n 0, 1) := by decide +kernel
theorem dX4_add_43 : decode cX4_add 43 = .ok (.iconst 1, 1) := by decide +kernel
theorem dX4_add_44 : decode cX4_add 44 = .ok (.putfield 15, 3) := by decide +kernel
theorem dX4_add_47 : decode cX4_add 47 = .ok (.return_, 1) := by decide +kernel
theorem dX4_isOver_0 : decode cX4_isOver 0 = .ok (.aload_n 0, 1) := by decide +kernel
theorem dX4_isOver_1 : decode cX4_isOver 1 = .ok (.getfield 15, 3) := by decide +kernel
theorem dX4_isOver_4 : decode cX4_isOver 4 = .ok (.ireturn, 1) := by decide +kernel
theorem dX4_dropLast_0 : decode cX4_dropLast 0 = .ok (.aload_n 0, 1) := by decide +kernel
theorem dX4_dropLast_1 : decode cX4_dropLast 1 = .ok (.getfield 9, 3) := by decide +kernel
theorem dX4_dropLast_4 : decode cX4_dropLast 4 = .ok (.ifCond .le 13, 3) := by decide +kernel
theorem dX4_dropLast_7 : decode cX4_dropLast 7 = .ok (.aload_n 0, 1) := by decide +kernel
theorem dX4_dropLast_8 : decode cX4_dropLast 8 = .ok (.dup, 1) := by decide +kernel
theorem dX4_dropLast_9 : decode cX4_dropLast 9 = .ok (.getfield 9, 3) := by decide +kernel
theorem dX4_dropLast_12 : decode cX4_dropLast 12 = .ok (.iconst 1, 1) := by decide +kernel
theorem dX4_dropLast_13 : decode cX4_dropLast 13 = .ok (.isub, 1) := by decide +kernel
theorem dX4_dropLast_14 : decode cX4_dropLast 14 = .ok (.putfield 9, 3) := by decide +kernel
theorem dX4_dropLast_17 : decode cX4_dropLast 17 = .ok (.return_, 1) := by decide +kernel
theorem dX4_clear_0 : decode cX4_clear 0 = .ok (.aload_n 0, 1) := by decide +kernel
theorem dX4_clear_1 : decode cX4_clear 1 = .ok (.iconst 0, 1) := by decide +kernel
theorem dX4_clear_2 : decode cX4_clear 2 = .ok (.putfield 9, 3) := by decide +kernel
theorem dX4_clear_5 : decode cX4_clear 5 = .ok (.aload_n 0, 1) := by decide +kernel
theorem dX4_clear_6 : decode cX4_clear 6 = .ok (.iconst 0, 1) := by decide +kernel
theorem dX4_clear_7 : decode cX4_clear 7 = .ok (.putfield 15, 3) := by decide +kernel
theorem dX4_clear_10 : decode cX4_clear 10 = .ok (.return_, 1) := by decide +kernel
theorem dX4_copyFrom_0 : decode cX4_copyFrom 0 = .ok (.aload_n 0, 1) := by decide +kernel
theorem dX4_copyFrom_1 : decode cX4_copyFrom 1 = .ok (.aload_n 1, 1) := by decide +kernel
theorem dX4_copyFrom_2 : decode cX4_copyFrom 2 = .ok (.aload_n 1, 1) := by decide +kernel
theorem dX4_copyFrom_3 : decode cX4_copyFrom 3 = .ok (.invokevirtual 23, 3) := by decide +kernel
theorem dX4_copyFrom_6 : decode cX4_copyFrom 6 = .ok (.invokevirtual 27, 3) := by decide +kernel
theorem dX4_copyFrom_9 : decode cX4_copyFrom 9 = .ok (.return_, 1) := by decide +kernel
theorem dX4_copyFirst_0 : decode cX4_copyFirst 0 = .ok (.aload_n 0, 1) := by decide +kernel
theorem dX4_copyFirst_1 : decode cX4_copyFirst 1 = .ok (.invokevirtual 31, 3) := by decide +kernel
theorem dX4_copyFirst_4 : decode cX4_copyFirst 4 = .ok (.iconst 0, 1) := by decide +kernel
theorem dX4_copyFirst_5 : decode cX4_copyFirst 5 = .ok (.istore_n 3, 1) := by decide +kernel
theorem dX4_copyFirst_6 : decode cX4_copyFirst 6 = .ok (.iload_n 3, 1) := by decide +kernel
theorem dX4_copyFirst_7 : decode cX4_copyFirst 7 = .ok (.iload_n 2, 1) := by decide +kernel
theorem dX4_copyFirst_8 : decode cX4_copyFirst 8 = .ok (.if_icmp .ge 26, 3) := by decide +kernel
theorem dX4_copyFirst_11 : decode cX4_copyFirst 11 = .ok (.iload_n 3, 1) := by decide +kernel
theorem dX4_copyFirst_12 : decode cX4_copyFirst 12 = .ok (.aload_n 1, 1) := by decide +kernel
theorem dX4_copyFirst_13 : decode cX4_copyFirst 13 = .ok (.invokevirtual 23, 3) := by decide +kernel
theorem dX4_copyFirst_16 : decode cX4_copyFirst 16 = .ok (.if_icmp .ge 18, 3) := by decide +kernel
theorem dX4_copyFirst_19 : decode cX4_copyFirst 19 = .ok (.aload_n 0, 1) := by decide +kernel
theorem dX4_copyFirst_20 : decode cX4_copyFirst 20 = .ok (.aload_n 1, 1) := by decide +kernel
theorem dX4_copyFirst_21 : decode cX4_copyFirst 21 = .ok (.iload_n 3, 1) := by decide +kernel
theorem dX4_copyFirst_22 : decode cX4_copyFirst 22 = .ok (.invokevirtual 34, 3) := by decide +kernel
theorem dX4_copyFirst_25 : decode cX4_copyFirst 25 = .ok (.invokevirtual 38, 3) := by decide +kernel
theorem dX4_copyFirst_28 : decode cX4_copyFirst 28 = .ok (.iinc 3 1, 3) := by decide +kernel
theorem dX4_copyFirst_31 : decode cX4_copyFirst 31 = .ok (.goto (-25), 3) := by decide +kernel
theorem dX4_copyFirst_34 : decode cX4_copyFirst 34 = .ok (.return_, 1) := by decide +kernel
theorem dX4_fillZeros_0 : decode cX4_fillZeros 0 = .ok (.aload_n 0, 1) := by decide +kernel
theorem dX4_fillZeros_1 : decode cX4_fillZeros 1 = .ok (.invokevirtual 31, 3) := by decide +kernel
theorem dX4_fillZeros_4 : decode cX4_fillZeros 4 = .ok (.iconst 0, 1) := by decide +kernel
theorem dX4_fillZeros_5 : decode cX4_fillZeros 5 = .ok (.istore_n 2, 1) := by decide +kernel
theorem dX4_fillZeros_6 : decode cX4_fillZeros 6 = .ok (.iload_n 2, 1) := by decide +kernel
theorem dX4_fillZeros_7 : decode cX4_fillZeros 7 = .ok (.iload_n 1, 1) := by decide +kernel
theorem dX4_fillZeros_8 : decode cX4_fillZeros 8 = .ok (.if_icmp .ge 21, 3) := by decide +kernel
theorem dX4_fillZeros_11 : decode cX4_fillZeros 11 = .ok (.aload_n 0, 1) := by decide +kernel
theorem dX4_fillZeros_12 : decode cX4_fillZeros 12 = .ok (.getfield 15, 3) := by decide +kernel
theorem dX4_fillZeros_15 : decode cX4_fillZeros 15 = .ok (.ifCond .ne 14, 3) := by decide +kernel
theorem dX4_fillZeros_18 : decode cX4_fillZeros 18 = .ok (.aload_n 0, 1) := by decide +kernel
theorem dX4_fillZeros_19 : decode cX4_fillZeros 19 = .ok (.iconst 0, 1) := by decide +kernel
theorem dX4_fillZeros_20 : decode cX4_fillZeros 20 = .ok (.invokevirtual 38, 3) := by decide +kernel
theorem dX4_fillZeros_23 : decode cX4_fillZeros 23 = .ok (.iinc 2 1, 3) := by decide +kernel
theorem dX4_fillZeros_26 : decode cX4_fillZeros 26 = .ok (.goto (-20), 3) := by decide +kernel
theorem dX4_fillZeros_29 : decode cX4_fillZeros 29 = .ok (.aload_n 0, 1) := by decide +kernel
theorem dX4_fillZeros_30 : decode cX4_fillZeros 30 = .ok (.getfield 15, 3) := by decide +kernel
theorem dX4_fillZeros_33 : decode cX4_fillZeros 33 = .ok (.ifCond .ne 7, 3) := by decide +kernel
theorem dX4_fillZeros_36 : decode cX4_fillZeros 36 = .ok (.iconst 1, 1) := by decide +kernel
theorem dX4_fillZeros_37 : decode cX4_fillZeros 37 = .ok (.goto 4, 3) := by decide +kernel
theorem dX4_fillZeros_40 : decode cX4_fillZeros 40 = .ok (.iconst 0, 1) := by decide +kernel
theorem dX4_fillZeros_41 : decode cX4_fillZeros 41 = .ok (.ireturn, 1) := by decide +kernel
theorem dX4_sameAs_0 : decode cX4_sameAs 0 = .ok (.aload_n 0, 1) := by decide +kernel
theorem dX4_sameAs_1 : decode cX4_sameAs 1 = .ok (.getfield 9, 3) := by decide +kernel
theorem dX4_sameAs_4 : decode cX4_sameAs 4 = .ok (.aload_n 1, 1) := by decide +kernel
theorem dX4_sameAs_5 : decode cX4_sameAs 5 = .ok (.invokevirtual 23, 3) := by decide +kernel
theorem dX4_sameAs_8 : decode cX4_sameAs 8 = .ok (.if_icmp .eq 5, 3) := by decide +kernel
theorem dX4_sameAs_11 : decode cX4_sameAs 11 = .ok (.iconst 0, 1) := by decide +kernel
theorem dX4_sameAs_12 : decode cX4_sameAs 12 = .ok (.ireturn, 1) := by decide +kernel
theorem dX4_sameAs_13 : decode cX4_sameAs 13 = .ok (.iconst 0, 1) := by decide +kernel
theorem dX4_sameAs_14 : decode cX4_sameAs 14 = .ok (.istore_n 2, 1) := by decide +kernel
theorem dX4_sameAs_15 : decode cX4_sameAs 15 = .ok (.iload_n 2, 1) := by decide +kernel
theorem dX4_sameAs_16 : decode cX4_sameAs 16 = .ok (.aload_n 0, 1) := by decide +kernel
theorem dX4_sameAs_17 : decode cX4_sameAs 17 = .ok (.getfield 9, 3) := by decide +kernel
theorem dX4_sameAs_20 : decode cX4_sameAs 20 = .ok (.if_icmp .ge 24, 3) := by decide +kernel
theorem dX4_sameAs_23 : decode cX4_sameAs 23 = .ok (.aload_n 0, 1) := by decide +kernel
theorem dX4_sameAs_24 : decode cX4_sameAs 24 = .ok (.iload_n 2, 1) := by decide +kernel
theorem dX4_sameAs_25 : decode cX4_sameAs 25 = .ok (.invokevirtual 34, 3) := by decide +kernel
theorem dX4_sameAs_28 : decode cX4_sameAs 28 = .ok (.aload_n 1, 1) := by decide +kernel
theorem dX4_sameAs_29 : decode cX4_sameAs 29 = .ok (.iload_n 2, 1) := by decide +kernel
theorem dX4_sameAs_30 : decode cX4_sameAs 30 = .ok (.invokevirtual 34, 3) := by decide +kernel
theorem dX4_sameAs_33 : decode cX4_sameAs 33 = .ok (.if_icmp .eq 5, 3) := by decide +kernel
theorem dX4_sameAs_36 : decode cX4_sameAs 36 = .ok (.iconst 0, 1) := by decide +kernel
theorem dX4_sameAs_37 : decode cX4_sameAs 37 = .ok (.ireturn, 1) := by decide +kernel
theorem dX4_sameAs_38 : decode cX4_sameAs 38 = .ok (.iinc 2 1, 3) := by decide +kernel
theorem dX4_sameAs_41 : decode cX4_sameAs 41 = .ok (.goto (-26), 3) := by decide +kernel
theorem dX4_sameAs_44 : decode cX4_sameAs 44 = .ok (.iconst 1, 1) := by decide +kernel
theorem dX4_sameAs_45 : decode cX4_sameAs 45 = .ok (.ireturn, 1) := by decide +kernel
theorem dX4_hasAhead_0 : decode cX4_hasAhead 0 = .ok (.iconst 0, 1) := by decide +kernel
theorem dX4_hasAhead_1 : decode cX4_hasAhead 1 = .ok (.istore_n 3, 1) := by decide +kernel
theorem dX4_hasAhead_2 : decode cX4_hasAhead 2 = .ok (.iload_n 3, 1) := by decide +kernel
theorem dX4_hasAhead_3 : decode cX4_hasAhead 3 = .ok (.iload_n 2, 1) := by decide +kernel
theorem dX4_hasAhead_4 : decode cX4_hasAhead 4 = .ok (.if_icmp .ge 38, 3) := by decide +kernel
theorem dX4_hasAhead_7 : decode cX4_hasAhead 7 = .ok (.iload_n 3, 1) := by decide +kernel
theorem dX4_hasAhead_8 : decode cX4_hasAhead 8 = .ok (.aload_n 0, 1) := by decide +kernel
theorem dX4_hasAhead_9 : decode cX4_hasAhead 9 = .ok (.getfield 9, 3) := by decide +kernel
theorem dX4_hasAhead_12 : decode cX4_hasAhead 12 = .ok (.if_icmp .ge 30, 3) := by decide +kernel
theorem dX4_hasAhead_15 : decode cX4_hasAhead 15 = .ok (.iload_n 3, 1) := by decide +kernel
theorem dX4_hasAhead_16 : decode cX4_hasAhead 16 = .ok (.aload_n 0, 1) := by decide +kernel
theorem dX4_hasAhead_17 : decode cX4_hasAhead 17 = .ok (.getfield 19, 3) := by decide +kernel
theorem dX4_hasAhead_20 : decode cX4_hasAhead 20 = .ok (.arraylength, 1) := by decide +kernel
theorem dX4_hasAhead_21 : decode cX4_hasAhead 21 = .ok (.if_icmp .ge 21, 3) := by decide +kernel
theorem dX4_hasAhead_24 : decode cX4_hasAhead 24 = .ok (.aload_n 0, 1) := by decide +kernel
theorem dX4_hasAhead_25 : decode cX4_hasAhead 25 = .ok (.getfield 19, 3) := by decide +kernel
theorem dX4_hasAhead_28 : decode cX4_hasAhead 28 = .ok (.iload_n 3, 1) := by decide +kernel
theorem dX4_hasAhead_29 : decode cX4_hasAhead 29 = .ok (.iaload, 1) := by decide +kernel
theorem dX4_hasAhead_30 : decode cX4_hasAhead 30 = .ok (.iload_n 1, 1) := by decide +kernel
theorem dX4_hasAhead_31 : decode cX4_hasAhead 31 = .ok (.if_icmp .ne 5, 3) := by decide +kernel
theorem dX4_hasAhead_34 : decode cX4_hasAhead 34 = .ok (.iconst 1, 1) := by decide +kernel
theorem dX4_hasAhead_35 : decode cX4_hasAhead 35 = .ok (.ireturn, 1) := by decide +kernel
theorem dX4_hasAhead_36 : decode cX4_hasAhead 36 = .ok (.iinc 3 1, 3) := by decide +kernel
theorem dX4_hasAhead_39 : decode cX4_hasAhead 39 = .ok (.goto (-37), 3) := by decide +kernel
theorem dX4_hasAhead_42 : decode cX4_hasAhead 42 = .ok (.iconst 0, 1) := by decide +kernel
theorem dX4_hasAhead_43 : decode cX4_hasAhead 43 = .ok (.ireturn, 1) := by decide +kernel
theorem dX4_swap_0 : decode cX4_swap 0 = .ok (.aload_n 0, 1) := by decide +kernel
theorem dX4_swap_1 : decode cX4_swap 1 = .ok (.iload_n 1, 1) := by decide +kernel
theorem dX4_swap_2 : decode cX4_swap 2 = .ok (.invokevirtual 34, 3) := by decide +kernel
theorem dX4_swap_5 : decode cX4_swap 5 = .ok (.istore_n 3, 1) := by decide +kernel
theorem dX4_swap_6 : decode cX4_swap 6 = .ok (.aload_n 0, 1) := by decide +kernel
theorem dX4_swap_7 : decode cX4_swap 7 = .ok (.iload_n 1, 1) := by decide +kernel
theorem dX4_swap_8 : decode cX4_swap 8 = .ok (.aload_n 0, 1) := by decide +kernel
theorem dX4_swap_9 : decode cX4_swap 9 = .ok (.iload_n 2, 1) := by decide +kernel
theorem dX4_swap_10 : decode cX4_swap 10 = .ok (.invokevirtual 34, 3) := by decide +kernel
theorem dX4_swap_13 : decode cX4_swap 13 = .ok (.invokevirtual 42, 3) := by decide +kernel
theorem dX4_swap_16 : decode cX4_swap 16 = .ok (.aload_n 0, 1) := by decide +kernel
theorem dX4_swap_17 : decode cX4_swap 17 = .ok (.iload_n 2, 1) := by decide +kernel
theorem dX4_swap_18 : decode cX4_swap 18 = .ok (.iload_n 3, 1) := by decide +kernel
theorem dX4_swap_19 : decode cX4_swap 19 = .ok (.invokevirtual 42, 3) := by decide +kernel
theorem dX4_swap_22 : decode cX4_swap 22 = .ok (.return_, 1) := by decide +kernel
theorem dX5_init_0 : decode cX5_init 0 = .ok (.aload_n 0, 1) := by decide +kernel
theorem dX5_init_1 : decode cX5_init 1 = .ok (.invokespecial 3, 3) := by decide +kernel
theorem dX5_init_4 : decode cX5_init 4 = .ok (.aload_n 0, 1) := by decide +kernel
theorem dX5_init_5 : decode cX5_init 5 = .ok (.iconst 5, 1) := by decide +kernel
theorem dX5_init_6 : decode cX5_init 6 = .ok (.anewarray 9, 3) := by decide +kernel
theorem dX5_init_9 : decode cX5_init 9 = .ok (.putfield 11, 3) := by decide +kernel
theorem dX5_init_12 : decode cX5_init 12 = .ok (.aload_n 0, 1) := by decide +kernel
theorem dX5_init_13 : decode cX5_init 13 = .ok (.new 9, 3) := by decide +kernel
theorem dX5_init_16 : decode cX5_init 16 = .ok (.dup, 1) := by decide +kernel
theorem dX5_init_17 : decode cX5_init 17 = .ok (.invokespecial 17, 3) := by decide +kernel
theorem dX5_init_20 : decode cX5_init 20 = .ok (.putfield 18, 3) := by decide +kernel
theorem dX5_init_23 : decode cX5_init 23 = .ok (.aload_n 0, 1) := by decide +kernel
theorem dX5_init_24 : decode cX5_init 24 = .ok (.new 22, 3) := by decide +kernel
theorem dX5_init_27 : decode cX5_init 27 = .ok (.dup, 1) := by decide +kernel
theorem dX5_init_28 : decode cX5_init 28 = .ok (.iconst 5, 1) := by decide +kernel
theorem dX5_init_29 : decode cX5_init 29 = .ok (.invokespecial 24, 3) := by decide +kernel
theorem dX5_init_32 : decode cX5_init 32 = .ok (.putfield 27, 3) := by decide +kernel
theorem dX5_init_35 : decode cX5_init 35 = .ok (.aload_n 0, 1) := by decide +kernel
theorem dX5_init_36 : decode cX5_init 36 = .ok (.new 22, 3) := by decide +kernel
theorem dX5_init_39 : decode cX5_init 39 = .ok (.dup, 1) := by decide +kernel
theorem dX5_init_40 : decode cX5_init 40 = .ok (.bipush 12, 2) := by decide +kernel
theorem dX5_init_42 : decode cX5_init 42 = .ok (.invokespecial 24, 3) := by decide +kernel
theorem dX5_init_45 : decode cX5_init 45 = .ok (.putfield 31, 3) := by decide +kernel
theorem dX5_init_48 : decode cX5_init 48 = .ok (.aload_n 0, 1) := by decide +kernel
theorem dX5_init_49 : decode cX5_init 49 = .ok (.iconst 0, 1) := by decide +kernel
theorem dX5_init_50 : decode cX5_init 50 = .ok (.putfield 34, 3) := by decide +kernel
theorem dX5_init_53 : decode cX5_init 53 = .ok (.iconst 0, 1) := by decide +kernel
theorem dX5_init_54 : decode cX5_init 54 = .ok (.istore_n 1, 1) := by decide +kernel
theorem dX5_init_55 : decode cX5_init 55 = .ok (.iload_n 1, 1) := by decide +kernel
theorem dX5_init_56 : decode cX5_init 56 = .ok (.aload_n 0, 1) := by decide +kernel
theorem dX5_init_57 : decode cX5_init 57 = .ok (.getfield 11, 3) := by decide +kernel
theorem dX5_init_60 : decode cX5_init 60 = .ok (.arraylength, 1) := by decide +kernel
theorem dX5_init_61 : decode cX5_init 61 = .ok (.if_icmp .ge 22, 3) := by decide +kernel
theorem dX5_init_64 : decode cX5_init 64 = .ok (.aload_n 0, 1) := by decide +kernel
theorem dX5_init_65 : decode cX5_init 65 = .ok (.getfield 11, 3) := by decide +kernel
theorem dX5_init_68 : decode cX5_init 68 = .ok (.iload_n 1, 1) := by decide +kernel
theorem dX5_init_69 : decode cX5_init 69 = .ok (.new 9, 3) := by decide +kernel
theorem dX5_init_72 : decode cX5_init 72 = .ok (.dup, 1) := by decide +kernel
theorem dX5_init_73 : decode cX5_init 73 = .ok (.invokespecial 17, 3) := by decide +kernel
theorem dX5_init_76 : decode cX5_init 76 = .ok (.aastore, 1) := by decide +kernel
theorem dX5_init_77 : decode cX5_init 77 = .ok (.iinc 1 1, 3) := by decide +kernel
theorem dX5_init_80 : decode cX5_init 80 = .ok (.goto (-25), 3) := by decide +kernel
theorem dX5_init_83 : decode cX5_init 83 = .ok (.aload_n 0, 1) := by decide +kernel
theorem dX5_init_84 : decode cX5_init 84 = .ok (.getfield 31, 3) := by decide +kernel
theorem dX5_init_87 : decode cX5_init 87 = .ok (.bipush 120, 2) := by decide +kernel
theorem dX5_init_89 : decode cX5_init 89 = .ok (.invokevirtual 38, 3) := by decide +kernel
theorem dX5_init_92 : decode cX5_init 92 = .ok (.return_, 1) := by decide +kernel
theorem dX5_layerAt_0 : decode cX5_layerAt 0 = .ok (.iload_n 1, 1) := by decide +kernel
theorem dX5_layerAt_1 : decode cX5_layerAt 1 = .ok (.ifCond .lt 21, 3) := by decide +kernel
theorem dX5_layerAt_4 : decode cX5_layerAt 4 = .ok (.iload_n 1, 1) := by decide +kernel
theorem dX5_layerAt_5 : decode cX5_layerAt 5 = .ok (.aload_n 0, 1) := by decide +kernel
theorem dX5_layerAt_6 : decode cX5_layerAt 6 = .ok (.getfield 11, 3) := by decide +kernel
theorem dX5_layerAt_9 : decode cX5_layerAt 9 = .ok (.arraylength, 1) := by decide +kernel
theorem dX5_layerAt_10 : decode cX5_layerAt 10 = .ok (.if_icmp .ge 12, 3) := by decide +kernel
theorem dX5_layerAt_13 : decode cX5_layerAt 13 = .ok (.aload_n 0, 1) := by decide +kernel
theorem dX5_layerAt_14 : decode cX5_layerAt 14 = .ok (.getfield 11, 3) := by decide +kernel
theorem dX5_layerAt_17 : decode cX5_layerAt 17 = .ok (.iload_n 1, 1) := by decide +kernel
theorem dX5_layerAt_18 : decode cX5_layerAt 18 = .ok (.aaload, 1) := by decide +kernel
theorem dX5_layerAt_19 : decode cX5_layerAt 19 = .ok (.ifnonnull 8, 3) := by decide +kernel
theorem dX5_layerAt_22 : decode cX5_layerAt 22 = .ok (.aload_n 0, 1) := by decide +kernel
theorem dX5_layerAt_23 : decode cX5_layerAt 23 = .ok (.getfield 18, 3) := by decide +kernel
theorem dX5_layerAt_26 : decode cX5_layerAt 26 = .ok (.areturn, 1) := by decide +kernel
theorem dX5_layerAt_27 : decode cX5_layerAt 27 = .ok (.aload_n 0, 1) := by decide +kernel
theorem dX5_layerAt_28 : decode cX5_layerAt 28 = .ok (.getfield 11, 3) := by decide +kernel
theorem dX5_layerAt_31 : decode cX5_layerAt 31 = .ok (.iload_n 1, 1) := by decide +kernel
theorem dX5_layerAt_32 : decode cX5_layerAt 32 = .ok (.aaload, 1) := by decide +kernel
theorem dX5_layerAt_33 : decode cX5_layerAt 33 = .ok (.areturn, 1) := by decide +kernel
theorem dX5_copyFrom_0 : decode cX5_copyFrom 0 = .ok (.iconst 0, 1) := by decide +kernel
theorem dX5_copyFrom_1 : decode cX5_copyFrom 1 = .ok (.istore_n 2, 1) := by decide +kernel
theorem dX5_copyFrom_2 : decode cX5_copyFrom 2 = .ok (.iload_n 2, 1) := by decide +kernel
theorem dX5_copyFrom_3 : decode cX5_copyFrom 3 = .ok (.iconst 5, 1) := by decide +kernel
theorem dX5_copyFrom_4 : decode cX5_copyFrom 4 = .ok (.if_icmp .ge 22, 3) := by decide +kernel
theorem dX5_copyFrom_7 : decode cX5_copyFrom 7 = .ok (.aload_n 0, 1) := by decide +kernel
theorem dX5_copyFrom_8 : decode cX5_copyFrom 8 = .ok (.iload_n 2, 1) := by decide +kernel
theorem dX5_copyFrom_9 : decode cX5_copyFrom 9 = .ok (.invokevirtual 41, 3) := by decide +kernel
theorem dX5_copyFrom_12 : decode cX5_copyFrom 12 = .ok (.aload_n 1, 1) := by decide +kernel
theorem dX5_copyFrom_13 : decode cX5_copyFrom 13 = .ok (.iload_n 2, 1) := by decide +kernel
theorem dX5_copyFrom_14 : decode cX5_copyFrom 14 = .ok (.invokevirtual 41, 3) := by decide +kernel
theorem dX5_copyFrom_17 : decode cX5_copyFrom 17 = .ok (.invokevirtual 45, 3) := by decide +kernel
theorem dX5_copyFrom_20 : decode cX5_copyFrom 20 = .ok (.iinc 2 1, 3) := by decide +kernel
theorem dX5_copyFrom_23 : decode cX5_copyFrom 23 = .ok (.goto (-21), 3) := by decide +kernel
theorem dX5_copyFrom_26 : decode cX5_copyFrom 26 = .ok (.aload_n 0, 1) := by decide +kernel
theorem dX5_copyFrom_27 : decode cX5_copyFrom 27 = .ok (.getfield 27, 3) := by decide +kernel
theorem dX5_copyFrom_30 : decode cX5_copyFrom 30 = .ok (.aload_n 1, 1) := by decide +kernel
theorem dX5_copyFrom_31 : decode cX5_copyFrom 31 = .ok (.getfield 27, 3) := by decide +kernel
theorem dX5_copyFrom_34 : decode cX5_copyFrom 34 = .ok (.invokevirtual 49, 3) := by decide +kernel
theorem dX5_copyFrom_37 : decode cX5_copyFrom 37 = .ok (.aload_n 0, 1) := by decide +kernel
theorem dX5_copyFrom_38 : decode cX5_copyFrom 38 = .ok (.getfield 31, 3) := by decide +kernel
theorem dX5_copyFrom_41 : decode cX5_copyFrom 41 = .ok (.aload_n 1, 1) := by decide +kernel
theorem dX5_copyFrom_42 : decode cX5_copyFrom 42 = .ok (.getfield 31, 3) := by decide +kernel
theorem dX5_copyFrom_45 : decode cX5_copyFrom 45 = .ok (.invokevirtual 49, 3) := by decide +kernel
theorem dX5_copyFrom_48 : decode cX5_copyFrom 48 = .ok (.return_, 1) := by decide +kernel
theorem dX6_init_0 : decode cX6_init 0 = .ok (.aload_n 0, 1) := by decide +kernel
theorem dX6_init_1 : decode cX6_init 1 = .ok (.invokespecial 1, 3) := by decide +kernel
theorem dX6_init_4 : decode cX6_init 4 = .ok (.aload_n 0, 1) := by decide +kernel
theorem dX6_init_5 : decode cX6_init 5 = .ok (.new 7, 3) := by decide +kernel
theorem dX6_init_8 : decode cX6_init 8 = .ok (.dup, 1) := by decide +kernel
theorem dX6_init_9 : decode cX6_init 9 = .ok (.bipush 60, 2) := by decide +kernel
theorem dX6_init_11 : decode cX6_init 11 = .ok (.invokespecial 11, 3) := by decide +kernel
theorem dX6_init_14 : decode cX6_init 14 = .ok (.putfield 14, 3) := by decide +kernel
theorem dX6_init_17 : decode cX6_init 17 = .ok (.aload_n 0, 1) := by decide +kernel
theorem dX6_init_18 : decode cX6_init 18 = .ok (.new 18, 3) := by decide +kernel
theorem dX6_init_21 : decode cX6_init 21 = .ok (.dup, 1) := by decide +kernel
theorem dX6_init_22 : decode cX6_init 22 = .ok (.invokespecial 20, 3) := by decide +kernel
theorem dX6_init_25 : decode cX6_init 25 = .ok (.putfield 21, 3) := by decide +kernel
theorem dX6_init_28 : decode cX6_init 28 = .ok (.aload_n 0, 1) := by decide +kernel
theorem dX6_init_29 : decode cX6_init 29 = .ok (.new 18, 3) := by decide +kernel
theorem dX6_init_32 : decode cX6_init 32 = .ok (.dup, 1) := by decide +kernel
theorem dX6_init_33 : decode cX6_init 33 = .ok (.invokespecial 20, 3) := by decide +kernel
theorem dX6_init_36 : decode cX6_init 36 = .ok (.putfield 25, 3) := by decide +kernel
theorem dX6_init_39 : decode cX6_init 39 = .ok (.aload_n 0, 1) := by decide +kernel
theorem dX6_init_40 : decode cX6_init 40 = .ok (.new 18, 3) := by decide +kernel
theorem dX6_init_43 : decode cX6_init 43 = .ok (.dup, 1) := by decide +kernel
theorem dX6_init_44 : decode cX6_init 44 = .ok (.invokespecial 20, 3) := by decide +kernel
theorem dX6_init_47 : decode cX6_init 47 = .ok (.putfield 28, 3) := by decide +kernel
theorem dX6_init_50 : decode cX6_init 50 = .ok (.aload_n 0, 1) := by decide +kernel
theorem dX6_init_51 : decode cX6_init 51 = .ok (.new 31, 3) := by decide +kernel
theorem dX6_init_54 : decode cX6_init 54 = .ok (.dup, 1) := by decide +kernel
theorem dX6_init_55 : decode cX6_init 55 = .ok (.invokespecial 33, 3) := by decide +kernel
theorem dX6_init_58 : decode cX6_init 58 = .ok (.putfield 34, 3) := by decide +kernel
theorem dX6_init_61 : decode cX6_init 61 = .ok (.aload_n 0, 1) := by decide +kernel
theorem dX6_init_62 : decode cX6_init 62 = .ok (.new 7, 3) := by decide +kernel
theorem dX6_init_65 : decode cX6_init 65 = .ok (.dup, 1) := by decide +kernel
theorem dX6_init_66 : decode cX6_init 66 = .ok (.bipush 12, 2) := by decide +kernel
theorem dX6_init_68 : decode cX6_init 68 = .ok (.invokespecial 11, 3) := by decide +kernel
theorem dX6_init_71 : decode cX6_init 71 = .ok (.putfield 38, 3) := by decide +kernel
theorem dX6_init_74 : decode cX6_init 74 = .ok (.aload_n 0, 1) := by decide +kernel
theorem dX6_init_75 : decode cX6_init 75 = .ok (.new 7, 3) := by decide +kernel
theorem dX6_init_78 : decode cX6_init 78 = .ok (.dup, 1) := by decide +kernel
theorem dX6_init_79 : decode cX6_init 79 = .ok (.bipush 6, 2) := by decide +kernel
theorem dX6_init_81 : decode cX6_init 81 = .ok (.invokespecial 11, 3) := by decide +kernel
theorem dX6_init_84 : decode cX6_init 84 = .ok (.putfield 41, 3) := by decide +kernel
theorem dX6_init_87 : decode cX6_init 87 = .ok (.aload_n 0, 1) := by decide +kernel
theorem dX6_init_88 : decode cX6_init 88 = .ok (.new 7, 3) := by decide +kernel
theorem dX6_init_91 : decode cX6_init 91 = .ok (.dup, 1) := by decide +kernel
theorem dX6_init_92 : decode cX6_init 92 = .ok (.iconst 5, 1) := by decide +kernel
theorem dX6_init_93 : decode cX6_init 93 = .ok (.invokespecial 11, 3) := by decide +kernel
theorem dX6_init_96 : decode cX6_init 96 = .ok (.putfield 44, 3) := by decide +kernel
theorem dX6_init_99 : decode cX6_init 99 = .ok (.aload_n 0, 1) := by decide +kernel
theorem dX6_init_100 : decode cX6_init 100 = .ok (.new 7, 3) := by decide +kernel
theorem dX6_init_103 : decode cX6_init 103 = .ok (.dup, 1) := by decide +kernel
theorem dX6_init_104 : decode cX6_init 104 = .ok (.iconst 5, 1) := by decide +kernel
theorem dX6_init_105 : decode cX6_init 105 = .ok (.invokespecial 11, 3) := by decide +kernel
theorem dX6_init_108 : decode cX6_init 108 = .ok (.putfield 47, 3) := by decide +kernel
theorem dX6_init_111 : decode cX6_init 111 = .ok (.return_, 1) := by decide +kernel
theorem dX6_say_0 : decode cX6_say 0 = .ok (.iload_n 1, 1) := by decide +kernel
theorem dX6_say_1 : decode cX6_say 1 = .ok (.invokestatic 50, 3) := by decide +kernel
theorem dX6_say_4 : decode cX6_say 4 = .ok (.ifCond .ne 6, 3) := by decide +kernel
theorem dX6_say_7 : decode cX6_say 7 = .ok (.bipush (-2), 2) := by decide +kernel
theorem dX6_say_9 : decode cX6_say 9 = .ok (.ireturn, 1) := by decide +kernel
theorem dX6_say_10 : decode cX6_say 10 = .ok (.aload_n 0, 1) := by decide +kernel
theorem dX6_say_11 : decode cX6_say 11 = .ok (.getfield 14, 3) := by decide +kernel
theorem dX6_say_14 : decode cX6_say 14 = .ok (.invokevirtual 54, 3) := by decide +kernel
theorem dX6_say_17 : decode cX6_say 17 = .ok (.bipush 60, 2) := by decide +kernel
theorem dX6_say_19 : decode cX6_say 19 = .ok (.if_icmp .lt 6, 3) := by decide +kernel
theorem dX6_say_22 : decode cX6_say 22 = .ok (.bipush (-4), 2) := by decide +kernel
theorem dX6_say_24 : decode cX6_say 24 = .ok (.ireturn, 1) := by decide +kernel
theorem dX6_say_25 : decode cX6_say 25 = .ok (.aload_n 0, 1) := by decide +kernel
theorem dX6_say_26 : decode cX6_say 26 = .ok (.getfield 14, 3) := by decide +kernel
theorem dX6_say_29 : decode cX6_say 29 = .ok (.iload_n 1, 1) := by decide +kernel
theorem dX6_say_30 : decode cX6_say 30 = .ok (.invokevirtual 58, 3) := by decide +kernel
theorem dX6_say_33 : decode cX6_say 33 = .ok (.aload_n 0, 1) := by decide +kernel
theorem dX6_say_34 : decode cX6_say 34 = .ok (.getfield 14, 3) := by decide +kernel
theorem dX6_say_37 : decode cX6_say 37 = .ok (.invokevirtual 54, 3) := by decide +kernel
theorem dX6_say_40 : decode cX6_say 40 = .ok (.ireturn, 1) := by decide +kernel
theorem dX6_wipe_0 : decode cX6_wipe 0 = .ok (.aload_n 0, 1) := by decide +kernel
theorem dX6_wipe_1 : decode cX6_wipe 1 = .ok (.getfield 14, 3) := by decide +kernel
theorem dX6_wipe_4 : decode cX6_wipe 4 = .ok (.invokevirtual 54, 3) := by decide +kernel
theorem dX6_wipe_7 : decode cX6_wipe 7 = .ok (.istore_n 1, 1) := by decide +kernel
theorem dX6_wipe_8 : decode cX6_wipe 8 = .ok (.aload_n 0, 1) := by decide +kernel
theorem dX6_wipe_9 : decode cX6_wipe 9 = .ok (.getfield 14, 3) := by decide +kernel
theorem dX6_wipe_12 : decode cX6_wipe 12 = .ok (.invokevirtual 61, 3) := by decide +kernel
theorem dX6_wipe_15 : decode cX6_wipe 15 = .ok (.iload_n 1, 1) := by decide +kernel
theorem dX6_wipe_16 : decode cX6_wipe 16 = .ok (.ireturn, 1) := by decide +kernel
theorem dX6_fault_0 : decode cX6_fault 0 = .ok (.aload_n 0, 1) := by decide +kernel
theorem dX6_fault_1 : decode cX6_fault 1 = .ok (.getfield 14, 3) := by decide +kernel
theorem dX6_fault_4 : decode cX6_fault 4 = .ok (.invokestatic 64, 3) := by decide +kernel
theorem dX6_fault_7 : decode cX6_fault 7 = .ok (.ireturn, 1) := by decide +kernel
theorem dX6_layer_0 : decode cX6_layer 0 = .ok (.iload_n 1, 1) := by decide +kernel
theorem dX6_layer_1 : decode cX6_layer 1 = .ok (.invokestatic 70, 3) := by decide +kernel
theorem dX6_layer_4 : decode cX6_layer 4 = .ok (.ifCond .ne 5, 3) := by decide +kernel
theorem dX6_layer_7 : decode cX6_layer 7 = .ok (.iconst (-1), 1) := by decide +kernel
theorem dX6_layer_8 : decode cX6_layer 8 = .ok (.ireturn, 1) := by decide +kernel
theorem dX6_layer_9 : decode cX6_layer 9 = .ok (.aload_n 0, 1) := by decide +kernel
theorem dX6_layer_10 : decode cX6_layer 10 = .ok (.getfield 14, 3) := by decide +kernel
theorem dX6_layer_13 : decode cX6_layer 13 = .ok (.invokestatic 64, 3) := by decide +kernel
theorem dX6_layer_16 : decode cX6_layer 16 = .ok (.bipush (-6), 2) := by decide +kernel
theorem dX6_layer_18 : decode cX6_layer 18 = .ok (.if_icmp .eq 6, 3) := by decide +kernel
theorem dX6_layer_21 : decode cX6_layer 21 = .ok (.bipush (-5), 2) := by decide +kernel
theorem dX6_layer_23 : decode cX6_layer 23 = .ok (.ireturn, 1) := by decide +kernel
theorem dX6_layer_24 : decode cX6_layer 24 = .ok (.aload_n 0, 1) := by decide +kernel
theorem dX6_layer_25 : decode cX6_layer 25 = .ok (.getfield 21, 3) := by decide +kernel
theorem dX6_layer_28 : decode cX6_layer 28 = .ok (.iload_n 1, 1) := by decide +kernel
theorem dX6_layer_29 : decode cX6_layer 29 = .ok (.invokevirtual 73, 3) := by decide +kernel
theorem dX6_layer_32 : decode cX6_layer 32 = .ok (.astore_n 2, 1) := by decide +kernel
theorem dX6_layer_33 : decode cX6_layer 33 = .ok (.aload_n 2, 1) := by decide +kernel
theorem dX6_layer_34 : decode cX6_layer 34 = .ok (.aload_n 0, 1) := by decide +kernel
theorem dX6_layer_35 : decode cX6_layer 35 = .ok (.getfield 14, 3) := by decide +kernel
theorem dX6_layer_38 : decode cX6_layer 38 = .ok (.invokevirtual 77, 3) := by decide +kernel
theorem dX6_layer_41 : decode cX6_layer 41 = .ok (.aload_n 0, 1) := by decide +kernel
theorem dX6_layer_42 : decode cX6_layer 42 = .ok (.getfield 14, 3) := by decide +kernel
theorem dX6_layer_45 : decode cX6_layer 45 = .ok (.invokevirtual 61, 3) := by decide +kernel
theorem dX6_layer_48 : decode cX6_layer 48 = .ok (.aload_n 2, 1) := by decide +kernel
theorem dX6_layer_49 : decode cX6_layer 49 = .ok (.invokevirtual 83, 3) := by decide +kernel
theorem dX6_layer_52 : decode cX6_layer 52 = .ok (.ireturn, 1) := by decide +kernel
theorem dX6_about_0 : decode cX6_about 0 = .ok (.iload_n 1, 1) := by decide +kernel
theorem dX6_about_1 : decode cX6_about 1 = .ok (.invokestatic 70, 3) := by decide +kernel
theorem dX6_about_4 : decode cX6_about 4 = .ok (.ifCond .ne 5, 3) := by decide +kernel
theorem dX6_about_7 : decode cX6_about 7 = .ok (.iconst (-1), 1) := by decide +kernel
theorem dX6_about_8 : decode cX6_about 8 = .ok (.ireturn, 1) := by decide +kernel
theorem dX6_about_9 : decode cX6_about 9 = .ok (.iload_n 2, 1) := by decide +kernel
theorem dX6_about_10 : decode cX6_about 10 = .ok (.ifCond .lt 9, 3) := by decide +kernel
theorem dX6_about_13 : decode cX6_about 13 = .ok (.iload_n 2, 1) := by decide +kernel
theorem dX6_about_14 : decode cX6_about 14 = .ok (.bipush 8, 2) := by decide +kernel
theorem dX6_about_16 : decode cX6_about 16 = .ok (.if_icmp .le 6, 3) := by decide +kernel
theorem dX6_about_19 : decode cX6_about 19 = .ok (.bipush (-2), 2) := by decide +kernel
theorem dX6_about_21 : decode cX6_about 21 = .ok (.ireturn, 1) := by decide +kernel
theorem dX6_about_22 : decode cX6_about 22 = .ok (.aload_n 0, 1) := by decide +kernel
theorem dX6_about_23 : decode cX6_about 23 = .ok (.getfield 21, 3) := by decide +kernel
theorem dX6_about_26 : decode cX6_about 26 = .ok (.iload_n 1, 1) := by decide +kernel
theorem dX6_about_27 : decode cX6_about 27 = .ok (.invokevirtual 73, 3) := by decide +kernel
theorem dX6_about_30 : decode cX6_about 30 = .ok (.iload_n 2, 1) := by decide +kernel
theorem dX6_about_31 : decode cX6_about 31 = .ok (.invokevirtual 86, 3) := by decide +kernel
theorem dX6_about_34 : decode cX6_about 34 = .ok (.ireturn, 1) := by decide +kernel
theorem dX6_chain_0 : decode cX6_chain 0 = .ok (.iload_n 1, 1) := by decide +kernel
theorem dX6_chain_1 : decode cX6_chain 1 = .ok (.invokestatic 70, 3) := by decide +kernel
theorem dX6_chain_4 : decode cX6_chain 4 = .ok (.ifCond .ne 5, 3) := by decide +kernel
theorem dX6_chain_7 : decode cX6_chain 7 = .ok (.iconst (-1), 1) := by decide +kernel
theorem dX6_chain_8 : decode cX6_chain 8 = .ok (.ireturn, 1) := by decide +kernel
theorem dX6_chain_9 : decode cX6_chain 9 = .ok (.aload_n 0, 1) := by decide +kernel
theorem dX6_chain_10 : decode cX6_chain 10 = .ok (.getfield 21, 3) := by decide +kernel
theorem dX6_chain_13 : decode cX6_chain 13 = .ok (.getfield 90, 3) := by decide +kernel
theorem dX6_chain_16 : decode cX6_chain 16 = .ok (.invokevirtual 54, 3) := by decide +kernel
theorem dX6_chain_19 : decode cX6_chain 19 = .ok (.iconst 5, 1) := by decide +kernel
theorem dX6_chain_20 : decode cX6_chain 20 = .ok (.if_icmp .lt 6, 3) := by decide +kernel
theorem dX6_chain_23 : decode cX6_chain 23 = .ok (.bipush (-4), 2) := by decide +kernel
theorem dX6_chain_25 : decode cX6_chain 25 = .ok (.ireturn, 1) := by decide +kernel
theorem dX6_chain_26 : decode cX6_chain 26 = .ok (.aload_n 0, 1) := by decide +kernel
theorem dX6_chain_27 : decode cX6_chain 27 = .ok (.getfield 21, 3) := by decide +kernel
theorem dX6_chain_30 : decode cX6_chain 30 = .ok (.getfield 90, 3) := by decide +kernel
theorem dX6_chain_33 : decode cX6_chain 33 = .ok (.iload_n 1, 1) := by decide +kernel
theorem dX6_chain_34 : decode cX6_chain 34 = .ok (.invokevirtual 58, 3) := by decide +kernel
theorem dX6_chain_37 : decode cX6_chain 37 = .ok (.aload_n 0, 1) := by decide +kernel
theorem dX6_chain_38 : decode cX6_chain 38 = .ok (.getfield 21, 3) := by decide +kernel
theorem dX6_chain_41 : decode cX6_chain 41 = .ok (.getfield 90, 3) := by decide +kernel
theorem dX6_chain_44 : decode cX6_chain 44 = .ok (.invokevirtual 54, 3) := by decide +kernel
theorem dX6_chain_47 : decode cX6_chain 47 = .ok (.ireturn, 1) := by decide +kernel
theorem dX6_unchain_0 : decode cX6_unchain 0 = .ok (.aload_n 0, 1) := by decide +kernel
theorem dX6_unchain_1 : decode cX6_unchain 1 = .ok (.getfield 21, 3) := by decide +kernel
theorem dX6_unchain_4 : decode cX6_unchain 4 = .ok (.getfield 90, 3) := by decide +kernel
theorem dX6_unchain_7 : decode cX6_unchain 7 = .ok (.invokevirtual 54, 3) := by decide +kernel
theorem dX6_unchain_10 : decode cX6_unchain 10 = .ok (.ifCond .ne 6, 3) := by decide +kernel
theorem dX6_unchain_13 : decode cX6_unchain 13 = .ok (.bipush (-5), 2) := by decide +kernel
theorem dX6_unchain_15 : decode cX6_unchain 15 = .ok (.ireturn, 1) := by decide +kernel
theorem dX6_unchain_16 : decode cX6_unchain 16 = .ok (.aload_n 0, 1) := by decide +kernel
theorem dX6_unchain_17 : decode cX6_unchain 17 = .ok (.getfield 21, 3) := by decide +kernel
theorem dX6_unchain_20 : decode cX6_unchain 20 = .ok (.getfield 90, 3) := by decide +kernel
theorem dX6_unchain_23 : decode cX6_unchain 23 = .ok (.invokevirtual 93, 3) := by decide +kernel
theorem dX6_unchain_26 : decode cX6_unchain 26 = .ok (.aload_n 0, 1) := by decide +kernel
theorem dX6_unchain_27 : decode cX6_unchain 27 = .ok (.getfield 21, 3) := by decide +kernel
theorem dX6_unchain_30 : decode cX6_unchain 30 = .ok (.getfield 90, 3) := by decide +kernel
theorem dX6_unchain_33 : decode cX6_unchain 33 = .ok (.invokevirtual 54, 3) := by decide +kernel
theorem dX6_unchain_36 : decode cX6_unchain 36 = .ok (.ireturn, 1) := by decide +kernel
theorem dX6_text_0 : decode cX6_text 0 = .ok (.aload_n 0, 1) := by decide +kernel
theorem dX6_text_1 : decode cX6_text 1 = .ok (.getfield 14, 3) := by decide +kernel
theorem dX6_text_4 : decode cX6_text 4 = .ok (.invokevirtual 54, 3) := by decide +kernel
theorem dX6_text_7 : decode cX6_text 7 = .ok (.ifCond .eq 15, 3) := by decide +kernel
theorem dX6_text_10 : decode cX6_text 10 = .ok (.aload_n 0, 1) := by decide +kernel
theorem dX6_text_11 : decode cX6_text 11 = .ok (.getfield 14, 3) := by decide +kernel
theorem dX6_text_14 : decode cX6_text 14 = .ok (.invokevirtual 54, 3) := by decide +kernel
theorem dX6_text_17 : decode cX6_text 17 = .ok (.bipush 12, 2) := by decide +kernel
theorem dX6_text_19 : decode cX6_text 19 = .ok (.if_icmp .le 6, 3) := by decide +kernel
theorem dX6_text_22 : decode cX6_text 22 = .ok (.bipush (-5), 2) := by decide +kernel
theorem dX6_text_24 : decode cX6_text 24 = .ok (.ireturn, 1) := by decide +kernel
theorem dX6_text_25 : decode cX6_text 25 = .ok (.aload_n 0, 1) := by decide +kernel
theorem dX6_text_26 : decode cX6_text 26 = .ok (.getfield 21, 3) := by decide +kernel
theorem dX6_text_29 : decode cX6_text 29 = .ok (.getfield 96, 3) := by decide +kernel
theorem dX6_text_32 : decode cX6_text 32 = .ok (.aload_n 0, 1) := by decide +kernel
theorem dX6_text_33 : decode cX6_text 33 = .ok (.getfield 14, 3) := by decide +kernel
theorem dX6_text_36 : decode cX6_text 36 = .ok (.invokevirtual 99, 3) := by decide +kernel
theorem dX6_text_39 : decode cX6_text 39 = .ok (.aload_n 0, 1) := by decide +kernel
theorem dX6_text_40 : decode cX6_text 40 = .ok (.getfield 14, 3) := by decide +kernel
theorem dX6_text_43 : decode cX6_text 43 = .ok (.invokevirtual 61, 3) := by decide +kernel
theorem dX6_text_46 : decode cX6_text 46 = .ok (.aload_n 0, 1) := by decide +kernel
theorem dX6_text_47 : decode cX6_text 47 = .ok (.getfield 21, 3) := by decide +kernel
theorem dX6_text_50 : decode cX6_text 50 = .ok (.getfield 96, 3) := by decide +kernel
theorem dX6_text_53 : decode cX6_text 53 = .ok (.invokevirtual 54, 3) := by decide +kernel
theorem dX6_text_56 : decode cX6_text 56 = .ok (.ireturn, 1) := by decide +kernel
theorem dX6_behind_0 : decode cX6_behind 0 = .ok (.iload_n 1, 1) := by decide +kernel
theorem dX6_behind_1 : decode cX6_behind 1 = .ok (.ifCond .lt 17, 3) := by decide +kernel
theorem dX6_behind_4 : decode cX6_behind 4 = .ok (.iload_n 1, 1) := by decide +kernel
theorem dX6_behind_5 : decode cX6_behind 5 = .ok (.aload_n 0, 1) := by decide +kernel
theorem dX6_behind_6 : decode cX6_behind 6 = .ok (.getfield 21, 3) := by decide +kernel
theorem dX6_behind_9 : decode cX6_behind 9 = .ok (.getfield 90, 3) := by decide +kernel
theorem dX6_behind_12 : decode cX6_behind 12 = .ok (.invokevirtual 54, 3) := by decide +kernel
theorem dX6_behind_15 : decode cX6_behind 15 = .ok (.if_icmp .le 6, 3) := by decide +kernel
theorem dX6_behind_18 : decode cX6_behind 18 = .ok (.bipush (-2), 2) := by decide +kernel
theorem dX6_behind_20 : decode cX6_behind 20 = .ok (.ireturn, 1) := by decide +kernel
theorem dX6_behind_21 : decode cX6_behind 21 = .ok (.aload_n 0, 1) := by decide +kernel
theorem dX6_behind_22 : decode cX6_behind 22 = .ok (.getfield 41, 3) := by decide +kernel
theorem dX6_behind_25 : decode cX6_behind 25 = .ok (.aload_n 0, 1) := by decide +kernel
theorem dX6_behind_26 : decode cX6_behind 26 = .ok (.getfield 21, 3) := by decide +kernel
theorem dX6_behind_29 : decode cX6_behind 29 = .ok (.getfield 90, 3) := by decide +kernel
theorem dX6_behind_32 : decode cX6_behind 32 = .ok (.iload_n 1, 1) := by decide +kernel
theorem dX6_behind_33 : decode cX6_behind 33 = .ok (.invokevirtual 102, 3) := by decide +kernel
theorem dX6_behind_36 : decode cX6_behind 36 = .ok (.aload_n 0, 1) := by decide +kernel
theorem dX6_behind_37 : decode cX6_behind 37 = .ok (.getfield 34, 3) := by decide +kernel
theorem dX6_behind_40 : decode cX6_behind 40 = .ok (.aload_n 0, 1) := by decide +kernel
theorem dX6_behind_41 : decode cX6_behind 41 = .ok (.getfield 21, 3) := by decide +kernel
theorem dX6_behind_44 : decode cX6_behind 44 = .ok (.aload_n 0, 1) := by decide +kernel
theorem dX6_behind_45 : decode cX6_behind 45 = .ok (.getfield 41, 3) := by decide +kernel
theorem dX6_behind_48 : decode cX6_behind 48 = .ok (.aload_n 0, 1) := by decide +kernel
theorem dX6_behind_49 : decode cX6_behind 49 = .ok (.getfield 21, 3) := by decide +kernel
theorem dX6_behind_52 : decode cX6_behind 52 = .ok (.getfield 96, 3) := by decide +kernel
theorem dX6_behind_55 : decode cX6_behind 55 = .ok (.bipush (-6), 2) := by decide +kernel
theorem dX6_behind_57 : decode cX6_behind 57 = .ok (.invokevirtual 106, 3) := by decide +kernel
theorem dX6_behind_60 : decode cX6_behind 60 = .ok (.istore_n 3, 1) := by decide +kernel
theorem dX6_behind_61 : decode cX6_behind 61 = .ok (.iload_n 3, 1) := by decide +kernel
theorem dX6_behind_62 : decode cX6_behind 62 = .ok (.bipush (-7), 2) := by decide +kernel
theorem dX6_behind_64 : decode cX6_behind 64 = .ok (.if_icmp .eq 9, 3) := by decide +kernel
theorem dX6_behind_67 : decode cX6_behind 67 = .ok (.iload_n 3, 1) := by decide +kernel
theorem dX6_behind_68 : decode cX6_behind 68 = .ok (.bipush (-5), 2) := by decide +kernel
theorem dX6_behind_70 : decode cX6_behind 70 = .ok (.if_icmp .ne 5, 3) := by decide +kernel
theorem dX6_behind_73 : decode cX6_behind 73 = .ok (.iload_n 3, 1) := by decide +kernel
theorem dX6_behind_74 : decode cX6_behind 74 = .ok (.ireturn, 1) := by decide +kernel
theorem dX6_behind_75 : decode cX6_behind 75 = .ok (.iload_n 2, 1) := by decide +kernel
theorem dX6_behind_76 : decode cX6_behind 76 = .ok (.iconst (-1), 1) := by decide +kernel
theorem dX6_behind_77 : decode cX6_behind 77 = .ok (.if_icmp .ne 7, 3) := by decide +kernel
theorem dX6_behind_80 : decode cX6_behind 80 = .ok (.iload_n 3, 1) := by decide +kernel
theorem dX6_behind_81 : decode cX6_behind 81 = .ok (.goto 14, 3) := by decide +kernel
theorem dX6_behind_84 : decode cX6_behind 84 = .ok (.aload_n 0, 1) := by decide +kernel
theorem dX6_behind_85 : decode cX6_behind 85 = .ok (.getfield 34, 3) := by decide +kernel
theorem dX6_behind_88 : decode cX6_behind 88 = .ok (.invokevirtual 110, 3) := by decide +kernel
theorem dX6_behind_91 : decode cX6_behind 91 = .ok (.iload_n 2, 1) := by decide +kernel
theorem dX6_behind_92 : decode cX6_behind 92 = .ok (.invokevirtual 114, 3) := by decide +kernel
theorem dX6_behind_95 : decode cX6_behind 95 = .ok (.ireturn, 1) := by decide +kernel
theorem dX6_barred_0 : decode cX6_barred 0 = .ok (.aload_n 0, 1) := by decide +kernel
theorem dX6_barred_1 : decode cX6_barred 1 = .ok (.getfield 34, 3) := by decide +kernel
theorem dX6_barred_4 : decode cX6_barred 4 = .ok (.aload_n 0, 1) := by decide +kernel
theorem dX6_barred_5 : decode cX6_barred 5 = .ok (.getfield 21, 3) := by decide +kernel
theorem dX6_barred_8 : decode cX6_barred 8 = .ok (.aload_n 0, 1) := by decide +kernel
theorem dX6_barred_9 : decode cX6_barred 9 = .ok (.getfield 21, 3) := by decide +kernel
theorem dX6_barred_12 : decode cX6_barred 12 = .ok (.getfield 90, 3) := by decide +kernel
theorem dX6_barred_15 : decode cX6_barred 15 = .ok (.aload_n 0, 1) := by decide +kernel
theorem dX6_barred_16 : decode cX6_barred 16 = .ok (.getfield 21, 3) := by decide +kernel
theorem dX6_barred_19 : decode cX6_barred 19 = .ok (.getfield 96, 3) := by decide +kernel
theorem dX6_barred_22 : decode cX6_barred 22 = .ok (.bipush (-6), 2) := by decide +kernel
theorem dX6_barred_24 : decode cX6_barred 24 = .ok (.invokevirtual 106, 3) := by decide +kernel
theorem dX6_barred_27 : decode cX6_barred 27 = .ok (.istore_n 1, 1) := by decide +kernel
theorem dX6_barred_28 : decode cX6_barred 28 = .ok (.iload_n 1, 1) := by decide +kernel
theorem dX6_barred_29 : decode cX6_barred 29 = .ok (.bipush (-7), 2) := by decide +kernel
theorem dX6_barred_31 : decode cX6_barred 31 = .ok (.if_icmp .ne 8, 3) := by decide +kernel
theorem dX6_barred_34 : decode cX6_barred 34 = .ok (.bipush (-7), 2) := by decide +kernel
theorem dX6_barred_36 : decode cX6_barred 36 = .ok (.goto 10, 3) := by decide +kernel
theorem dX6_barred_39 : decode cX6_barred 39 = .ok (.aload_n 0, 1) := by decide +kernel
theorem dX6_barred_40 : decode cX6_barred 40 = .ok (.getfield 34, 3) := by decide +kernel
theorem dX6_barred_43 : decode cX6_barred 43 = .ok (.invokevirtual 117, 3) := by decide +kernel
theorem dX6_barred_46 : decode cX6_barred 46 = .ok (.ireturn, 1) := by decide +kernel
theorem dX6_grows_0 : decode cX6_grows 0 = .ok (.iload_n 1, 1) := by decide +kernel
theorem dX6_grows_1 : decode cX6_grows 1 = .ok (.invokestatic 50, 3) := by decide +kernel
theorem dX6_grows_4 : decode cX6_grows 4 = .ok (.ifCond .ne 6, 3) := by decide +kernel
theorem dX6_grows_7 : decode cX6_grows 7 = .ok (.bipush (-2), 2) := by decide +kernel
theorem dX6_grows_9 : decode cX6_grows 9 = .ok (.ireturn, 1) := by decide +kernel
theorem dX6_grows_10 : decode cX6_grows 10 = .ok (.aload_n 0, 1) := by decide +kernel
theorem dX6_grows_11 : decode cX6_grows 11 = .ok (.bipush 120, 2) := by decide +kernel
theorem dX6_grows_13 : decode cX6_grows 13 = .ok (.invokevirtual 120, 3) := by decide +kernel
theorem dX6_grows_16 : decode cX6_grows 16 = .ok (.istore_n 2, 1) := by decide +kernel
theorem dX6_grows_17 : decode cX6_grows 17 = .ok (.aload_n 0, 1) := by decide +kernel
theorem dX6_grows_18 : decode cX6_grows 18 = .ok (.iload_n 1, 1) := by decide +kernel
theorem dX6_grows_19 : decode cX6_grows 19 = .ok (.invokevirtual 120, 3) := by decide +kernel
theorem dX6_grows_22 : decode cX6_grows 22 = .ok (.istore_n 3, 1) := by decide +kernel
theorem dX6_grows_23 : decode cX6_grows 23 = .ok (.iload_n 2, 1) := by decide +kernel
theorem dX6_grows_24 : decode cX6_grows 24 = .ok (.ifCond .lt 7, 3) := by decide +kernel
theorem dX6_grows_27 : decode cX6_grows 27 = .ok (.iload_n 3, 1) := by decide +kernel
theorem dX6_grows_28 : decode cX6_grows 28 = .ok (.ifCond .ge 8, 3) := by decide +kernel
theorem dX6_grows_31 : decode cX6_grows 31 = .ok (.bipush (-6), 2) := by decide +kernel
theorem dX6_grows_33 : decode cX6_grows 33 = .ok (.goto 8, 3) := by decide +kernel
theorem dX6_grows_36 : decode cX6_grows 36 = .ok (.iload_n 3, 1) := by decide +kernel
theorem dX6_grows_37 : decode cX6_grows 37 = .ok (.iload_n 2, 1) := by decide +kernel
theorem dX6_grows_38 : decode cX6_grows 38 = .ok (.isub, 1) := by decide +kernel
theorem dX6_grows_39 : decode cX6_grows 39 = .ok (.iconst 1, 1) := by decide +kernel
theorem dX6_grows_40 : decode cX6_grows 40 = .ok (.iadd, 1) := by decide +kernel
theorem dX6_grows_41 : decode cX6_grows 41 = .ok (.ireturn, 1) := by decide +kernel
theorem dX6_safe_0 : decode cX6_safe 0 = .ok (.aload_n 0, 1) := by decide +kernel
theorem dX6_safe_1 : decode cX6_safe 1 = .ok (.bipush 120, 2) := by decide +kernel
theorem dX6_safe_3 : decode cX6_safe 3 = .ok (.invokevirtual 120, 3) := by decide +kernel
theorem dX6_safe_6 : decode cX6_safe 6 = .ok (.istore_n 2, 1) := by decide +kernel
theorem dX6_safe_7 : decode cX6_safe 7 = .ok (.iconst 0, 1) := by decide +kernel
theorem dX6_safe_8 : decode cX6_safe 8 = .ok (.istore_n 3, 1) := by decide +kernel
theorem dX6_safe_9 : decode cX6_safe 9 = .ok (.bipush 33, 2) := by decide +kernel
theorem dX6_safe_11 : decode cX6_safe 11 = .ok (.istore 4, 2) := by decide +kernel
theorem dX6_safe_13 : decode cX6_safe 13 = .ok (.iload_n 2, 1) := by decide +kernel
theorem dX6_safe_14 : decode cX6_safe 14 = .ok (.ifCond .lt 37, 3) := by decide +kernel
theorem dX6_safe_17 : decode cX6_safe 17 = .ok (.iload 4, 2) := by decide +kernel
theorem dX6_safe_19 : decode cX6_safe 19 = .ok (.bipush 126, 2) := by decide +kernel
theorem dX6_safe_21 : decode cX6_safe 21 = .ok (.if_icmp .gt 30, 3) := by decide +kernel
theorem dX6_safe_24 : decode cX6_safe 24 = .ok (.aload_n 0, 1) := by decide +kernel
theorem dX6_safe_25 : decode cX6_safe 25 = .ok (.iload 4, 2) := by decide +kernel
theorem dX6_safe_27 : decode cX6_safe 27 = .ok (.invokevirtual 120, 3) := by decide +kernel
theorem dX6_safe_30 : decode cX6_safe 30 = .ok (.iload_n 2, 1) := by decide +kernel
theorem dX6_safe_31 : decode cX6_safe 31 = .ok (.if_icmp .ne 14, 3) := by decide +kernel
theorem dX6_safe_34 : decode cX6_safe 34 = .ok (.iload_n 3, 1) := by decide +kernel
theorem dX6_safe_35 : decode cX6_safe 35 = .ok (.iload_n 1, 1) := by decide +kernel
theorem dX6_safe_36 : decode cX6_safe 36 = .ok (.if_icmp .ne 6, 3) := by decide +kernel
theorem dX6_safe_39 : decode cX6_safe 39 = .ok (.iload 4, 2) := by decide +kernel
theorem dX6_safe_41 : decode cX6_safe 41 = .ok (.ireturn, 1) := by decide +kernel
theorem dX6_safe_42 : decode cX6_safe 42 = .ok (.iinc 3 1, 3) := by decide +kernel
theorem dX6_safe_45 : decode cX6_safe 45 = .ok (.iinc 4 1, 3) := by decide +kernel
theorem dX6_safe_48 : decode cX6_safe 48 = .ok (.goto (-35), 3) := by decide +kernel
theorem dX6_safe_51 : decode cX6_safe 51 = .ok (.iload_n 1, 1) := by decide +kernel
theorem dX6_safe_52 : decode cX6_safe 52 = .ok (.iconst (-1), 1) := by decide +kernel
theorem dX6_safe_53 : decode cX6_safe 53 = .ok (.if_icmp .ne 7, 3) := by decide +kernel
theorem dX6_safe_56 : decode cX6_safe 56 = .ok (.iload_n 3, 1) := by decide +kernel
theorem dX6_safe_57 : decode cX6_safe 57 = .ok (.goto 5, 3) := by decide +kernel
theorem dX6_safe_60 : decode cX6_safe 60 = .ok (.bipush (-6), 2) := by decide +kernel
theorem dX6_safe_62 : decode cX6_safe 62 = .ok (.ireturn, 1) := by decide +kernel
theorem dX6_dearest_0 : decode cX6_dearest 0 = .ok (.aload_n 0, 1) := by decide +kernel
theorem dX6_dearest_1 : decode cX6_dearest 1 = .ok (.bipush 120, 2) := by decide +kernel
theorem dX6_dearest_3 : decode cX6_dearest 3 = .ok (.invokevirtual 120, 3) := by decide +kernel
theorem dX6_dearest_6 : decode cX6_dearest 6 = .ok (.ifCond .ge 6, 3) := by decide +kernel
theorem dX6_dearest_9 : decode cX6_dearest 9 = .ok (.bipush (-6), 2) := by decide +kernel
theorem dX6_dearest_11 : decode cX6_dearest 11 = .ok (.ireturn, 1) := by decide +kernel
theorem dX6_dearest_12 : decode cX6_dearest 12 = .ok (.bipush (-6), 2) := by decide +kernel
theorem dX6_dearest_14 : decode cX6_dearest 14 = .ok (.istore_n 1, 1) := by decide +kernel
theorem dX6_dearest_15 : decode cX6_dearest 15 = .ok (.iconst 0, 1) := by decide +kernel
theorem dX6_dearest_16 : decode cX6_dearest 16 = .ok (.istore_n 2, 1) := by decide +kernel
theorem dX6_dearest_17 : decode cX6_dearest 17 = .ok (.bipush 33, 2) := by decide +kernel
theorem dX6_dearest_19 : decode cX6_dearest 19 = .ok (.istore_n 3, 1) := by decide +kernel
theorem dX6_dearest_20 : decode cX6_dearest 20 = .ok (.iload_n 3, 1) := by decide +kernel
theorem dX6_dearest_21 : decode cX6_dearest 21 = .ok (.bipush 126, 2) := by decide +kernel
theorem dX6_dearest_23 : decode cX6_dearest 23 = .ok (.if_icmp .gt 27, 3) := by decide +kernel
theorem dX6_dearest_26 : decode cX6_dearest 26 = .ok (.aload_n 0, 1) := by decide +kernel
theorem dX6_dearest_27 : decode cX6_dearest 27 = .ok (.iload_n 3, 1) := by decide +kernel
theorem dX6_dearest_28 : decode cX6_dearest 28 = .ok (.invokevirtual 120, 3) := by decide +kernel
theorem dX6_dearest_31 : decode cX6_dearest 31 = .ok (.istore 4, 2) := by decide +kernel
theorem dX6_dearest_33 : decode cX6_dearest 33 = .ok (.iload 4, 2) := by decide +kernel
theorem dX6_dearest_35 : decode cX6_dearest 35 = .ok (.iload_n 2, 1) := by decide +kernel
theorem dX6_dearest_36 : decode cX6_dearest 36 = .ok (.if_icmp .le 8, 3) := by decide +kernel
theorem dX6_dearest_39 : decode cX6_dearest 39 = .ok (.iload 4, 2) := by decide +kernel
theorem dX6_dearest_41 : decode cX6_dearest 41 = .ok (.istore_n 2, 1) := by decide +kernel
theorem dX6_dearest_42 : decode cX6_dearest 42 = .ok (.iload_n 3, 1) := by decide +kernel
theorem dX6_dearest_43 : decode cX6_dearest 43 = .ok (.istore_n 1, 1) := by decide +kernel
theorem dX6_dearest_44 : decode cX6_dearest 44 = .ok (.iinc 3 1, 3) := by decide +kernel
theorem dX6_dearest_47 : decode cX6_dearest 47 = .ok (.goto (-27), 3) := by decide +kernel
theorem dX6_dearest_50 : decode cX6_dearest 50 = .ok (.iload_n 1, 1) := by decide +kernel
theorem dX6_dearest_51 : decode cX6_dearest 51 = .ok (.ireturn, 1) := by decide +kernel
theorem dX6_read_0 : decode cX6_read 0 = .ok (.aload_n 0, 1) := by decide +kernel
theorem dX6_read_1 : decode cX6_read 1 = .ok (.getfield 14, 3) := by decide +kernel
theorem dX6_read_4 : decode cX6_read 4 = .ok (.invokevirtual 54, 3) := by decide +kernel
theorem dX6_read_7 : decode cX6_read 7 = .ok (.ifCond .ne 6, 3) := by decide +kernel
theorem dX6_read_10 : decode cX6_read 10 = .ok (.bipush (-3), 2) := by decide +kernel
theorem dX6_read_12 : decode cX6_read 12 = .ok (.ireturn, 1) := by decide +kernel
theorem dX6_read_13 : decode cX6_read 13 = .ok (.aload_n 0, 1) := by decide +kernel
theorem dX6_read_14 : decode cX6_read 14 = .ok (.getfield 34, 3) := by decide +kernel
theorem dX6_read_17 : decode cX6_read 17 = .ok (.aload_n 0, 1) := by decide +kernel
theorem dX6_read_18 : decode cX6_read 18 = .ok (.getfield 14, 3) := by decide +kernel
theorem dX6_read_21 : decode cX6_read 21 = .ok (.invokevirtual 123, 3) := by decide +kernel
theorem dX6_read_24 : decode cX6_read 24 = .ok (.aload_n 0, 1) := by decide +kernel
theorem dX6_read_25 : decode cX6_read 25 = .ok (.getfield 34, 3) := by decide +kernel
theorem dX6_read_28 : decode cX6_read 28 = .ok (.aload_n 0, 1) := by decide +kernel
theorem dX6_read_29 : decode cX6_read 29 = .ok (.getfield 21, 3) := by decide +kernel
theorem dX6_read_32 : decode cX6_read 32 = .ok (.aload_n 0, 1) := by decide +kernel
theorem dX6_read_33 : decode cX6_read 33 = .ok (.getfield 21, 3) := by decide +kernel
theorem dX6_read_36 : decode cX6_read 36 = .ok (.getfield 90, 3) := by decide +kernel
theorem dX6_read_39 : decode cX6_read 39 = .ok (.invokevirtual 126, 3) := by decide +kernel
theorem dX6_read_42 : decode cX6_read 42 = .ok (.istore_n 2, 1) := by decide +kernel
theorem dX6_read_43 : decode cX6_read 43 = .ok (.iload_n 1, 1) := by decide +kernel
theorem dX6_read_44 : decode cX6_read 44 = .ok (.iconst (-1), 1) := by decide +kernel
theorem dX6_read_45 : decode cX6_read 45 = .ok (.if_icmp .ne 5, 3) := by decide +kernel
theorem dX6_read_48 : decode cX6_read 48 = .ok (.iload_n 2, 1) := by decide +kernel
theorem dX6_read_49 : decode cX6_read 49 = .ok (.ireturn, 1) := by decide +kernel
theorem dX6_read_50 : decode cX6_read 50 = .ok (.iload_n 1, 1) := by decide +kernel
theorem dX6_read_51 : decode cX6_read 51 = .ok (.bipush (-2), 2) := by decide +kernel
theorem dX6_read_53 : decode cX6_read 53 = .ok (.if_icmp .ne 11, 3) := by decide +kernel
theorem dX6_read_56 : decode cX6_read 56 = .ok (.aload_n 0, 1) := by decide +kernel
theorem dX6_read_57 : decode cX6_read 57 = .ok (.getfield 34, 3) := by decide +kernel
theorem dX6_read_60 : decode cX6_read 60 = .ok (.invokevirtual 130, 3) := by decide +kernel
theorem dX6_read_63 : decode cX6_read 63 = .ok (.ireturn, 1) := by decide +kernel
theorem dX6_read_64 : decode cX6_read 64 = .ok (.iload_n 2, 1) := by decide +kernel
theorem dX6_read_65 : decode cX6_read 65 = .ok (.bipush (-6), 2) := by decide +kernel
theorem dX6_read_67 : decode cX6_read 67 = .ok (.if_icmp .eq 6, 3) := by decide +kernel
theorem dX6_read_70 : decode cX6_read 70 = .ok (.bipush (-6), 2) := by decide +kernel
theorem dX6_read_72 : decode cX6_read 72 = .ok (.ireturn, 1) := by decide +kernel
theorem dX6_read_73 : decode cX6_read 73 = .ok (.iload_n 1, 1) := by decide +kernel
theorem dX6_read_74 : decode cX6_read 74 = .ok (.bipush (-3), 2) := by decide +kernel
theorem dX6_read_76 : decode cX6_read 76 = .ok (.if_icmp .ne 16, 3) := by decide +kernel
theorem dX6_read_79 : decode cX6_read 79 = .ok (.aload_n 0, 1) := by decide +kernel
theorem dX6_read_80 : decode cX6_read 80 = .ok (.getfield 34, 3) := by decide +kernel
theorem dX6_read_83 : decode cX6_read 83 = .ok (.invokevirtual 110, 3) := by decide +kernel
theorem dX6_read_86 : decode cX6_read 86 = .ok (.invokevirtual 54, 3) := by decide +kernel
theorem dX6_read_89 : decode cX6_read 89 = .ok (.goto 14, 3) := by decide +kernel
theorem dX6_read_92 : decode cX6_read 92 = .ok (.aload_n 0, 1) := by decide +kernel
theorem dX6_read_93 : decode cX6_read 93 = .ok (.getfield 34, 3) := by decide +kernel
theorem dX6_read_96 : decode cX6_read 96 = .ok (.invokevirtual 110, 3) := by decide +kernel
theorem dX6_read_99 : decode cX6_read 99 = .ok (.iload_n 1, 1) := by decide +kernel
theorem dX6_read_100 : decode cX6_read 100 = .ok (.invokevirtual 114, 3) := by decide +kernel
theorem dX6_read_103 : decode cX6_read 103 = .ok (.ireturn, 1) := by decide +kernel
theorem dX6_spills_0 : decode cX6_spills 0 = .ok (.aload_n 0, 1) := by decide +kernel
theorem dX6_spills_1 : decode cX6_spills 1 = .ok (.iload_n 1, 1) := by decide +kernel
theorem dX6_spills_2 : decode cX6_spills 2 = .ok (.invokevirtual 133, 3) := by decide +kernel
theorem dX6_spills_5 : decode cX6_spills 5 = .ok (.ifCond .ne 6, 3) := by decide +kernel
theorem dX6_spills_8 : decode cX6_spills 8 = .ok (.bipush (-2), 2) := by decide +kernel
theorem dX6_spills_10 : decode cX6_spills 10 = .ok (.ireturn, 1) := by decide +kernel
theorem dX6_spills_11 : decode cX6_spills 11 = .ok (.aload_n 0, 1) := by decide +kernel
theorem dX6_spills_12 : decode cX6_spills 12 = .ok (.aload_n 0, 1) := by decide +kernel
theorem dX6_spills_13 : decode cX6_spills 13 = .ok (.getfield 21, 3) := by decide +kernel
theorem dX6_spills_16 : decode cX6_spills 16 = .ok (.getfield 96, 3) := by decide +kernel
theorem dX6_spills_19 : decode cX6_spills 19 = .ok (.aload_n 0, 1) := by decide +kernel
theorem dX6_spills_20 : decode cX6_spills 20 = .ok (.getfield 21, 3) := by decide +kernel
theorem dX6_spills_23 : decode cX6_spills 23 = .ok (.getfield 90, 3) := by decide +kernel
theorem dX6_spills_26 : decode cX6_spills 26 = .ok (.iload_n 1, 1) := by decide +kernel
theorem dX6_spills_27 : decode cX6_spills 27 = .ok (.invokevirtual 136, 3) := by decide +kernel
theorem dX6_spills_30 : decode cX6_spills 30 = .ok (.ireturn, 1) := by decide +kernel
theorem dX6_spill_0 : decode cX6_spill 0 = .ok (.aload_n 0, 1) := by decide +kernel
theorem dX6_spill_1 : decode cX6_spill 1 = .ok (.iload_n 1, 1) := by decide +kernel
theorem dX6_spill_2 : decode cX6_spill 2 = .ok (.invokevirtual 133, 3) := by decide +kernel
theorem dX6_spill_5 : decode cX6_spill 5 = .ok (.ifCond .ne 6, 3) := by decide +kernel
theorem dX6_spill_8 : decode cX6_spill 8 = .ok (.bipush (-2), 2) := by decide +kernel
theorem dX6_spill_10 : decode cX6_spill 10 = .ok (.ireturn, 1) := by decide +kernel
theorem dX6_spill_11 : decode cX6_spill 11 = .ok (.aload_n 0, 1) := by decide +kernel
theorem dX6_spill_12 : decode cX6_spill 12 = .ok (.invokevirtual 140, 3) := by decide +kernel
theorem dX6_spill_15 : decode cX6_spill 15 = .ok (.ifCond .ne 6, 3) := by decide +kernel
theorem dX6_spill_18 : decode cX6_spill 18 = .ok (.bipush (-3), 2) := by decide +kernel
theorem dX6_spill_20 : decode cX6_spill 20 = .ok (.ireturn, 1) := by decide +kernel
theorem dX6_spill_21 : decode cX6_spill 21 = .ok (.aload_n 0, 1) := by decide +kernel
theorem dX6_spill_22 : decode cX6_spill 22 = .ok (.iload_n 1, 1) := by decide +kernel
theorem dX6_spill_23 : decode cX6_spill 23 = .ok (.invokevirtual 144, 3) := by decide +kernel
theorem dX6_spill_26 : decode cX6_spill 26 = .ok (.ifCond .ne 6, 3) := by decide +kernel
theorem dX6_spill_29 : decode cX6_spill 29 = .ok (.bipush (-6), 2) := by decide +kernel
theorem dX6_spill_31 : decode cX6_spill 31 = .ok (.ireturn, 1) := by decide +kernel
theorem dX6_spill_32 : decode cX6_spill 32 = .ok (.iload_n 2, 1) := by decide +kernel
theorem dX6_spill_33 : decode cX6_spill 33 = .ok (.iconst (-1), 1) := by decide +kernel
theorem dX6_spill_34 : decode cX6_spill 34 = .ok (.if_icmp .ne 13, 3) := by decide +kernel
theorem dX6_spill_37 : decode cX6_spill 37 = .ok (.aload_n 0, 1) := by decide +kernel
theorem dX6_spill_38 : decode cX6_spill 38 = .ok (.getfield 38, 3) := by decide +kernel
theorem dX6_spill_41 : decode cX6_spill 41 = .ok (.invokevirtual 54, 3) := by decide +kernel
theorem dX6_spill_44 : decode cX6_spill 44 = .ok (.goto 11, 3) := by decide +kernel
theorem dX6_spill_47 : decode cX6_spill 47 = .ok (.aload_n 0, 1) := by decide +kernel
theorem dX6_spill_48 : decode cX6_spill 48 = .ok (.getfield 38, 3) := by decide +kernel
theorem dX6_spill_51 : decode cX6_spill 51 = .ok (.iload_n 2, 1) := by decide +kernel
theorem dX6_spill_52 : decode cX6_spill 52 = .ok (.invokevirtual 114, 3) := by decide +kernel
theorem dX6_spill_55 : decode cX6_spill 55 = .ok (.ireturn, 1) := by decide +kernel
theorem dX6_twice_0 : decode cX6_twice 0 = .ok (.aload_n 0, 1) := by decide +kernel
theorem dX6_twice_1 : decode cX6_twice 1 = .ok (.iload_n 1, 1) := by decide +kernel
theorem dX6_twice_2 : decode cX6_twice 2 = .ok (.invokevirtual 133, 3) := by decide +kernel
theorem dX6_twice_5 : decode cX6_twice 5 = .ok (.ifCond .ne 6, 3) := by decide +kernel
theorem dX6_twice_8 : decode cX6_twice 8 = .ok (.bipush (-2), 2) := by decide +kernel
theorem dX6_twice_10 : decode cX6_twice 10 = .ok (.ireturn, 1) := by decide +kernel
theorem dX6_twice_11 : decode cX6_twice 11 = .ok (.aload_n 0, 1) := by decide +kernel
theorem dX6_twice_12 : decode cX6_twice 12 = .ok (.getfield 41, 3) := by decide +kernel
theorem dX6_twice_15 : decode cX6_twice 15 = .ok (.invokevirtual 61, 3) := by decide +kernel
theorem dX6_twice_18 : decode cX6_twice 18 = .ok (.iconst 0, 1) := by decide +kernel
theorem dX6_twice_19 : decode cX6_twice 19 = .ok (.istore_n 2, 1) := by decide +kernel
theorem dX6_twice_20 : decode cX6_twice 20 = .ok (.iload_n 2, 1) := by decide +kernel
theorem dX6_twice_21 : decode cX6_twice 21 = .ok (.aload_n 0, 1) := by decide +kernel
theorem dX6_twice_22 : decode cX6_twice 22 = .ok (.getfield 21, 3) := by decide +kernel
theorem dX6_twice_25 : decode cX6_twice 25 = .ok (.getfield 90, 3) := by decide +kernel
theorem dX6_twice_28 : decode cX6_twice 28 = .ok (.invokevirtual 54, 3) := by decide +kernel
theorem dX6_twice_31 : decode cX6_twice 31 = .ok (.if_icmp .ge 50, 3) := by decide +kernel
theorem dX6_twice_34 : decode cX6_twice 34 = .ok (.aload_n 0, 1) := by decide +kernel
theorem dX6_twice_35 : decode cX6_twice 35 = .ok (.getfield 41, 3) := by decide +kernel
theorem dX6_twice_38 : decode cX6_twice 38 = .ok (.aload_n 0, 1) := by decide +kernel
theorem dX6_twice_39 : decode cX6_twice 39 = .ok (.getfield 21, 3) := by decide +kernel
theorem dX6_twice_42 : decode cX6_twice 42 = .ok (.getfield 90, 3) := by decide +kernel
theorem dX6_twice_45 : decode cX6_twice 45 = .ok (.iload_n 2, 1) := by decide +kernel
theorem dX6_twice_46 : decode cX6_twice 46 = .ok (.invokevirtual 114, 3) := by decide +kernel
theorem dX6_twice_49 : decode cX6_twice 49 = .ok (.invokevirtual 58, 3) := by decide +kernel
theorem dX6_twice_52 : decode cX6_twice 52 = .ok (.iload_n 2, 1) := by decide +kernel
theorem dX6_twice_53 : decode cX6_twice 53 = .ok (.iload_n 1, 1) := by decide +kernel
theorem dX6_twice_54 : decode cX6_twice 54 = .ok (.if_icmp .ne 21, 3) := by decide +kernel
theorem dX6_twice_57 : decode cX6_twice 57 = .ok (.aload_n 0, 1) := by decide +kernel
theorem dX6_twice_58 : decode cX6_twice 58 = .ok (.getfield 41, 3) := by decide +kernel
theorem dX6_twice_61 : decode cX6_twice 61 = .ok (.aload_n 0, 1) := by decide +kernel
theorem dX6_twice_62 : decode cX6_twice 62 = .ok (.getfield 21, 3) := by decide +kernel
theorem dX6_twice_65 : decode cX6_twice 65 = .ok (.getfield 90, 3) := by decide +kernel
theorem dX6_twice_68 : decode cX6_twice 68 = .ok (.iload_n 2, 1) := by decide +kernel
theorem dX6_twice_69 : decode cX6_twice 69 = .ok (.invokevirtual 114, 3) := by decide +kernel
theorem dX6_twice_72 : decode cX6_twice 72 = .ok (.invokevirtual 58, 3) := by decide +kernel
theorem dX6_twice_75 : decode cX6_twice 75 = .ok (.iinc 2 1, 3) := by decide +kernel
theorem dX6_twice_78 : decode cX6_twice 78 = .ok (.goto (-58), 3) := by decide +kernel
theorem dX6_twice_81 : decode cX6_twice 81 = .ok (.aload_n 0, 1) := by decide +kernel
theorem dX6_twice_82 : decode cX6_twice 82 = .ok (.aload_n 0, 1) := by decide +kernel
theorem dX6_twice_83 : decode cX6_twice 83 = .ok (.getfield 21, 3) := by decide +kernel
theorem dX6_twice_86 : decode cX6_twice 86 = .ok (.getfield 96, 3) := by decide +kernel
theorem dX6_twice_89 : decode cX6_twice 89 = .ok (.aload_n 0, 1) := by decide +kernel
theorem dX6_twice_90 : decode cX6_twice 90 = .ok (.getfield 41, 3) := by decide +kernel
theorem dX6_twice_93 : decode cX6_twice 93 = .ok (.bipush (-6), 2) := by decide +kernel
theorem dX6_twice_95 : decode cX6_twice 95 = .ok (.invokevirtual 136, 3) := by decide +kernel
theorem dX6_twice_98 : decode cX6_twice 98 = .ok (.ireturn, 1) := by decide +kernel
theorem dX6_rows_0 : decode cX6_rows 0 = .ok (.aload_n 0, 1) := by decide +kernel
theorem dX6_rows_1 : decode cX6_rows 1 = .ok (.getfield 14, 3) := by decide +kernel
