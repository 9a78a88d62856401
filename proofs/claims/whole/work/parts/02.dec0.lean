theorem dX0_nextDigits_0 : decode cX0_nextDigits 0 = .ok (.aload_n 0, 1) := by decide +kernel
theorem dX0_nextDigits_1 : decode cX0_nextDigits 1 = .ok (.invokevirtual 7, 3) := by decide +kernel
theorem dX0_nextDigits_4 : decode cX0_nextDigits 4 = .ok (.iconst 1, 1) := by decide +kernel
theorem dX0_nextDigits_5 : decode cX0_nextDigits 5 = .ok (.isub, 1) := by decide +kernel
theorem dX0_nextDigits_6 : decode cX0_nextDigits 6 = .ok (.istore_n 2, 1) := by decide +kernel
theorem dX0_nextDigits_7 : decode cX0_nextDigits 7 = .ok (.iload_n 2, 1) := by decide +kernel
theorem dX0_nextDigits_8 : decode cX0_nextDigits 8 = .ok (.ifCond .lt 40, 3) := by decide +kernel
theorem dX0_nextDigits_11 : decode cX0_nextDigits 11 = .ok (.aload_n 0, 1) := by decide +kernel
theorem dX0_nextDigits_12 : decode cX0_nextDigits 12 = .ok (.iload_n 2, 1) := by decide +kernel
theorem dX0_nextDigits_13 : decode cX0_nextDigits 13 = .ok (.invokevirtual 13, 3) := by decide +kernel
theorem dX0_nextDigits_16 : decode cX0_nextDigits 16 = .ok (.iconst 1, 1) := by decide +kernel
theorem dX0_nextDigits_17 : decode cX0_nextDigits 17 = .ok (.iadd, 1) := by decide +kernel
theorem dX0_nextDigits_18 : decode cX0_nextDigits 18 = .ok (.iload_n 1, 1) := by decide +kernel
theorem dX0_nextDigits_19 : decode cX0_nextDigits 19 = .ok (.if_icmp .ge 17, 3) := by decide +kernel
theorem dX0_nextDigits_22 : decode cX0_nextDigits 22 = .ok (.aload_n 0, 1) := by decide +kernel
theorem dX0_nextDigits_23 : decode cX0_nextDigits 23 = .ok (.iload_n 2, 1) := by decide +kernel
theorem dX0_nextDigits_24 : decode cX0_nextDigits 24 = .ok (.aload_n 0, 1) := by decide +kernel
theorem dX0_nextDigits_25 : decode cX0_nextDigits 25 = .ok (.iload_n 2, 1) := by decide +kernel
theorem dX0_nextDigits_26 : decode cX0_nextDigits 26 = .ok (.invokevirtual 13, 3) := by decide +kernel
theorem dX0_nextDigits_29 : decode cX0_nextDigits 29 = .ok (.iconst 1, 1) := by decide +kernel
theorem dX0_nextDigits_30 : decode cX0_nextDigits 30 = .ok (.iadd, 1) := by decide +kernel
theorem dX0_nextDigits_31 : decode cX0_nextDigits 31 = .ok (.invokevirtual 17, 3) := by decide +kernel
theorem dX0_nextDigits_34 : decode cX0_nextDigits 34 = .ok (.iconst 1, 1) := by decide +kernel
theorem dX0_nextDigits_35 : decode cX0_nextDigits 35 = .ok (.ireturn, 1) := by decide +kernel
theorem dX0_nextDigits_36 : decode cX0_nextDigits 36 = .ok (.aload_n 0, 1) := by decide +kernel
theorem dX0_nextDigits_37 : decode cX0_nextDigits 37 = .ok (.iload_n 2, 1) := by decide +kernel
theorem dX0_nextDigits_38 : decode cX0_nextDigits 38 = .ok (.iconst 0, 1) := by decide +kernel
theorem dX0_nextDigits_39 : decode cX0_nextDigits 39 = .ok (.invokevirtual 17, 3) := by decide +kernel
theorem dX0_nextDigits_42 : decode cX0_nextDigits 42 = .ok (.iinc 2 (-1), 3) := by decide +kernel
theorem dX0_nextDigits_45 : decode cX0_nextDigits 45 = .ok (.goto (-38), 3) := by decide +kernel
theorem dX0_nextDigits_48 : decode cX0_nextDigits 48 = .ok (.iconst 0, 1) := by decide +kernel
theorem dX0_nextDigits_49 : decode cX0_nextDigits 49 = .ok (.ireturn, 1) := by decide +kernel
theorem dX0_nextOrder_0 : decode cX0_nextOrder 0 = .ok (.aload_n 0, 1) := by decide +kernel
theorem dX0_nextOrder_1 : decode cX0_nextOrder 1 = .ok (.invokevirtual 7, 3) := by decide +kernel
theorem dX0_nextOrder_4 : decode cX0_nextOrder 4 = .ok (.iconst 2, 1) := by decide +kernel
theorem dX0_nextOrder_5 : decode cX0_nextOrder 5 = .ok (.isub, 1) := by decide +kernel
theorem dX0_nextOrder_6 : decode cX0_nextOrder 6 = .ok (.istore_n 1, 1) := by decide +kernel
theorem dX0_nextOrder_7 : decode cX0_nextOrder 7 = .ok (.iload_n 1, 1) := by decide +kernel
theorem dX0_nextOrder_8 : decode cX0_nextOrder 8 = .ok (.ifCond .lt 24, 3) := by decide +kernel
theorem dX0_nextOrder_11 : decode cX0_nextOrder 11 = .ok (.aload_n 0, 1) := by decide +kernel
theorem dX0_nextOrder_12 : decode cX0_nextOrder 12 = .ok (.iload_n 1, 1) := by decide +kernel
theorem dX0_nextOrder_13 : decode cX0_nextOrder 13 = .ok (.invokevirtual 13, 3) := by decide +kernel
theorem dX0_nextOrder_16 : decode cX0_nextOrder 16 = .ok (.aload_n 0, 1) := by decide +kernel
theorem dX0_nextOrder_17 : decode cX0_nextOrder 17 = .ok (.iload_n 1, 1) := by decide +kernel
theorem dX0_nextOrder_18 : decode cX0_nextOrder 18 = .ok (.iconst 1, 1) := by decide +kernel
theorem dX0_nextOrder_19 : decode cX0_nextOrder 19 = .ok (.iadd, 1) := by decide +kernel
theorem dX0_nextOrder_20 : decode cX0_nextOrder 20 = .ok (.invokevirtual 13, 3) := by decide +kernel
theorem dX0_nextOrder_23 : decode cX0_nextOrder 23 = .ok (.if_icmp .lt 9, 3) := by decide +kernel
theorem dX0_nextOrder_26 : decode cX0_nextOrder 26 = .ok (.iinc 1 (-1), 3) := by decide +kernel
theorem dX0_nextOrder_29 : decode cX0_nextOrder 29 = .ok (.goto (-22), 3) := by decide +kernel
theorem dX0_nextOrder_32 : decode cX0_nextOrder 32 = .ok (.iload_n 1, 1) := by decide +kernel
theorem dX0_nextOrder_33 : decode cX0_nextOrder 33 = .ok (.ifCond .ge 5, 3) := by decide +kernel
theorem dX0_nextOrder_36 : decode cX0_nextOrder 36 = .ok (.iconst 0, 1) := by decide +kernel
theorem dX0_nextOrder_37 : decode cX0_nextOrder 37 = .ok (.ireturn, 1) := by decide +kernel
theorem dX0_nextOrder_38 : decode cX0_nextOrder 38 = .ok (.aload_n 0, 1) := by decide +kernel
theorem dX0_nextOrder_39 : decode cX0_nextOrder 39 = .ok (.invokevirtual 7, 3) := by decide +kernel
theorem dX0_nextOrder_42 : decode cX0_nextOrder 42 = .ok (.iconst 1, 1) := by decide +kernel
theorem dX0_nextOrder_43 : decode cX0_nextOrder 43 = .ok (.isub, 1) := by decide +kernel
theorem dX0_nextOrder_44 : decode cX0_nextOrder 44 = .ok (.istore_n 2, 1) := by decide +kernel
theorem dX0_nextOrder_45 : decode cX0_nextOrder 45 = .ok (.iload_n 2, 1) := by decide +kernel
theorem dX0_nextOrder_46 : decode cX0_nextOrder 46 = .ok (.iload_n 1, 1) := by decide +kernel
theorem dX0_nextOrder_47 : decode cX0_nextOrder 47 = .ok (.if_icmp .le 22, 3) := by decide +kernel
theorem dX0_nextOrder_50 : decode cX0_nextOrder 50 = .ok (.aload_n 0, 1) := by decide +kernel
theorem dX0_nextOrder_51 : decode cX0_nextOrder 51 = .ok (.iload_n 2, 1) := by decide +kernel
theorem dX0_nextOrder_52 : decode cX0_nextOrder 52 = .ok (.invokevirtual 13, 3) := by decide +kernel
theorem dX0_nextOrder_55 : decode cX0_nextOrder 55 = .ok (.aload_n 0, 1) := by decide +kernel
theorem dX0_nextOrder_56 : decode cX0_nextOrder 56 = .ok (.iload_n 1, 1) := by decide +kernel
theorem dX0_nextOrder_57 : decode cX0_nextOrder 57 = .ok (.invokevirtual 13, 3) := by decide +kernel
theorem dX0_nextOrder_60 : decode cX0_nextOrder 60 = .ok (.if_icmp .gt 9, 3) := by decide +kernel
theorem dX0_nextOrder_63 : decode cX0_nextOrder 63 = .ok (.iinc 2 (-1), 3) := by decide +kernel
theorem dX0_nextOrder_66 : decode cX0_nextOrder 66 = .ok (.goto (-21), 3) := by decide +kernel
theorem dX0_nextOrder_69 : decode cX0_nextOrder 69 = .ok (.aload_n 0, 1) := by decide +kernel
theorem dX0_nextOrder_70 : decode cX0_nextOrder 70 = .ok (.iload_n 1, 1) := by decide +kernel
theorem dX0_nextOrder_71 : decode cX0_nextOrder 71 = .ok (.iload_n 2, 1) := by decide +kernel
theorem dX0_nextOrder_72 : decode cX0_nextOrder 72 = .ok (.invokevirtual 21, 3) := by decide +kernel
theorem dX0_nextOrder_75 : decode cX0_nextOrder 75 = .ok (.aload_n 0, 1) := by decide +kernel
theorem dX0_nextOrder_76 : decode cX0_nextOrder 76 = .ok (.iload_n 1, 1) := by decide +kernel
theorem dX0_nextOrder_77 : decode cX0_nextOrder 77 = .ok (.iconst 1, 1) := by decide +kernel
theorem dX0_nextOrder_78 : decode cX0_nextOrder 78 = .ok (.iadd, 1) := by decide +kernel
theorem dX0_nextOrder_79 : decode cX0_nextOrder 79 = .ok (.invokestatic 24, 3) := by decide +kernel
theorem dX0_nextOrder_82 : decode cX0_nextOrder 82 = .ok (.iconst 1, 1) := by decide +kernel
theorem dX0_nextOrder_83 : decode cX0_nextOrder 83 = .ok (.ireturn, 1) := by decide +kernel
theorem dX0_reverseFrom_0 : decode cX0_reverseFrom 0 = .ok (.iload_n 1, 1) := by decide +kernel
theorem dX0_reverseFrom_1 : decode cX0_reverseFrom 1 = .ok (.istore_n 2, 1) := by decide +kernel
theorem dX0_reverseFrom_2 : decode cX0_reverseFrom 2 = .ok (.aload_n 0, 1) := by decide +kernel
theorem dX0_reverseFrom_3 : decode cX0_reverseFrom 3 = .ok (.invokevirtual 7, 3) := by decide +kernel
theorem dX0_reverseFrom_6 : decode cX0_reverseFrom 6 = .ok (.iconst 1, 1) := by decide +kernel
theorem dX0_reverseFrom_7 : decode cX0_reverseFrom 7 = .ok (.isub, 1) := by decide +kernel
theorem dX0_reverseFrom_8 : decode cX0_reverseFrom 8 = .ok (.istore_n 3, 1) := by decide +kernel
theorem dX0_reverseFrom_9 : decode cX0_reverseFrom 9 = .ok (.iload_n 2, 1) := by decide +kernel
theorem dX0_reverseFrom_10 : decode cX0_reverseFrom 10 = .ok (.iload_n 3, 1) := by decide +kernel
theorem dX0_reverseFrom_11 : decode cX0_reverseFrom 11 = .ok (.if_icmp .ge 18, 3) := by decide +kernel
theorem dX0_reverseFrom_14 : decode cX0_reverseFrom 14 = .ok (.aload_n 0, 1) := by decide +kernel
theorem dX0_reverseFrom_15 : decode cX0_reverseFrom 15 = .ok (.iload_n 2, 1) := by decide +kernel
theorem dX0_reverseFrom_16 : decode cX0_reverseFrom 16 = .ok (.iload_n 3, 1) := by decide +kernel
theorem dX0_reverseFrom_17 : decode cX0_reverseFrom 17 = .ok (.invokevirtual 21, 3) := by decide +kernel
theorem dX0_reverseFrom_20 : decode cX0_reverseFrom 20 = .ok (.iinc 2 1, 3) := by decide +kernel
theorem dX0_reverseFrom_23 : decode cX0_reverseFrom 23 = .ok (.iinc 3 (-1), 3) := by decide +kernel
theorem dX0_reverseFrom_26 : decode cX0_reverseFrom 26 = .ok (.goto (-17), 3) := by decide +kernel
theorem dX0_reverseFrom_29 : decode cX0_reverseFrom 29 = .ok (.return_, 1) := by decide +kernel
theorem dX1_init_0 : decode cX1_init 0 = .ok (.aload_n 0, 1) := by decide +kernel
theorem dX1_init_1 : decode cX1_init 1 = .ok (.invokespecial 3, 3) := by decide +kernel
theorem dX1_init_4 : decode cX1_init 4 = .ok (.aload_n 0, 1) := by decide +kernel
theorem dX1_init_5 : decode cX1_init 5 = .ok (.bipush (-6), 2) := by decide +kernel
theorem dX1_init_7 : decode cX1_init 7 = .ok (.putfield 9, 3) := by decide +kernel
theorem dX1_init_10 : decode cX1_init 10 = .ok (.aload_n 0, 1) := by decide +kernel
theorem dX1_init_11 : decode cX1_init 11 = .ok (.iconst 0, 1) := by decide +kernel
theorem dX1_init_12 : decode cX1_init 12 = .ok (.putfield 15, 3) := by decide +kernel
theorem dX1_init_15 : decode cX1_init 15 = .ok (.aload_n 0, 1) := by decide +kernel
theorem dX1_init_16 : decode cX1_init 16 = .ok (.bipush (-6), 2) := by decide +kernel
theorem dX1_init_18 : decode cX1_init 18 = .ok (.putfield 18, 3) := by decide +kernel
theorem dX1_init_21 : decode cX1_init 21 = .ok (.aload_n 0, 1) := by decide +kernel
theorem dX1_init_22 : decode cX1_init 22 = .ok (.new 21, 3) := by decide +kernel
theorem dX1_init_25 : decode cX1_init 25 = .ok (.dup, 1) := by decide +kernel
theorem dX1_init_26 : decode cX1_init 26 = .ok (.bipush 6, 2) := by decide +kernel
theorem dX1_init_28 : decode cX1_init 28 = .ok (.invokespecial 23, 3) := by decide +kernel
theorem dX1_init_31 : decode cX1_init 31 = .ok (.putfield 26, 3) := by decide +kernel
theorem dX1_init_34 : decode cX1_init 34 = .ok (.return_, 1) := by decide +kernel
theorem dX1_hasMask_0 : decode cX1_hasMask 0 = .ok (.iload_n 0, 1) := by decide +kernel
theorem dX1_hasMask_1 : decode cX1_hasMask 1 = .ok (.iconst 1, 1) := by decide +kernel
theorem dX1_hasMask_2 : decode cX1_hasMask 2 = .ok (.if_icmp .eq 8, 3) := by decide +kernel
theorem dX1_hasMask_5 : decode cX1_hasMask 5 = .ok (.iload_n 0, 1) := by decide +kernel
theorem dX1_hasMask_6 : decode cX1_hasMask 6 = .ok (.iconst 3, 1) := by decide +kernel
theorem dX1_hasMask_7 : decode cX1_hasMask 7 = .ok (.if_icmp .ne 7, 3) := by decide +kernel
theorem dX1_hasMask_10 : decode cX1_hasMask 10 = .ok (.iconst 1, 1) := by decide +kernel
theorem dX1_hasMask_11 : decode cX1_hasMask 11 = .ok (.goto 4, 3) := by decide +kernel
theorem dX1_hasMask_14 : decode cX1_hasMask 14 = .ok (.iconst 0, 1) := by decide +kernel
theorem dX1_hasMask_15 : decode cX1_hasMask 15 = .ok (.ireturn, 1) := by decide +kernel
theorem dX1_become_0 : decode cX1_become 0 = .ok (.aload_n 0, 1) := by decide +kernel
theorem dX1_become_1 : decode cX1_become 1 = .ok (.aload_n 1, 1) := by decide +kernel
theorem dX1_become_2 : decode cX1_become 2 = .ok (.iconst 0, 1) := by decide +kernel
theorem dX1_become_3 : decode cX1_become 3 = .ok (.invokevirtual 30, 3) := by decide +kernel
theorem dX1_become_6 : decode cX1_become 6 = .ok (.bipush 45, 2) := by decide +kernel
theorem dX1_become_8 : decode cX1_become 8 = .ok (.if_icmp .ne 8, 3) := by decide +kernel
theorem dX1_become_11 : decode cX1_become 11 = .ok (.bipush (-6), 2) := by decide +kernel
theorem dX1_become_13 : decode cX1_become 13 = .ok (.goto 8, 3) := by decide +kernel
theorem dX1_become_16 : decode cX1_become 16 = .ok (.aload_n 1, 1) := by decide +kernel
theorem dX1_become_17 : decode cX1_become 17 = .ok (.iconst 0, 1) := by decide +kernel
theorem dX1_become_18 : decode cX1_become 18 = .ok (.invokevirtual 30, 3) := by decide +kernel
theorem dX1_become_21 : decode cX1_become 21 = .ok (.putfield 9, 3) := by decide +kernel
theorem dX1_become_24 : decode cX1_become 24 = .ok (.aload_n 0, 1) := by decide +kernel
theorem dX1_become_25 : decode cX1_become 25 = .ok (.aload_n 1, 1) := by decide +kernel
theorem dX1_become_26 : decode cX1_become 26 = .ok (.iconst 1, 1) := by decide +kernel
theorem dX1_become_27 : decode cX1_become 27 = .ok (.invokevirtual 30, 3) := by decide +kernel
theorem dX1_become_30 : decode cX1_become 30 = .ok (.bipush 48, 2) := by decide +kernel
theorem dX1_become_32 : decode cX1_become 32 = .ok (.isub, 1) := by decide +kernel
theorem dX1_become_33 : decode cX1_become 33 = .ok (.putfield 15, 3) := by decide +kernel
theorem dX1_become_36 : decode cX1_become 36 = .ok (.aload_n 0, 1) := by decide +kernel
theorem dX1_become_37 : decode cX1_become 37 = .ok (.aload_n 0, 1) := by decide +kernel
theorem dX1_become_38 : decode cX1_become 38 = .ok (.getfield 15, 3) := by decide +kernel
theorem dX1_become_41 : decode cX1_become 41 = .ok (.invokestatic 34, 3) := by decide +kernel
theorem dX1_become_44 : decode cX1_become 44 = .ok (.ifCond .eq 11, 3) := by decide +kernel
theorem dX1_become_47 : decode cX1_become 47 = .ok (.aload_n 1, 1) := by decide +kernel
theorem dX1_become_48 : decode cX1_become 48 = .ok (.iconst 2, 1) := by decide +kernel
theorem dX1_become_49 : decode cX1_become 49 = .ok (.invokevirtual 30, 3) := by decide +kernel
theorem dX1_become_52 : decode cX1_become 52 = .ok (.goto 5, 3) := by decide +kernel
theorem dX1_become_55 : decode cX1_become 55 = .ok (.bipush (-6), 2) := by decide +kernel
theorem dX1_become_57 : decode cX1_become 57 = .ok (.putfield 18, 3) := by decide +kernel
theorem dX1_become_60 : decode cX1_become 60 = .ok (.aload_n 0, 1) := by decide +kernel
theorem dX1_become_61 : decode cX1_become 61 = .ok (.getfield 26, 3) := by decide +kernel
theorem dX1_become_64 : decode cX1_become 64 = .ok (.invokevirtual 38, 3) := by decide +kernel
theorem dX1_become_67 : decode cX1_become 67 = .ok (.aload_n 0, 1) := by decide +kernel
theorem dX1_become_68 : decode cX1_become 68 = .ok (.getfield 15, 3) := by decide +kernel
theorem dX1_become_71 : decode cX1_become 71 = .ok (.invokestatic 41, 3) := by decide +kernel
theorem dX1_become_74 : decode cX1_become 74 = .ok (.istore_n 2, 1) := by decide +kernel
theorem dX1_become_75 : decode cX1_become 75 = .ok (.iload_n 2, 1) := by decide +kernel
theorem dX1_become_76 : decode cX1_become 76 = .ok (.aload_n 1, 1) := by decide +kernel
theorem dX1_become_77 : decode cX1_become 77 = .ok (.invokevirtual 46, 3) := by decide +kernel
theorem dX1_become_80 : decode cX1_become 80 = .ok (.if_icmp .ge 21, 3) := by decide +kernel
theorem dX1_become_83 : decode cX1_become 83 = .ok (.aload_n 0, 1) := by decide +kernel
theorem dX1_become_84 : decode cX1_become 84 = .ok (.getfield 26, 3) := by decide +kernel
theorem dX1_become_87 : decode cX1_become 87 = .ok (.aload_n 1, 1) := by decide +kernel
theorem dX1_become_88 : decode cX1_become 88 = .ok (.iload_n 2, 1) := by decide +kernel
theorem dX1_become_89 : decode cX1_become 89 = .ok (.invokevirtual 30, 3) := by decide +kernel
theorem dX1_become_92 : decode cX1_become 92 = .ok (.invokevirtual 50, 3) := by decide +kernel
theorem dX1_become_95 : decode cX1_become 95 = .ok (.iinc 2 1, 3) := by decide +kernel
theorem dX1_become_98 : decode cX1_become 98 = .ok (.goto (-23), 3) := by decide +kernel
theorem dX1_become_101 : decode cX1_become 101 = .ok (.return_, 1) := by decide +kernel
theorem dX1_copyFrom_0 : decode cX1_copyFrom 0 = .ok (.aload_n 0, 1) := by decide +kernel
theorem dX1_copyFrom_1 : decode cX1_copyFrom 1 = .ok (.aload_n 1, 1) := by decide +kernel
theorem dX1_copyFrom_2 : decode cX1_copyFrom 2 = .ok (.getfield 9, 3) := by decide +kernel
theorem dX1_copyFrom_5 : decode cX1_copyFrom 5 = .ok (.putfield 9, 3) := by decide +kernel
theorem dX1_copyFrom_8 : decode cX1_copyFrom 8 = .ok (.aload_n 0, 1) := by decide +kernel
theorem dX1_copyFrom_9 : decode cX1_copyFrom 9 = .ok (.aload_n 1, 1) := by decide +kernel
theorem dX1_copyFrom_10 : decode cX1_copyFrom 10 = .ok (.getfield 15, 3) := by decide +kernel
theorem dX1_copyFrom_13 : decode cX1_copyFrom 13 = .ok (.putfield 15, 3) := by decide +kernel
theorem dX1_copyFrom_16 : decode cX1_copyFrom 16 = .ok (.aload_n 0, 1) := by decide +kernel
theorem dX1_copyFrom_17 : decode cX1_copyFrom 17 = .ok (.aload_n 1, 1) := by decide +kernel
theorem dX1_copyFrom_18 : decode cX1_copyFrom 18 = .ok (.getfield 18, 3) := by decide +kernel
theorem dX1_copyFrom_21 : decode cX1_copyFrom 21 = .ok (.putfield 18, 3) := by decide +kernel
theorem dX1_copyFrom_24 : decode cX1_copyFrom 24 = .ok (.aload_n 0, 1) := by decide +kernel
theorem dX1_copyFrom_25 : decode cX1_copyFrom 25 = .ok (.getfield 26, 3) := by decide +kernel
theorem dX1_copyFrom_28 : decode cX1_copyFrom 28 = .ok (.aload_n 1, 1) := by decide +kernel
theorem dX1_copyFrom_29 : decode cX1_copyFrom 29 = .ok (.getfield 26, 3) := by decide +kernel
theorem dX1_copyFrom_32 : decode cX1_copyFrom 32 = .ok (.invokevirtual 53, 3) := by decide +kernel
theorem dX1_copyFrom_35 : decode cX1_copyFrom 35 = .ok (.return_, 1) := by decide +kernel
theorem dX1_heldCount_0 : decode cX1_heldCount 0 = .ok (.aload_n 0, 1) := by decide +kernel
theorem dX1_heldCount_1 : decode cX1_heldCount 1 = .ok (.getfield 26, 3) := by decide +kernel
theorem dX1_heldCount_4 : decode cX1_heldCount 4 = .ok (.invokevirtual 46, 3) := by decide +kernel
theorem dX1_heldCount_7 : decode cX1_heldCount 7 = .ok (.ireturn, 1) := by decide +kernel
theorem dX1_part_0 : decode cX1_part 0 = .ok (.iload_n 1, 1) := by decide +kernel
theorem dX1_part_1 : decode cX1_part 1 = .ok (.tableswitch 42 0 2 #[27, 32, 37], 27) := by decide +kernel
theorem dX1_part_28 : decode cX1_part 28 = .ok (.aload_n 0, 1) := by decide +kernel
theorem dX1_part_29 : decode cX1_part 29 = .ok (.getfield 9, 3) := by decide +kernel
theorem dX1_part_32 : decode cX1_part 32 = .ok (.ireturn, 1) := by decide +kernel
theorem dX1_part_33 : decode cX1_part 33 = .ok (.aload_n 0, 1) := by decide +kernel
theorem dX1_part_34 : decode cX1_part 34 = .ok (.getfield 15, 3) := by decide +kernel
theorem dX1_part_37 : decode cX1_part 37 = .ok (.ireturn, 1) := by decide +kernel
theorem dX1_part_38 : decode cX1_part 38 = .ok (.aload_n 0, 1) := by decide +kernel
theorem dX1_part_39 : decode cX1_part 39 = .ok (.getfield 18, 3) := by decide +kernel
theorem dX1_part_42 : decode cX1_part 42 = .ok (.ireturn, 1) := by decide +kernel
theorem dX1_part_43 : decode cX1_part 43 = .ok (.aload_n 0, 1) := by decide +kernel
theorem dX1_part_44 : decode cX1_part 44 = .ok (.getfield 26, 3) := by decide +kernel
theorem dX1_part_47 : decode cX1_part 47 = .ok (.iload_n 1, 1) := by decide +kernel
theorem dX1_part_48 : decode cX1_part 48 = .ok (.iconst 3, 1) := by decide +kernel
theorem dX1_part_49 : decode cX1_part 49 = .ok (.isub, 1) := by decide +kernel
theorem dX1_part_50 : decode cX1_part 50 = .ok (.invokevirtual 30, 3) := by decide +kernel
theorem dX1_part_53 : decode cX1_part 53 = .ok (.ireturn, 1) := by decide +kernel
theorem dX1_isAsAtFirst_0 : decode cX1_isAsAtFirst 0 = .ok (.aload_n 0, 1) := by decide +kernel
theorem dX1_isAsAtFirst_1 : decode cX1_isAsAtFirst 1 = .ok (.getfield 9, 3) := by decide +kernel
theorem dX1_isAsAtFirst_4 : decode cX1_isAsAtFirst 4 = .ok (.bipush (-6), 2) := by decide +kernel
theorem dX1_isAsAtFirst_6 : decode cX1_isAsAtFirst 6 = .ok (.if_icmp .ne 24, 3) := by decide +kernel
theorem dX1_isAsAtFirst_9 : decode cX1_isAsAtFirst 9 = .ok (.aload_n 0, 1) := by decide +kernel
theorem dX1_isAsAtFirst_10 : decode cX1_isAsAtFirst 10 = .ok (.getfield 15, 3) := by decide +kernel
theorem dX1_isAsAtFirst_13 : decode cX1_isAsAtFirst 13 = .ok (.ifCond .ne 17, 3) := by decide +kernel
theorem dX1_isAsAtFirst_16 : decode cX1_isAsAtFirst 16 = .ok (.aload_n 0, 1) := by decide +kernel
theorem dX1_isAsAtFirst_17 : decode cX1_isAsAtFirst 17 = .ok (.getfield 26, 3) := by decide +kernel
theorem dX1_isAsAtFirst_20 : decode cX1_isAsAtFirst 20 = .ok (.invokevirtual 46, 3) := by decide +kernel
theorem dX1_isAsAtFirst_23 : decode cX1_isAsAtFirst 23 = .ok (.ifCond .ne 7, 3) := by decide +kernel
theorem dX1_isAsAtFirst_26 : decode cX1_isAsAtFirst 26 = .ok (.iconst 1, 1) := by decide +kernel
theorem dX1_isAsAtFirst_27 : decode cX1_isAsAtFirst 27 = .ok (.goto 4, 3) := by decide +kernel
theorem dX1_isAsAtFirst_30 : decode cX1_isAsAtFirst 30 = .ok (.iconst 0, 1) := by decide +kernel
theorem dX1_isAsAtFirst_31 : decode cX1_isAsAtFirst 31 = .ok (.ireturn, 1) := by decide +kernel
theorem dX1_put_0 : decode cX1_put 0 = .ok (.aload_n 2, 1) := by decide +kernel
theorem dX1_put_1 : decode cX1_put 1 = .ok (.invokevirtual 38, 3) := by decide +kernel
theorem dX1_put_4 : decode cX1_put 4 = .ok (.aload_n 0, 1) := by decide +kernel
theorem dX1_put_5 : decode cX1_put 5 = .ok (.aload_n 2, 1) := by decide +kernel
theorem dX1_put_6 : decode cX1_put 6 = .ok (.invokevirtual 57, 3) := by decide +kernel
theorem dX1_put_9 : decode cX1_put 9 = .ok (.iconst 0, 1) := by decide +kernel
theorem dX1_put_10 : decode cX1_put 10 = .ok (.istore 4, 2) := by decide +kernel
theorem dX1_put_12 : decode cX1_put 12 = .ok (.iload 4, 2) := by decide +kernel
theorem dX1_put_14 : decode cX1_put 14 = .ok (.aload_n 1, 1) := by decide +kernel
theorem dX1_put_15 : decode cX1_put 15 = .ok (.invokevirtual 46, 3) := by decide +kernel
theorem dX1_put_18 : decode cX1_put 18 = .ok (.if_icmp .ge 73, 3) := by decide +kernel
theorem dX1_put_21 : decode cX1_put 21 = .ok (.aload_n 1, 1) := by decide +kernel
theorem dX1_put_22 : decode cX1_put 22 = .ok (.iload 4, 2) := by decide +kernel
theorem dX1_put_24 : decode cX1_put 24 = .ok (.invokevirtual 30, 3) := by decide +kernel
theorem dX1_put_27 : decode cX1_put 27 = .ok (.istore 5, 2) := by decide +kernel
theorem dX1_put_29 : decode cX1_put 29 = .ok (.iload_n 3, 1) := by decide +kernel
theorem dX1_put_30 : decode cX1_put 30 = .ok (.ifCond .ne 12, 3) := by decide +kernel
theorem dX1_put_33 : decode cX1_put 33 = .ok (.aload_n 0, 1) := by decide +kernel
theorem dX1_put_34 : decode cX1_put 34 = .ok (.iload 5, 2) := by decide +kernel
theorem dX1_put_36 : decode cX1_put 36 = .ok (.invokevirtual 60, 3) := by decide +kernel
theorem dX1_put_39 : decode cX1_put 39 = .ok (.ifCond .ne 7, 3) := by decide +kernel
theorem dX1_put_42 : decode cX1_put 42 = .ok (.iconst 1, 1) := by decide +kernel
theorem dX1_put_43 : decode cX1_put 43 = .ok (.goto 4, 3) := by decide +kernel
theorem dX1_put_46 : decode cX1_put 46 = .ok (.iconst 0, 1) := by decide +kernel
theorem dX1_put_47 : decode cX1_put 47 = .ok (.istore 6, 2) := by decide +kernel
theorem dX1_put_49 : decode cX1_put 49 = .ok (.iload 6, 2) := by decide +kernel
theorem dX1_put_51 : decode cX1_put 51 = .ok (.ifCond .ne 13, 3) := by decide +kernel
theorem dX1_put_54 : decode cX1_put 54 = .ok (.aload_n 0, 1) := by decide +kernel
theorem dX1_put_55 : decode cX1_put 55 = .ok (.getfield 15, 3) := by decide +kernel
theorem dX1_put_58 : decode cX1_put 58 = .ok (.ifCond .ne 6, 3) := by decide +kernel
theorem dX1_put_61 : decode cX1_put 61 = .ok (.bipush (-5), 2) := by decide +kernel
theorem dX1_put_63 : decode cX1_put 63 = .ok (.ireturn, 1) := by decide +kernel
theorem dX1_put_64 : decode cX1_put 64 = .ok (.iload 6, 2) := by decide +kernel
theorem dX1_put_66 : decode cX1_put 66 = .ok (.ifCond .eq 12, 3) := by decide +kernel
theorem dX1_put_69 : decode cX1_put 69 = .ok (.aload_n 2, 1) := by decide +kernel
theorem dX1_put_70 : decode cX1_put 70 = .ok (.iload 5, 2) := by decide +kernel
theorem dX1_put_72 : decode cX1_put 72 = .ok (.invokevirtual 50, 3) := by decide +kernel
theorem dX1_put_75 : decode cX1_put 75 = .ok (.goto 10, 3) := by decide +kernel
theorem dX1_put_78 : decode cX1_put 78 = .ok (.aload_n 0, 1) := by decide +kernel
theorem dX1_put_79 : decode cX1_put 79 = .ok (.iload 5, 2) := by decide +kernel
theorem dX1_put_81 : decode cX1_put 81 = .ok (.aload_n 2, 1) := by decide +kernel
theorem dX1_put_82 : decode cX1_put 82 = .ok (.invokevirtual 63, 3) := by decide +kernel
theorem dX1_put_85 : decode cX1_put 85 = .ok (.iinc 4 1, 3) := by decide +kernel
theorem dX1_put_88 : decode cX1_put 88 = .ok (.goto (-76), 3) := by decide +kernel
theorem dX1_put_91 : decode cX1_put 91 = .ok (.aload_n 0, 1) := by decide +kernel
theorem dX1_put_92 : decode cX1_put 92 = .ok (.aload_n 2, 1) := by decide +kernel
theorem dX1_put_93 : decode cX1_put 93 = .ok (.invokevirtual 57, 3) := by decide +kernel
theorem dX1_put_96 : decode cX1_put 96 = .ok (.aload_n 2, 1) := by decide +kernel
theorem dX1_put_97 : decode cX1_put 97 = .ok (.invokevirtual 67, 3) := by decide +kernel
theorem dX1_put_100 : decode cX1_put 100 = .ok (.ifCond .eq 8, 3) := by decide +kernel
theorem dX1_put_103 : decode cX1_put 103 = .ok (.bipush (-7), 2) := by decide +kernel
theorem dX1_put_105 : decode cX1_put 105 = .ok (.goto 7, 3) := by decide +kernel
theorem dX1_put_108 : decode cX1_put 108 = .ok (.aload_n 2, 1) := by decide +kernel
theorem dX1_put_109 : decode cX1_put 109 = .ok (.invokevirtual 46, 3) := by decide +kernel
theorem dX1_put_112 : decode cX1_put 112 = .ok (.ireturn, 1) := by decide +kernel
theorem dX1_meansSomething_0 : decode cX1_meansSomething 0 = .ok (.iload_n 1, 1) := by decide +kernel
theorem dX1_meansSomething_1 : decode cX1_meansSomething 1 = .ok (.aload_n 0, 1) := by decide +kernel
theorem dX1_meansSomething_2 : decode cX1_meansSomething 2 = .ok (.getfield 9, 3) := by decide +kernel
theorem dX1_meansSomething_5 : decode cX1_meansSomething 5 = .ok (.if_icmp .eq 24, 3) := by decide +kernel
theorem dX1_meansSomething_8 : decode cX1_meansSomething 8 = .ok (.iload_n 1, 1) := by decide +kernel
theorem dX1_meansSomething_9 : decode cX1_meansSomething 9 = .ok (.aload_n 0, 1) := by decide +kernel
theorem dX1_meansSomething_10 : decode cX1_meansSomething 10 = .ok (.getfield 18, 3) := by decide +kernel
theorem dX1_meansSomething_13 : decode cX1_meansSomething 13 = .ok (.if_icmp .eq 16, 3) := by decide +kernel
theorem dX1_meansSomething_16 : decode cX1_meansSomething 16 = .ok (.aload_n 0, 1) := by decide +kernel
theorem dX1_meansSomething_17 : decode cX1_meansSomething 17 = .ok (.getfield 26, 3) := by decide +kernel
theorem dX1_meansSomething_20 : decode cX1_meansSomething 20 = .ok (.iload_n 1, 1) := by decide +kernel
theorem dX1_meansSomething_21 : decode cX1_meansSomething 21 = .ok (.bipush 6, 2) := by decide +kernel
theorem dX1_meansSomething_23 : decode cX1_meansSomething 23 = .ok (.invokevirtual 71, 3) := by decide +kernel
theorem dX1_meansSomething_26 : decode cX1_meansSomething 26 = .ok (.ifCond .eq 7, 3) := by decide +kernel
theorem dX1_meansSomething_29 : decode cX1_meansSomething 29 = .ok (.iconst 1, 1) := by decide +kernel
theorem dX1_meansSomething_30 : decode cX1_meansSomething 30 = .ok (.goto 4, 3) := by decide +kernel
theorem dX1_meansSomething_33 : decode cX1_meansSomething 33 = .ok (.iconst 0, 1) := by decide +kernel
theorem dX1_meansSomething_34 : decode cX1_meansSomething 34 = .ok (.ireturn, 1) := by decide +kernel
theorem dX1_addMark_0 : decode cX1_addMark 0 = .ok (.aload_n 0, 1) := by decide +kernel
theorem dX1_addMark_1 : decode cX1_addMark 1 = .ok (.getfield 9, 3) := by decide +kernel
theorem dX1_addMark_4 : decode cX1_addMark 4 = .ok (.bipush (-6), 2) := by decide +kernel
theorem dX1_addMark_6 : decode cX1_addMark 6 = .ok (.if_icmp .eq 11, 3) := by decide +kernel
theorem dX1_addMark_9 : decode cX1_addMark 9 = .ok (.aload_n 1, 1) := by decide +kernel
theorem dX1_addMark_10 : decode cX1_addMark 10 = .ok (.aload_n 0, 1) := by decide +kernel
theorem dX1_addMark_11 : decode cX1_addMark 11 = .ok (.getfield 9, 3) := by decide +kernel
theorem dX1_addMark_14 : decode cX1_addMark 14 = .ok (.invokevirtual 50, 3) := by decide +kernel
theorem dX1_addMark_17 : decode cX1_addMark 17 = .ok (.return_, 1) := by decide +kernel
theorem dX1_putMasked_0 : decode cX1_putMasked 0 = .ok (.aload_n 0, 1) := by decide +kernel
theorem dX1_putMasked_1 : decode cX1_putMasked 1 = .ok (.getfield 15, 3) := by decide +kernel
theorem dX1_putMasked_4 : decode cX1_putMasked 4 = .ok (.iconst 3, 1) := by decide +kernel
theorem dX1_putMasked_5 : decode cX1_putMasked 5 = .ok (.if_icmp .ne 35, 3) := by decide +kernel
theorem dX1_putMasked_8 : decode cX1_putMasked 8 = .ok (.aload_n 2, 1) := by decide +kernel
theorem dX1_putMasked_9 : decode cX1_putMasked 9 = .ok (.aload_n 0, 1) := by decide +kernel
theorem dX1_putMasked_10 : decode cX1_putMasked 10 = .ok (.getfield 18, 3) := by decide +kernel
theorem dX1_putMasked_13 : decode cX1_putMasked 13 = .ok (.invokevirtual 50, 3) := by decide +kernel
theorem dX1_putMasked_16 : decode cX1_putMasked 16 = .ok (.aload_n 2, 1) := by decide +kernel
theorem dX1_putMasked_17 : decode cX1_putMasked 17 = .ok (.iload_n 1, 1) := by decide +kernel
theorem dX1_putMasked_18 : decode cX1_putMasked 18 = .ok (.iconst 4, 1) := by decide +kernel
theorem dX1_putMasked_19 : decode cX1_putMasked 19 = .ok (.ishr, 1) := by decide +kernel
theorem dX1_putMasked_20 : decode cX1_putMasked 20 = .ok (.invokestatic 75, 3) := by decide +kernel
theorem dX1_putMasked_23 : decode cX1_putMasked 23 = .ok (.invokevirtual 50, 3) := by decide +kernel
theorem dX1_putMasked_26 : decode cX1_putMasked 26 = .ok (.aload_n 2, 1) := by decide +kernel
theorem dX1_putMasked_27 : decode cX1_putMasked 27 = .ok (.iload_n 1, 1) := by decide +kernel
theorem dX1_putMasked_28 : decode cX1_putMasked 28 = .ok (.bipush 15, 2) := by decide +kernel
theorem dX1_putMasked_30 : decode cX1_putMasked 30 = .ok (.iand, 1) := by decide +kernel
theorem dX1_putMasked_31 : decode cX1_putMasked 31 = .ok (.invokestatic 75, 3) := by decide +kernel
theorem dX1_putMasked_34 : decode cX1_putMasked 34 = .ok (.invokevirtual 50, 3) := by decide +kernel
theorem dX1_putMasked_37 : decode cX1_putMasked 37 = .ok (.goto 31, 3) := by decide +kernel
theorem dX1_putMasked_40 : decode cX1_putMasked 40 = .ok (.aload_n 2, 1) := by decide +kernel
theorem dX1_putMasked_41 : decode cX1_putMasked 41 = .ok (.aload_n 0, 1) := by decide +kernel
theorem dX1_putMasked_42 : decode cX1_putMasked 42 = .ok (.getfield 15, 3) := by decide +kernel
theorem dX1_putMasked_45 : decode cX1_putMasked 45 = .ok (.iconst 1, 1) := by decide +kernel
theorem dX1_putMasked_46 : decode cX1_putMasked 46 = .ok (.if_icmp .ne 10, 3) := by decide +kernel
theorem dX1_putMasked_49 : decode cX1_putMasked 49 = .ok (.aload_n 0, 1) := by decide +kernel
theorem dX1_putMasked_50 : decode cX1_putMasked 50 = .ok (.getfield 18, 3) := by decide +kernel
theorem dX1_putMasked_53 : decode cX1_putMasked 53 = .ok (.goto 7, 3) := by decide +kernel
theorem dX1_putMasked_56 : decode cX1_putMasked 56 = .ok (.aload_n 0, 1) := by decide +kernel
theorem dX1_putMasked_57 : decode cX1_putMasked 57 = .ok (.getfield 9, 3) := by decide +kernel
theorem dX1_putMasked_60 : decode cX1_putMasked 60 = .ok (.invokevirtual 50, 3) := by decide +kernel
theorem dX1_putMasked_63 : decode cX1_putMasked 63 = .ok (.aload_n 2, 1) := by decide +kernel
theorem dX1_putMasked_64 : decode cX1_putMasked 64 = .ok (.iload_n 1, 1) := by decide +kernel
theorem dX1_putMasked_65 : decode cX1_putMasked 65 = .ok (.invokevirtual 50, 3) := by decide +kernel
theorem dX1_putMasked_68 : decode cX1_putMasked 68 = .ok (.return_, 1) := by decide +kernel
theorem dX1_takeOff_0 : decode cX1_takeOff 0 = .ok (.aload_n 2, 1) := by decide +kernel
theorem dX1_takeOff_1 : decode cX1_takeOff 1 = .ok (.invokevirtual 38, 3) := by decide +kernel
theorem dX1_takeOff_4 : decode cX1_takeOff 4 = .ok (.aload_n 0, 1) := by decide +kernel
theorem dX1_takeOff_5 : decode cX1_takeOff 5 = .ok (.getfield 9, 3) := by decide +kernel
theorem dX1_takeOff_8 : decode cX1_takeOff 8 = .ok (.bipush (-6), 2) := by decide +kernel
theorem dX1_takeOff_10 : decode cX1_takeOff 10 = .ok (.if_icmp .eq 17, 3) := by decide +kernel
theorem dX1_takeOff_13 : decode cX1_takeOff 13 = .ok (.aload_n 1, 1) := by decide +kernel
theorem dX1_takeOff_14 : decode cX1_takeOff 14 = .ok (.iconst 0, 1) := by decide +kernel
theorem dX1_takeOff_15 : decode cX1_takeOff 15 = .ok (.invokevirtual 30, 3) := by decide +kernel
theorem dX1_takeOff_18 : decode cX1_takeOff 18 = .ok (.aload_n 0, 1) := by decide +kernel
theorem dX1_takeOff_19 : decode cX1_takeOff 19 = .ok (.getfield 9, 3) := by decide +kernel
theorem dX1_takeOff_22 : decode cX1_takeOff 22 = .ok (.if_icmp .eq 5, 3) := by decide +kernel
theorem dX1_takeOff_25 : decode cX1_takeOff 25 = .ok (.iconst 0, 1) := by decide +kernel
theorem dX1_takeOff_26 : decode cX1_takeOff 26 = .ok (.ireturn, 1) := by decide +kernel
theorem dX1_takeOff_27 : decode cX1_takeOff 27 = .ok (.aload_n 0, 1) := by decide +kernel
theorem dX1_takeOff_28 : decode cX1_takeOff 28 = .ok (.getfield 9, 3) := by decide +kernel
theorem dX1_takeOff_31 : decode cX1_takeOff 31 = .ok (.bipush (-6), 2) := by decide +kernel
theorem dX1_takeOff_33 : decode cX1_takeOff 33 = .ok (.if_icmp .ne 7, 3) := by decide +kernel
theorem dX1_takeOff_36 : decode cX1_takeOff 36 = .ok (.iconst 0, 1) := by decide +kernel
theorem dX1_takeOff_37 : decode cX1_takeOff 37 = .ok (.goto 4, 3) := by decide +kernel
theorem dX1_takeOff_40 : decode cX1_takeOff 40 = .ok (.iconst 1, 1) := by decide +kernel
theorem dX1_takeOff_41 : decode cX1_takeOff 41 = .ok (.istore_n 3, 1) := by decide +kernel
theorem dX1_takeOff_42 : decode cX1_takeOff 42 = .ok (.iconst 0, 1) := by decide +kernel
theorem dX1_takeOff_43 : decode cX1_takeOff 43 = .ok (.istore 4, 2) := by decide +kernel
theorem dX1_takeOff_45 : decode cX1_takeOff 45 = .ok (.iload_n 3, 1) := by decide +kernel
theorem dX1_takeOff_46 : decode cX1_takeOff 46 = .ok (.aload_n 1, 1) := by decide +kernel
theorem dX1_takeOff_47 : decode cX1_takeOff 47 = .ok (.invokevirtual 46, 3) := by decide +kernel
theorem dX1_takeOff_50 : decode cX1_takeOff 50 = .ok (.if_icmp .ge 80, 3) := by decide +kernel
theorem dX1_takeOff_53 : decode cX1_takeOff 53 = .ok (.iload 4, 2) := by decide +kernel
theorem dX1_takeOff_55 : decode cX1_takeOff 55 = .ok (.sipush 400, 3) := by decide +kernel
theorem dX1_takeOff_58 : decode cX1_takeOff 58 = .ok (.if_icmp .ge 72, 3) := by decide +kernel
theorem dX1_takeOff_61 : decode cX1_takeOff 61 = .ok (.aload_n 0, 1) := by decide +kernel
theorem dX1_takeOff_62 : decode cX1_takeOff 62 = .ok (.aload_n 1, 1) := by decide +kernel
theorem dX1_takeOff_63 : decode cX1_takeOff 63 = .ok (.iload_n 3, 1) := by decide +kernel
theorem dX1_takeOff_64 : decode cX1_takeOff 64 = .ok (.invokevirtual 78, 3) := by decide +kernel
theorem dX1_takeOff_67 : decode cX1_takeOff 67 = .ok (.ifCond .eq 22, 3) := by decide +kernel
theorem dX1_takeOff_70 : decode cX1_takeOff 70 = .ok (.iload_n 3, 1) := by decide +kernel
theorem dX1_takeOff_71 : decode cX1_takeOff 71 = .ok (.iconst 1, 1) := by decide +kernel
theorem dX1_takeOff_72 : decode cX1_takeOff 72 = .ok (.iadd, 1) := by decide +kernel
theorem dX1_takeOff_73 : decode cX1_takeOff 73 = .ok (.aload_n 1, 1) := by decide +kernel
theorem dX1_takeOff_74 : decode cX1_takeOff 74 = .ok (.invokevirtual 46, 3) := by decide +kernel
theorem dX1_takeOff_77 : decode cX1_takeOff 77 = .ok (.if_icmp .ge 9, 3) := by decide +kernel
theorem dX1_takeOff_80 : decode cX1_takeOff 80 = .ok (.iload_n 3, 1) := by decide +kernel
theorem dX1_takeOff_81 : decode cX1_takeOff 81 = .ok (.iconst 1, 1) := by decide +kernel
theorem dX1_takeOff_82 : decode cX1_takeOff 82 = .ok (.iadd, 1) := by decide +kernel
theorem dX1_takeOff_83 : decode cX1_takeOff 83 = .ok (.goto 5, 3) := by decide +kernel
theorem dX1_takeOff_86 : decode cX1_takeOff 86 = .ok (.bipush (-6), 2) := by decide +kernel
theorem dX1_takeOff_88 : decode cX1_takeOff 88 = .ok (.ireturn, 1) := by decide +kernel
theorem dX1_takeOff_89 : decode cX1_takeOff 89 = .ok (.aload_n 0, 1) := by decide +kernel
theorem dX1_takeOff_90 : decode cX1_takeOff 90 = .ok (.aload_n 1, 1) := by decide +kernel
theorem dX1_takeOff_91 : decode cX1_takeOff 91 = .ok (.iload_n 3, 1) := by decide +kernel
theorem dX1_takeOff_92 : decode cX1_takeOff 92 = .ok (.invokevirtual 82, 3) := by decide +kernel
theorem dX1_takeOff_95 : decode cX1_takeOff 95 = .ok (.istore 5, 2) := by decide +kernel
theorem dX1_takeOff_97 : decode cX1_takeOff 97 = .ok (.iload 5, 2) := by decide +kernel
theorem dX1_takeOff_99 : decode cX1_takeOff 99 = .ok (.bipush (-6), 2) := by decide +kernel
theorem dX1_takeOff_101 : decode cX1_takeOff 101 = .ok (.if_icmp .ne 5, 3) := by decide +kernel
theorem dX1_takeOff_104 : decode cX1_takeOff 104 = .ok (.iload_n 3, 1) := by decide +kernel
theorem dX1_takeOff_105 : decode cX1_takeOff 105 = .ok (.ireturn, 1) := by decide +kernel
theorem dX1_takeOff_106 : decode cX1_takeOff 106 = .ok (.aload_n 2, 1) := by decide +kernel
theorem dX1_takeOff_107 : decode cX1_takeOff 107 = .ok (.iload 5, 2) := by decide +kernel
theorem dX1_takeOff_109 : decode cX1_takeOff 109 = .ok (.invokevirtual 50, 3) := by decide +kernel
theorem dX1_takeOff_112 : decode cX1_takeOff 112 = .ok (.iload_n 3, 1) := by decide +kernel
theorem dX1_takeOff_113 : decode cX1_takeOff 113 = .ok (.aload_n 0, 1) := by decide +kernel
theorem dX1_takeOff_114 : decode cX1_takeOff 114 = .ok (.aload_n 1, 1) := by decide +kernel
theorem dX1_takeOff_115 : decode cX1_takeOff 115 = .ok (.iload_n 3, 1) := by decide +kernel
theorem dX1_takeOff_116 : decode cX1_takeOff 116 = .ok (.invokevirtual 30, 3) := by decide +kernel
theorem dX1_takeOff_119 : decode cX1_takeOff 119 = .ok (.invokevirtual 86, 3) := by decide +kernel
theorem dX1_takeOff_122 : decode cX1_takeOff 122 = .ok (.iadd, 1) := by decide +kernel
theorem dX1_takeOff_123 : decode cX1_takeOff 123 = .ok (.istore_n 3, 1) := by decide +kernel
theorem dX1_takeOff_124 : decode cX1_takeOff 124 = .ok (.iinc 4 1, 3) := by decide +kernel
theorem dX1_takeOff_127 : decode cX1_takeOff 127 = .ok (.goto (-82), 3) := by decide +kernel
theorem dX1_takeOff_130 : decode cX1_takeOff 130 = .ok (.aload_n 0, 1) := by decide +kernel
theorem dX1_takeOff_131 : decode cX1_takeOff 131 = .ok (.getfield 9, 3) := by decide +kernel
theorem dX1_takeOff_134 : decode cX1_takeOff 134 = .ok (.bipush (-6), 2) := by decide +kernel
theorem dX1_takeOff_136 : decode cX1_takeOff 136 = .ok (.if_icmp .ne 8, 3) := by decide +kernel
theorem dX1_takeOff_139 : decode cX1_takeOff 139 = .ok (.bipush (-6), 2) := by decide +kernel
theorem dX1_takeOff_141 : decode cX1_takeOff 141 = .ok (.goto 7, 3) := by decide +kernel
theorem dX1_takeOff_144 : decode cX1_takeOff 144 = .ok (.aload_n 1, 1) := by decide +kernel
theorem dX1_takeOff_145 : decode cX1_takeOff 145 = .ok (.invokevirtual 46, 3) := by decide +kernel
theorem dX1_takeOff_148 : decode cX1_takeOff 148 = .ok (.ireturn, 1) := by decide +kernel
theorem dX1_endsAt_0 : decode cX1_endsAt 0 = .ok (.aload_n 1, 1) := by decide +kernel
theorem dX1_endsAt_1 : decode cX1_endsAt 1 = .ok (.iload_n 2, 1) := by decide +kernel
theorem dX1_endsAt_2 : decode cX1_endsAt 2 = .ok (.invokevirtual 30, 3) := by decide +kernel
theorem dX1_endsAt_5 : decode cX1_endsAt 5 = .ok (.aload_n 0, 1) := by decide +kernel
theorem dX1_endsAt_6 : decode cX1_endsAt 6 = .ok (.getfield 9, 3) := by decide +kernel
theorem dX1_endsAt_9 : decode cX1_endsAt 9 = .ok (.if_icmp .ne 29, 3) := by decide +kernel
theorem dX1_endsAt_12 : decode cX1_endsAt 12 = .ok (.aload_n 0, 1) := by decide +kernel
theorem dX1_endsAt_13 : decode cX1_endsAt 13 = .ok (.getfield 15, 3) := by decide +kernel
theorem dX1_endsAt_16 : decode cX1_endsAt 16 = .ok (.iconst 2, 1) := by decide +kernel
theorem dX1_endsAt_17 : decode cX1_endsAt 17 = .ok (.if_icmp .ne 17, 3) := by decide +kernel
theorem dX1_endsAt_20 : decode cX1_endsAt 20 = .ok (.aload_n 1, 1) := by decide +kernel
theorem dX1_endsAt_21 : decode cX1_endsAt 21 = .ok (.iload_n 2, 1) := by decide +kernel
theorem dX1_endsAt_22 : decode cX1_endsAt 22 = .ok (.iconst 1, 1) := by decide +kernel
theorem dX1_endsAt_23 : decode cX1_endsAt 23 = .ok (.iadd, 1) := by decide +kernel
theorem dX1_endsAt_24 : decode cX1_endsAt 24 = .ok (.invokevirtual 30, 3) := by decide +kernel
theorem dX1_endsAt_27 : decode cX1_endsAt 27 = .ok (.aload_n 0, 1) := by decide +kernel
theorem dX1_endsAt_28 : decode cX1_endsAt 28 = .ok (.getfield 9, 3) := by decide +kernel
theorem dX1_endsAt_31 : decode cX1_endsAt 31 = .ok (.if_icmp .eq 7, 3) := by decide +kernel
theorem dX1_endsAt_34 : decode cX1_endsAt 34 = .ok (.iconst 1, 1) := by decide +kernel
theorem dX1_endsAt_35 : decode cX1_endsAt 35 = .ok (.goto 4, 3) := by decide +kernel
theorem dX1_endsAt_38 : decode cX1_endsAt 38 = .ok (.iconst 0, 1) := by decide +kernel
theorem dX1_endsAt_39 : decode cX1_endsAt 39 = .ok (.ireturn, 1) := by decide +kernel
theorem dX1_meantAt_0 : decode cX1_meantAt 0 = .ok (.aload_n 1, 1) := by decide +kernel
theorem dX1_meantAt_1 : decode cX1_meantAt 1 = .ok (.iload_n 2, 1) := by decide +kernel
theorem dX1_meantAt_2 : decode cX1_meantAt 2 = .ok (.invokevirtual 30, 3) := by decide +kernel
theorem dX1_meantAt_5 : decode cX1_meantAt 5 = .ok (.istore_n 3, 1) := by decide +kernel
theorem dX1_meantAt_6 : decode cX1_meantAt 6 = .ok (.iload_n 3, 1) := by decide +kernel
theorem dX1_meantAt_7 : decode cX1_meantAt 7 = .ok (.aload_n 0, 1) := by decide +kernel
theorem dX1_meantAt_8 : decode cX1_meantAt 8 = .ok (.getfield 18, 3) := by decide +kernel
theorem dX1_meantAt_11 : decode cX1_meantAt 11 = .ok (.if_icmp .eq 23, 3) := by decide +kernel
theorem dX1_meantAt_14 : decode cX1_meantAt 14 = .ok (.aload_n 0, 1) := by decide +kernel
theorem dX1_meantAt_15 : decode cX1_meantAt 15 = .ok (.getfield 26, 3) := by decide +kernel
theorem dX1_meantAt_18 : decode cX1_meantAt 18 = .ok (.iload_n 3, 1) := by decide +kernel
theorem dX1_meantAt_19 : decode cX1_meantAt 19 = .ok (.bipush 6, 2) := by decide +kernel
theorem dX1_meantAt_21 : decode cX1_meantAt 21 = .ok (.invokevirtual 71, 3) := by decide +kernel
theorem dX1_meantAt_24 : decode cX1_meantAt 24 = .ok (.ifCond .eq 8, 3) := by decide +kernel
theorem dX1_meantAt_27 : decode cX1_meantAt 27 = .ok (.bipush (-6), 2) := by decide +kernel
theorem dX1_meantAt_29 : decode cX1_meantAt 29 = .ok (.goto 4, 3) := by decide +kernel
theorem dX1_meantAt_32 : decode cX1_meantAt 32 = .ok (.iload_n 3, 1) := by decide +kernel
theorem dX1_meantAt_33 : decode cX1_meantAt 33 = .ok (.ireturn, 1) := by decide +kernel
theorem dX1_meantAt_34 : decode cX1_meantAt 34 = .ok (.aload_n 0, 1) := by decide +kernel
theorem dX1_meantAt_35 : decode cX1_meantAt 35 = .ok (.getfield 15, 3) := by decide +kernel
theorem dX1_meantAt_38 : decode cX1_meantAt 38 = .ok (.iconst 1, 1) := by decide +kernel
theorem dX1_meantAt_39 : decode cX1_meantAt 39 = .ok (.if_icmp .ne 11, 3) := by decide +kernel
theorem dX1_meantAt_42 : decode cX1_meantAt 42 = .ok (.aload_n 1, 1) := by decide +kernel
theorem dX1_meantAt_43 : decode cX1_meantAt 43 = .ok (.iload_n 2, 1) := by decide +kernel
theorem dX1_meantAt_44 : decode cX1_meantAt 44 = .ok (.iconst 1, 1) := by decide +kernel
theorem dX1_meantAt_45 : decode cX1_meantAt 45 = .ok (.iadd, 1) := by decide +kernel
theorem dX1_meantAt_46 : decode cX1_meantAt 46 = .ok (.invokevirtual 30, 3) := by decide +kernel
theorem dX1_meantAt_49 : decode cX1_meantAt 49 = .ok (.ireturn, 1) := by decide +kernel
theorem dX1_meantAt_50 : decode cX1_meantAt 50 = .ok (.aload_n 1, 1) := by decide +kernel
theorem dX1_meantAt_51 : decode cX1_meantAt 51 = .ok (.iload_n 2, 1) := by decide +kernel
theorem dX1_meantAt_52 : decode cX1_meantAt 52 = .ok (.iconst 1, 1) := by decide +kernel
theorem dX1_meantAt_53 : decode cX1_meantAt 53 = .ok (.iadd, 1) := by decide +kernel
theorem dX1_meantAt_54 : decode cX1_meantAt 54 = .ok (.invokevirtual 30, 3) := by decide +kernel
theorem dX1_meantAt_57 : decode cX1_meantAt 57 = .ok (.invokestatic 89, 3) := by decide +kernel
theorem dX1_meantAt_60 : decode cX1_meantAt 60 = .ok (.istore 4, 2) := by decide +kernel
theorem dX1_meantAt_62 : decode cX1_meantAt 62 = .ok (.aload_n 1, 1) := by decide +kernel
theorem dX1_meantAt_63 : decode cX1_meantAt 63 = .ok (.iload_n 2, 1) := by decide +kernel
theorem dX1_meantAt_64 : decode cX1_meantAt 64 = .ok (.iconst 2, 1) := by decide +kernel
theorem dX1_meantAt_65 : decode cX1_meantAt 65 = .ok (.iadd, 1) := by decide +kernel
theorem dX1_meantAt_66 : decode cX1_meantAt 66 = .ok (.invokevirtual 30, 3) := by decide +kernel
theorem dX1_meantAt_69 : decode cX1_meantAt 69 = .ok (.invokestatic 89, 3) := by decide +kernel
theorem dX1_meantAt_72 : decode cX1_meantAt 72 = .ok (.istore 5, 2) := by decide +kernel
theorem dX1_meantAt_74 : decode cX1_meantAt 74 = .ok (.iload 4, 2) := by decide +kernel
theorem dX1_meantAt_76 : decode cX1_meantAt 76 = .ok (.ifCond .lt 8, 3) := by decide +kernel
theorem dX1_meantAt_79 : decode cX1_meantAt 79 = .ok (.iload 5, 2) := by decide +kernel
theorem dX1_meantAt_81 : decode cX1_meantAt 81 = .ok (.ifCond .ge 8, 3) := by decide +kernel
theorem dX1_meantAt_84 : decode cX1_meantAt 84 = .ok (.bipush (-6), 2) := by decide +kernel
theorem dX1_meantAt_86 : decode cX1_meantAt 86 = .ok (.goto 11, 3) := by decide +kernel
theorem dX1_meantAt_89 : decode cX1_meantAt 89 = .ok (.iload 4, 2) := by decide +kernel
theorem dX1_meantAt_91 : decode cX1_meantAt 91 = .ok (.bipush 16, 2) := by decide +kernel
theorem dX1_meantAt_93 : decode cX1_meantAt 93 = .ok (.imul, 1) := by decide +kernel
theorem dX1_meantAt_94 : decode cX1_meantAt 94 = .ok (.iload 5, 2) := by decide +kernel
theorem dX1_meantAt_96 : decode cX1_meantAt 96 = .ok (.iadd, 1) := by decide +kernel
theorem dX1_meantAt_97 : decode cX1_meantAt 97 = .ok (.istore 6, 2) := by decide +kernel
theorem dX1_meantAt_99 : decode cX1_meantAt 99 = .ok (.iload 6, 2) := by decide +kernel
theorem dX1_meantAt_101 : decode cX1_meantAt 101 = .ok (.invokestatic 92, 3) := by decide +kernel
theorem dX1_meantAt_104 : decode cX1_meantAt 104 = .ok (.ifCond .eq 8, 3) := by decide +kernel
theorem dX1_meantAt_107 : decode cX1_meantAt 107 = .ok (.iload 6, 2) := by decide +kernel
theorem dX1_meantAt_109 : decode cX1_meantAt 109 = .ok (.goto 5, 3) := by decide +kernel
theorem dX1_meantAt_112 : decode cX1_meantAt 112 = .ok (.bipush (-6), 2) := by decide +kernel
theorem dX1_meantAt_114 : decode cX1_meantAt 114 = .ok (.ireturn, 1) := by decide +kernel
theorem dX1_widthOf_0 : decode cX1_widthOf 0 = .ok (.iload_n 1, 1) := by decide +kernel
theorem dX1_widthOf_1 : decode cX1_widthOf 1 = .ok (.aload_n 0, 1) := by decide +kernel
theorem dX1_widthOf_2 : decode cX1_widthOf 2 = .ok (.getfield 18, 3) := by decide +kernel
theorem dX1_widthOf_5 : decode cX1_widthOf 5 = .ok (.if_icmp .ne 17, 3) := by decide +kernel
theorem dX1_widthOf_8 : decode cX1_widthOf 8 = .ok (.aload_n 0, 1) := by decide +kernel
theorem dX1_widthOf_9 : decode cX1_widthOf 9 = .ok (.getfield 15, 3) := by decide +kernel
theorem dX1_widthOf_12 : decode cX1_widthOf 12 = .ok (.iconst 1, 1) := by decide +kernel
theorem dX1_widthOf_13 : decode cX1_widthOf 13 = .ok (.if_icmp .ne 7, 3) := by decide +kernel
theorem dX1_widthOf_16 : decode cX1_widthOf 16 = .ok (.iconst 2, 1) := by decide +kernel
theorem dX1_widthOf_17 : decode cX1_widthOf 17 = .ok (.goto 4, 3) := by decide +kernel
theorem dX1_widthOf_20 : decode cX1_widthOf 20 = .ok (.iconst 3, 1) := by decide +kernel
theorem dX1_widthOf_21 : decode cX1_widthOf 21 = .ok (.ireturn, 1) := by decide +kernel
theorem dX1_widthOf_22 : decode cX1_widthOf 22 = .ok (.iload_n 1, 1) := by decide +kernel
theorem dX1_widthOf_23 : decode cX1_widthOf 23 = .ok (.aload_n 0, 1) := by decide +kernel
theorem dX1_widthOf_24 : decode cX1_widthOf 24 = .ok (.getfield 9, 3) := by decide +kernel
theorem dX1_widthOf_27 : decode cX1_widthOf 27 = .ok (.if_icmp .ne 7, 3) := by decide +kernel
theorem dX1_widthOf_30 : decode cX1_widthOf 30 = .ok (.iconst 2, 1) := by decide +kernel
theorem dX1_widthOf_31 : decode cX1_widthOf 31 = .ok (.goto 4, 3) := by decide +kernel
theorem dX1_widthOf_34 : decode cX1_widthOf 34 = .ok (.iconst 1, 1) := by decide +kernel
theorem dX1_widthOf_35 : decode cX1_widthOf 35 = .ok (.ireturn, 1) := by decide +kernel
theorem dX1_digitOf_0 : decode cX1_digitOf 0 = .ok (.iload_n 0, 1) := by decide +kernel
theorem dX1_digitOf_1 : decode cX1_digitOf 1 = .ok (.bipush 10, 2) := by decide +kernel
theorem dX1_digitOf_3 : decode cX1_digitOf 3 = .ok (.if_icmp .ge 10, 3) := by decide +kernel
theorem dX1_digitOf_6 : decode cX1_digitOf 6 = .ok (.bipush 48, 2) := by decide +kernel
theorem dX1_digitOf_8 : decode cX1_digitOf 8 = .ok (.iload_n 0, 1) := by decide +kernel
theorem dX1_digitOf_9 : decode cX1_digitOf 9 = .ok (.iadd, 1) := by decide +kernel
theorem dX1_digitOf_10 : decode cX1_digitOf 10 = .ok (.goto 10, 3) := by decide +kernel
theorem dX1_digitOf_13 : decode cX1_digitOf 13 = .ok (.bipush 97, 2) := by decide +kernel
theorem dX1_digitOf_15 : decode cX1_digitOf 15 = .ok (.iload_n 0, 1) := by decide +kernel
theorem dX1_digitOf_16 : decode cX1_digitOf 16 = .ok (.iadd, 1) := by decide +kernel
theorem dX1_digitOf_17 : decode cX1_digitOf 17 = .ok (.bipush 10, 2) := by decide +kernel
theorem dX1_digitOf_19 : decode cX1_digitOf 19 = .ok (.isub, 1) := by decide +kernel
theorem dX1_digitOf_20 : decode cX1_digitOf 20 = .ok (.ireturn, 1) := by decide +kernel
theorem dX1_valueOfDigit_0 : decode cX1_valueOfDigit 0 = .ok (.iload_n 0, 1) := by decide +kernel
theorem dX1_valueOfDigit_1 : decode cX1_valueOfDigit 1 = .ok (.bipush 48, 2) := by decide +kernel
theorem dX1_valueOfDigit_3 : decode cX1_valueOfDigit 3 = .ok (.if_icmp .lt 14, 3) := by decide +kernel
theorem dX1_valueOfDigit_6 : decode cX1_valueOfDigit 6 = .ok (.iload_n 0, 1) := by decide +kernel
theorem dX1_valueOfDigit_7 : decode cX1_valueOfDigit 7 = .ok (.bipush 57, 2) := by decide +kernel
theorem dX1_valueOfDigit_9 : decode cX1_valueOfDigit 9 = .ok (.if_icmp .gt 8, 3) := by decide +kernel
theorem dX1_valueOfDigit_12 : decode cX1_valueOfDigit 12 = .ok (.iload_n 0, 1) := by decide +kernel
theorem dX1_valueOfDigit_13 : decode cX1_valueOfDigit 13 = .ok (.bipush 48, 2) := by decide +kernel
theorem dX1_valueOfDigit_15 : decode cX1_valueOfDigit 15 = .ok (.isub, 1) := by decide +kernel
theorem dX1_valueOfDigit_16 : decode cX1_valueOfDigit 16 = .ok (.ireturn, 1) := by decide +kernel
theorem dX1_valueOfDigit_17 : decode cX1_valueOfDigit 17 = .ok (.iload_n 0, 1) := by decide +kernel
theorem dX1_valueOfDigit_18 : decode cX1_valueOfDigit 18 = .ok (.bipush 97, 2) := by decide +kernel
theorem dX1_valueOfDigit_20 : decode cX1_valueOfDigit 20 = .ok (.if_icmp .lt 19, 3) := by decide +kernel
theorem dX1_valueOfDigit_23 : decode cX1_valueOfDigit 23 = .ok (.iload_n 0, 1) := by decide +kernel
theorem dX1_valueOfDigit_24 : decode cX1_valueOfDigit 24 = .ok (.bipush 102, 2) := by decide +kernel
theorem dX1_valueOfDigit_26 : decode cX1_valueOfDigit 26 = .ok (.if_icmp .gt 13, 3) := by decide +kernel
theorem dX1_valueOfDigit_29 : decode cX1_valueOfDigit 29 = .ok (.iload_n 0, 1) := by decide +kernel
theorem dX1_valueOfDigit_30 : decode cX1_valueOfDigit 30 = .ok (.bipush 97, 2) := by decide +kernel
theorem dX1_valueOfDigit_32 : decode cX1_valueOfDigit 32 = .ok (.isub, 1) := by decide +kernel
theorem dX1_valueOfDigit_33 : decode cX1_valueOfDigit 33 = .ok (.bipush 10, 2) := by decide +kernel
theorem dX1_valueOfDigit_35 : decode cX1_valueOfDigit 35 = .ok (.iadd, 1) := by decide +kernel
theorem dX1_valueOfDigit_36 : decode cX1_valueOfDigit 36 = .ok (.goto 4, 3) := by decide +kernel
theorem dX1_valueOfDigit_39 : decode cX1_valueOfDigit 39 = .ok (.iconst (-1), 1) := by decide +kernel
theorem dX1_valueOfDigit_40 : decode cX1_valueOfDigit 40 = .ok (.ireturn, 1) := by decide +kernel
theorem dX2_faultIn_0 : decode cX2_faultIn 0 = .ok (.aload_n 0, 1) := by decide +kernel
theorem dX2_faultIn_1 : decode cX2_faultIn 1 = .ok (.iconst 0, 1) := by decide +kernel
theorem dX2_faultIn_2 : decode cX2_faultIn 2 = .ok (.invokevirtual 9, 3) := by decide +kernel
theorem dX2_faultIn_5 : decode cX2_faultIn 5 = .ok (.invokestatic 15, 3) := by decide +kernel
theorem dX2_faultIn_8 : decode cX2_faultIn 8 = .ok (.ifCond .ne 5, 3) := by decide +kernel
theorem dX2_faultIn_11 : decode cX2_faultIn 11 = .ok (.iconst 0, 1) := by decide +kernel
theorem dX2_faultIn_12 : decode cX2_faultIn 12 = .ok (.ireturn, 1) := by decide +kernel
theorem dX2_faultIn_13 : decode cX2_faultIn 13 = .ok (.aload_n 0, 1) := by decide +kernel
theorem dX2_faultIn_14 : decode cX2_faultIn 14 = .ok (.iconst 1, 1) := by decide +kernel
theorem dX2_faultIn_15 : decode cX2_faultIn 15 = .ok (.invokevirtual 9, 3) := by decide +kernel
theorem dX2_faultIn_18 : decode cX2_faultIn 18 = .ok (.aload_n 0, 1) := by decide +kernel
theorem dX2_faultIn_19 : decode cX2_faultIn 19 = .ok (.iconst 0, 1) := by decide +kernel
theorem dX2_faultIn_20 : decode cX2_faultIn 20 = .ok (.invokevirtual 9, 3) := by decide +kernel
theorem dX2_faultIn_23 : decode cX2_faultIn 23 = .ok (.invokestatic 21, 3) := by decide +kernel
theorem dX2_faultIn_26 : decode cX2_faultIn 26 = .ok (.ifCond .ne 5, 3) := by decide +kernel
theorem dX2_faultIn_29 : decode cX2_faultIn 29 = .ok (.iconst 1, 1) := by decide +kernel
theorem dX2_faultIn_30 : decode cX2_faultIn 30 = .ok (.ireturn, 1) := by decide +kernel
theorem dX2_faultIn_31 : decode cX2_faultIn 31 = .ok (.aload_n 0, 1) := by decide +kernel
theorem dX2_faultIn_32 : decode cX2_faultIn 32 = .ok (.iconst 1, 1) := by decide +kernel
theorem dX2_faultIn_33 : decode cX2_faultIn 33 = .ok (.invokevirtual 9, 3) := by decide +kernel
theorem dX2_faultIn_36 : decode cX2_faultIn 36 = .ok (.bipush 48, 2) := by decide +kernel
theorem dX2_faultIn_38 : decode cX2_faultIn 38 = .ok (.isub, 1) := by decide +kernel
theorem dX2_faultIn_39 : decode cX2_faultIn 39 = .ok (.istore_n 1, 1) := by decide +kernel
theorem dX2_faultIn_40 : decode cX2_faultIn 40 = .ok (.iload_n 1, 1) := by decide +kernel
theorem dX2_faultIn_41 : decode cX2_faultIn 41 = .ok (.invokestatic 25, 3) := by decide +kernel
theorem dX2_faultIn_44 : decode cX2_faultIn 44 = .ok (.ifCond .eq 13, 3) := by decide +kernel
theorem dX2_faultIn_47 : decode cX2_faultIn 47 = .ok (.aload_n 0, 1) := by decide +kernel
theorem dX2_faultIn_48 : decode cX2_faultIn 48 = .ok (.iconst 2, 1) := by decide +kernel
theorem dX2_faultIn_49 : decode cX2_faultIn 49 = .ok (.invokestatic 30, 3) := by decide +kernel
theorem dX2_faultIn_52 : decode cX2_faultIn 52 = .ok (.ifCond .ne 5, 3) := by decide +kernel
theorem dX2_faultIn_55 : decode cX2_faultIn 55 = .ok (.iconst 2, 1) := by decide +kernel
theorem dX2_faultIn_56 : decode cX2_faultIn 56 = .ok (.ireturn, 1) := by decide +kernel
theorem dX2_faultIn_57 : decode cX2_faultIn 57 = .ok (.iload_n 1, 1) := by decide +kernel
theorem dX2_faultIn_58 : decode cX2_faultIn 58 = .ok (.invokestatic 34, 3) := by decide +kernel
theorem dX2_faultIn_61 : decode cX2_faultIn 61 = .ok (.istore_n 2, 1) := by decide +kernel
theorem dX2_faultIn_62 : decode cX2_faultIn 62 = .ok (.iload_n 2, 1) := by decide +kernel
theorem dX2_faultIn_63 : decode cX2_faultIn 63 = .ok (.iload_n 1, 1) := by decide +kernel
theorem dX2_faultIn_64 : decode cX2_faultIn 64 = .ok (.iconst 2, 1) := by decide +kernel
theorem dX2_faultIn_65 : decode cX2_faultIn 65 = .ok (.if_icmp .ne 7, 3) := by decide +kernel
theorem dX2_faultIn_68 : decode cX2_faultIn 68 = .ok (.iconst 0, 1) := by decide +kernel
theorem dX2_faultIn_69 : decode cX2_faultIn 69 = .ok (.goto 5, 3) := by decide +kernel
theorem dX2_faultIn_72 : decode cX2_faultIn 72 = .ok (.bipush 6, 2) := by decide +kernel
theorem dX2_faultIn_74 : decode cX2_faultIn 74 = .ok (.iadd, 1) := by decide +kernel
theorem dX2_faultIn_75 : decode cX2_faultIn 75 = .ok (.istore_n 3, 1) := by decide +kernel
theorem dX2_faultIn_76 : decode cX2_faultIn 76 = .ok (.iload_n 2, 1) := by decide +kernel
theorem dX2_faultIn_77 : decode cX2_faultIn 77 = .ok (.istore 4, 2) := by decide +kernel
theorem dX2_faultIn_79 : decode cX2_faultIn 79 = .ok (.iload 4, 2) := by decide +kernel
theorem dX2_faultIn_81 : decode cX2_faultIn 81 = .ok (.aload_n 0, 1) := by decide +kernel
theorem dX2_faultIn_82 : decode cX2_faultIn 82 = .ok (.invokevirtual 37, 3) := by decide +kernel
theorem dX2_faultIn_85 : decode cX2_faultIn 85 = .ok (.if_icmp .ge 27, 3) := by decide +kernel
theorem dX2_faultIn_88 : decode cX2_faultIn 88 = .ok (.iload 4, 2) := by decide +kernel
theorem dX2_faultIn_90 : decode cX2_faultIn 90 = .ok (.iload_n 3, 1) := by decide +kernel
theorem dX2_faultIn_91 : decode cX2_faultIn 91 = .ok (.if_icmp .ge 12, 3) := by decide +kernel
theorem dX2_faultIn_94 : decode cX2_faultIn 94 = .ok (.aload_n 0, 1) := by decide +kernel
theorem dX2_faultIn_95 : decode cX2_faultIn 95 = .ok (.iload 4, 2) := by decide +kernel
theorem dX2_faultIn_97 : decode cX2_faultIn 97 = .ok (.invokestatic 30, 3) := by decide +kernel
theorem dX2_faultIn_100 : decode cX2_faultIn 100 = .ok (.ifCond .ne 6, 3) := by decide +kernel
theorem dX2_faultIn_103 : decode cX2_faultIn 103 = .ok (.iload 4, 2) := by decide +kernel
theorem dX2_faultIn_105 : decode cX2_faultIn 105 = .ok (.ireturn, 1) := by decide +kernel
theorem dX2_faultIn_106 : decode cX2_faultIn 106 = .ok (.iinc 4 1, 3) := by decide +kernel
theorem dX2_faultIn_109 : decode cX2_faultIn 109 = .ok (.goto (-30), 3) := by decide +kernel
theorem dX2_faultIn_112 : decode cX2_faultIn 112 = .ok (.bipush (-6), 2) := by decide +kernel
theorem dX2_faultIn_114 : decode cX2_faultIn 114 = .ok (.ireturn, 1) := by decide +kernel
theorem dX2_firstHeld_0 : decode cX2_firstHeld 0 = .ok (.iload_n 0, 1) := by decide +kernel
theorem dX2_firstHeld_1 : decode cX2_firstHeld 1 = .ok (.invokestatic 25, 3) := by decide +kernel
theorem dX2_firstHeld_4 : decode cX2_firstHeld 4 = .ok (.ifCond .eq 7, 3) := by decide +kernel
theorem dX2_firstHeld_7 : decode cX2_firstHeld 7 = .ok (.iconst 3, 1) := by decide +kernel
theorem dX2_firstHeld_8 : decode cX2_firstHeld 8 = .ok (.goto 4, 3) := by decide +kernel
theorem dX2_firstHeld_11 : decode cX2_firstHeld 11 = .ok (.iconst 2, 1) := by decide +kernel
theorem dX2_firstHeld_12 : decode cX2_firstHeld 12 = .ok (.ireturn, 1) := by decide +kernel
theorem dX2_canBeMark_0 : decode cX2_canBeMark 0 = .ok (.iload_n 0, 1) := by decide +kernel
theorem dX2_canBeMark_1 : decode cX2_canBeMark 1 = .ok (.invokestatic 41, 3) := by decide +kernel
theorem dX2_canBeMark_4 : decode cX2_canBeMark 4 = .ok (.ifCond .eq 14, 3) := by decide +kernel
theorem dX2_canBeMark_7 : decode cX2_canBeMark 7 = .ok (.iload_n 0, 1) := by decide +kernel
theorem dX2_canBeMark_8 : decode cX2_canBeMark 8 = .ok (.invokestatic 44, 3) := by decide +kernel
theorem dX2_canBeMark_11 : decode cX2_canBeMark 11 = .ok (.ifCond .ge 7, 3) := by decide +kernel
theorem dX2_canBeMark_14 : decode cX2_canBeMark 14 = .ok (.iconst 1, 1) := by decide +kernel
theorem dX2_canBeMark_15 : decode cX2_canBeMark 15 = .ok (.goto 4, 3) := by decide +kernel
theorem dX2_canBeMark_18 : decode cX2_canBeMark 18 = .ok (.iconst 0, 1) := by decide +kernel
theorem dX2_canBeMark_19 : decode cX2_canBeMark 19 = .ok (.ireturn, 1) := by decide +kernel
theorem dX2_canBeWay_0 : decode cX2_canBeWay 0 = .ok (.iload_n 0, 1) := by decide +kernel
theorem dX2_canBeWay_1 : decode cX2_canBeWay 1 = .ok (.bipush 50, 2) := by decide +kernel
theorem dX2_canBeWay_3 : decode cX2_canBeWay 3 = .ok (.if_icmp .ne 15, 3) := by decide +kernel
theorem dX2_canBeWay_6 : decode cX2_canBeWay 6 = .ok (.iload_n 1, 1) := by decide +kernel
theorem dX2_canBeWay_7 : decode cX2_canBeWay 7 = .ok (.bipush 45, 2) := by decide +kernel
theorem dX2_canBeWay_9 : decode cX2_canBeWay 9 = .ok (.if_icmp .eq 7, 3) := by decide +kernel
theorem dX2_canBeWay_12 : decode cX2_canBeWay 12 = .ok (.iconst 1, 1) := by decide +kernel
theorem dX2_canBeWay_13 : decode cX2_canBeWay 13 = .ok (.goto 4, 3) := by decide +kernel
theorem dX2_canBeWay_16 : decode cX2_canBeWay 16 = .ok (.iconst 0, 1) := by decide +kernel
theorem dX2_canBeWay_17 : decode cX2_canBeWay 17 = .ok (.ireturn, 1) := by decide +kernel
theorem dX2_canBeWay_18 : decode cX2_canBeWay 18 = .ok (.iload_n 0, 1) := by decide +kernel
theorem dX2_canBeWay_19 : decode cX2_canBeWay 19 = .ok (.bipush 48, 2) := by decide +kernel
theorem dX2_canBeWay_21 : decode cX2_canBeWay 21 = .ok (.if_icmp .lt 13, 3) := by decide +kernel
theorem dX2_canBeWay_24 : decode cX2_canBeWay 24 = .ok (.iload_n 0, 1) := by decide +kernel
theorem dX2_canBeWay_25 : decode cX2_canBeWay 25 = .ok (.bipush 51, 2) := by decide +kernel
theorem dX2_canBeWay_27 : decode cX2_canBeWay 27 = .ok (.if_icmp .gt 7, 3) := by decide +kernel
theorem dX2_canBeWay_30 : decode cX2_canBeWay 30 = .ok (.iconst 1, 1) := by decide +kernel
theorem dX2_canBeWay_31 : decode cX2_canBeWay 31 = .ok (.goto 4, 3) := by decide +kernel
theorem dX2_canBeWay_34 : decode cX2_canBeWay 34 = .ok (.iconst 0, 1) := by decide +kernel
theorem dX2_canBeWay_35 : decode cX2_canBeWay 35 = .ok (.ireturn, 1) := by decide +kernel
theorem dX2_isNewSign_0 : decode cX2_isNewSign 0 = .ok (.aload_n 0, 1) := by decide +kernel
theorem dX2_isNewSign_1 : decode cX2_isNewSign 1 = .ok (.iload_n 1, 1) := by decide +kernel
theorem dX2_isNewSign_2 : decode cX2_isNewSign 2 = .ok (.invokevirtual 9, 3) := by decide +kernel
theorem dX2_isNewSign_5 : decode cX2_isNewSign 5 = .ok (.istore_n 2, 1) := by decide +kernel
theorem dX2_isNewSign_6 : decode cX2_isNewSign 6 = .ok (.iload_n 2, 1) := by decide +kernel
theorem dX2_isNewSign_7 : decode cX2_isNewSign 7 = .ok (.invokestatic 15, 3) := by decide +kernel
theorem dX2_isNewSign_10 : decode cX2_isNewSign 10 = .ok (.ifCond .eq 22, 3) := by decide +kernel
theorem dX2_isNewSign_13 : decode cX2_isNewSign 13 = .ok (.iload_n 2, 1) := by decide +kernel
theorem dX2_isNewSign_14 : decode cX2_isNewSign 14 = .ok (.bipush 45, 2) := by decide +kernel
theorem dX2_isNewSign_16 : decode cX2_isNewSign 16 = .ok (.if_icmp .eq 16, 3) := by decide +kernel
theorem dX2_isNewSign_19 : decode cX2_isNewSign 19 = .ok (.aload_n 0, 1) := by decide +kernel
theorem dX2_isNewSign_20 : decode cX2_isNewSign 20 = .ok (.iload_n 2, 1) := by decide +kernel
theorem dX2_isNewSign_21 : decode cX2_isNewSign 21 = .ok (.iload_n 1, 1) := by decide +kernel
theorem dX2_isNewSign_22 : decode cX2_isNewSign 22 = .ok (.invokevirtual 47, 3) := by decide +kernel
theorem dX2_isNewSign_25 : decode cX2_isNewSign 25 = .ok (.ifCond .ne 7, 3) := by decide +kernel
theorem dX2_isNewSign_28 : decode cX2_isNewSign 28 = .ok (.iconst 1, 1) := by decide +kernel
theorem dX2_isNewSign_29 : decode cX2_isNewSign 29 = .ok (.goto 4, 3) := by decide +kernel
theorem dX2_isNewSign_32 : decode cX2_isNewSign 32 = .ok (.iconst 0, 1) := by decide +kernel
theorem dX2_isNewSign_33 : decode cX2_isNewSign 33 = .ok (.ireturn, 1) := by decide +kernel
theorem dX3_init_0 : decode cX3_init 0 = .ok (.aload_n 0, 1) := by decide +kernel
theorem dX3_init_1 : decode cX3_init 1 = .ok (.invokespecial 3, 3) := by decide +kernel
theorem dX3_init_4 : decode cX3_init 4 = .ok (.aload_n 0, 1) := by decide +kernel
theorem dX3_init_5 : decode cX3_init 5 = .ok (.new 9, 3) := by decide +kernel
theorem dX3_init_8 : decode cX3_init 8 = .ok (.dup, 1) := by decide +kernel
theorem dX3_init_9 : decode cX3_init 9 = .ok (.sipush 400, 3) := by decide +kernel
theorem dX3_init_12 : decode cX3_init 12 = .ok (.invokespecial 11, 3) := by decide +kernel
theorem dX3_init_15 : decode cX3_init 15 = .ok (.putfield 14, 3) := by decide +kernel
theorem dX3_init_18 : decode cX3_init 18 = .ok (.aload_n 0, 1) := by decide +kernel
theorem dX3_init_19 : decode cX3_init 19 = .ok (.new 9, 3) := by decide +kernel
theorem dX3_init_22 : decode cX3_init 22 = .ok (.dup, 1) := by decide +kernel
theorem dX3_init_23 : decode cX3_init 23 = .ok (.sipush 400, 3) := by decide +kernel
theorem dX3_init_26 : decode cX3_init 26 = .ok (.invokespecial 11, 3) := by decide +kernel
theorem dX3_init_29 : decode cX3_init 29 = .ok (.putfield 20, 3) := by decide +kernel
theorem dX3_init_32 : decode cX3_init 32 = .ok (.aload_n 0, 1) := by decide +kernel
theorem dX3_init_33 : decode cX3_init 33 = .ok (.iconst 0, 1) := by decide +kernel
theorem dX3_init_34 : decode cX3_init 34 = .ok (.putfield 23, 3) := by decide +kernel
theorem dX3_init_37 : decode cX3_init 37 = .ok (.aload_n 0, 1) := by decide +kernel
theorem dX3_init_38 : decode cX3_init 38 = .ok (.bipush (-6), 2) := by decide +kernel
theorem dX3_init_40 : decode cX3_init 40 = .ok (.putfield 27, 3) := by decide +kernel
theorem dX3_init_43 : decode cX3_init 43 = .ok (.aload_n 0, 1) := by decide +kernel
theorem dX3_init_44 : decode cX3_init 44 = .ok (.bipush (-6), 2) := by decide +kernel
theorem dX3_init_46 : decode cX3_init 46 = .ok (.putfield 31, 3) := by decide +kernel
theorem dX3_init_49 : decode cX3_init 49 = .ok (.return_, 1) := by decide +kernel
theorem dX3_here_0 : decode cX3_here 0 = .ok (.aload_n 0, 1) := by decide +kernel
theorem dX3_here_1 : decode cX3_here 1 = .ok (.getfield 23, 3) := by decide +kernel
theorem dX3_here_4 : decode cX3_here 4 = .ok (.ifCond .eq 10, 3) := by decide +kernel
theorem dX3_here_7 : decode cX3_here 7 = .ok (.aload_n 0, 1) := by decide +kernel
theorem dX3_here_8 : decode cX3_here 8 = .ok (.getfield 20, 3) := by decide +kernel
theorem dX3_here_11 : decode cX3_here 11 = .ok (.goto 7, 3) := by decide +kernel
theorem dX3_here_14 : decode cX3_here 14 = .ok (.aload_n 0, 1) := by decide +kernel
theorem dX3_here_15 : decode cX3_here 15 = .ok (.getfield 14, 3) := by decide +kernel
theorem dX3_here_18 : decode cX3_here 18 = .ok (.areturn, 1) := by decide +kernel
theorem dX3_there_0 : decode cX3_there 0 = .ok (.aload_n 0, 1) := by decide +kernel
theorem dX3_there_1 : decode cX3_there 1 = .ok (.getfield 23, 3) := by decide +kernel
theorem dX3_there_4 : decode cX3_there 4 = .ok (.ifCond .eq 10, 3) := by decide +kernel
theorem dX3_there_7 : decode cX3_there 7 = .ok (.aload_n 0, 1) := by decide +kernel
theorem dX3_there_8 : decode cX3_there 8 = .ok (.getfield 14, 3) := by decide +kernel
theorem dX3_there_11 : decode cX3_there 11 = .ok (.goto 7, 3) := by decide +kernel
theorem dX3_there_14 : decode cX3_there 14 = .ok (.aload_n 0, 1) := by decide +kernel
theorem dX3_there_15 : decode cX3_there 15 = .ok (.getfield 20, 3) := by decide +kernel
theorem dX3_there_18 : decode cX3_there 18 = .ok (.areturn, 1) := by decide +kernel
theorem dX3_step_0 : decode cX3_step 0 = .ok (.aload_n 0, 1) := by decide +kernel
theorem dX3_step_1 : decode cX3_step 1 = .ok (.aload_n 0, 1) := by decide +kernel
theorem dX3_step_2 : decode cX3_step 2 = .ok (.getfield 23, 3) := by decide +kernel
theorem dX3_step_5 : decode cX3_step 5 = .ok (.ifCond .ne 7, 3) := by decide +kernel
theorem dX3_step_8 : decode cX3_step 8 = .ok (.iconst 1, 1) := by decide +kernel
theorem dX3_step_9 : decode cX3_step 9 = .ok (.goto 4, 3) := by decide +kernel
theorem dX3_step_12 : decode cX3_step 12 = .ok (.iconst 0, 1) := by decide +kernel
theorem dX3_step_13 : decode cX3_step 13 = .ok (.putfield 23, 3) := by decide +kernel
theorem dX3_step_16 : decode cX3_step 16 = .ok (.return_, 1) := by decide +kernel
theorem dX3_barringPlace_0 : decode cX3_barringPlace 0 = .ok (.aload_n 0, 1) := by decide +kernel
theorem dX3_barringPlace_1 : decode cX3_barringPlace 1 = .ok (.getfield 27, 3) := by decide +kernel
theorem dX3_barringPlace_4 : decode cX3_barringPlace 4 = .ok (.ireturn, 1) := by decide +kernel
theorem dX3_badSign_0 : decode cX3_badSign 0 = .ok (.aload_n 0, 1) := by decide +kernel
theorem dX3_badSign_1 : decode cX3_badSign 1 = .ok (.getfield 31, 3) := by decide +kernel
theorem dX3_badSign_4 : decode cX3_badSign 4 = .ok (.ireturn, 1) := by decide +kernel
theorem dX3_begin_0 : decode cX3_begin 0 = .ok (.aload_n 0, 1) := by decide +kernel
theorem dX3_begin_1 : decode cX3_begin 1 = .ok (.invokevirtual 34, 3) := by decide +kernel
theorem dX3_begin_4 : decode cX3_begin 4 = .ok (.aload_n 1, 1) := by decide +kernel
theorem dX3_begin_5 : decode cX3_begin 5 = .ok (.invokevirtual 38, 3) := by decide +kernel
theorem dX3_begin_8 : decode cX3_begin 8 = .ok (.return_, 1) := by decide +kernel
theorem dX3_putThrough_0 : decode cX3_putThrough 0 = .ok (.aload_n 0, 1) := by decide +kernel
theorem dX3_putThrough_1 : decode cX3_putThrough 1 = .ok (.bipush (-6), 2) := by decide +kernel
theorem dX3_putThrough_3 : decode cX3_putThrough 3 = .ok (.putfield 27, 3) := by decide +kernel
theorem dX3_putThrough_6 : decode cX3_putThrough 6 = .ok (.aload_n 0, 1) := by decide +kernel
theorem dX3_putThrough_7 : decode cX3_putThrough 7 = .ok (.invokevirtual 34, 3) := by decide +kernel
theorem dX3_putThrough_10 : decode cX3_putThrough 10 = .ok (.aload_n 3, 1) := by decide +kernel
theorem dX3_putThrough_11 : decode cX3_putThrough 11 = .ok (.invokevirtual 38, 3) := by decide +kernel
theorem dX3_putThrough_14 : decode cX3_putThrough 14 = .ok (.iconst 0, 1) := by decide +kernel
theorem dX3_putThrough_15 : decode cX3_putThrough 15 = .ok (.istore 5, 2) := by decide +kernel
theorem dX3_putThrough_17 : decode cX3_putThrough 17 = .ok (.iload 5, 2) := by decide +kernel
theorem dX3_putThrough_19 : decode cX3_putThrough 19 = .ok (.aload_n 2, 1) := by decide +kernel
theorem dX3_putThrough_20 : decode cX3_putThrough 20 = .ok (.invokevirtual 42, 3) := by decide +kernel
theorem dX3_putThrough_23 : decode cX3_putThrough 23 = .ok (.if_icmp .ge 78, 3) := by decide +kernel
theorem dX3_putThrough_26 : decode cX3_putThrough 26 = .ok (.aload_n 1, 1) := by decide +kernel
theorem dX3_putThrough_27 : decode cX3_putThrough 27 = .ok (.aload_n 2, 1) := by decide +kernel
theorem dX3_putThrough_28 : decode cX3_putThrough 28 = .ok (.iload 5, 2) := by decide +kernel
theorem dX3_putThrough_30 : decode cX3_putThrough 30 = .ok (.invokevirtual 46, 3) := by decide +kernel
theorem dX3_putThrough_33 : decode cX3_putThrough 33 = .ok (.invokevirtual 50, 3) := by decide +kernel
theorem dX3_putThrough_36 : decode cX3_putThrough 36 = .ok (.aload_n 0, 1) := by decide +kernel
theorem dX3_putThrough_37 : decode cX3_putThrough 37 = .ok (.invokevirtual 34, 3) := by decide +kernel
theorem dX3_putThrough_40 : decode cX3_putThrough 40 = .ok (.aload_n 0, 1) := by decide +kernel
theorem dX3_putThrough_41 : decode cX3_putThrough 41 = .ok (.invokevirtual 56, 3) := by decide +kernel
theorem dX3_putThrough_44 : decode cX3_putThrough 44 = .ok (.iload 5, 2) := by decide +kernel
theorem dX3_putThrough_46 : decode cX3_putThrough 46 = .ok (.iload 4, 2) := by decide +kernel
theorem dX3_putThrough_48 : decode cX3_putThrough 48 = .ok (.if_icmp .ne 7, 3) := by decide +kernel
theorem dX3_putThrough_51 : decode cX3_putThrough 51 = .ok (.iconst 1, 1) := by decide +kernel
theorem dX3_putThrough_52 : decode cX3_putThrough 52 = .ok (.goto 4, 3) := by decide +kernel
theorem dX3_putThrough_55 : decode cX3_putThrough 55 = .ok (.iconst 0, 1) := by decide +kernel
theorem dX3_putThrough_56 : decode cX3_putThrough 56 = .ok (.invokevirtual 59, 3) := by decide +kernel
theorem dX3_putThrough_59 : decode cX3_putThrough 59 = .ok (.istore 6, 2) := by decide +kernel
theorem dX3_putThrough_61 : decode cX3_putThrough 61 = .ok (.iload 6, 2) := by decide +kernel
theorem dX3_putThrough_63 : decode cX3_putThrough 63 = .ok (.bipush (-5), 2) := by decide +kernel
theorem dX3_putThrough_65 : decode cX3_putThrough 65 = .ok (.if_icmp .ne 9, 3) := by decide +kernel
theorem dX3_putThrough_68 : decode cX3_putThrough 68 = .ok (.aload_n 0, 1) := by decide +kernel
theorem dX3_putThrough_69 : decode cX3_putThrough 69 = .ok (.iload 5, 2) := by decide +kernel
theorem dX3_putThrough_71 : decode cX3_putThrough 71 = .ok (.putfield 27, 3) := by decide +kernel
theorem dX3_putThrough_74 : decode cX3_putThrough 74 = .ok (.iload 6, 2) := by decide +kernel
theorem dX3_putThrough_76 : decode cX3_putThrough 76 = .ok (.bipush (-5), 2) := by decide +kernel
theorem dX3_putThrough_78 : decode cX3_putThrough 78 = .ok (.if_icmp .eq 10, 3) := by decide +kernel
theorem dX3_putThrough_81 : decode cX3_putThrough 81 = .ok (.iload 6, 2) := by decide +kernel
theorem dX3_putThrough_83 : decode cX3_putThrough 83 = .ok (.bipush (-7), 2) := by decide +kernel
theorem dX3_putThrough_85 : decode cX3_putThrough 85 = .ok (.if_icmp .ne 6, 3) := by decide +kernel
theorem dX3_putThrough_88 : decode cX3_putThrough 88 = .ok (.iload 6, 2) := by decide +kernel
theorem dX3_putThrough_90 : decode cX3_putThrough 90 = .ok (.ireturn, 1) := by decide +kernel
theorem dX3_putThrough_91 : decode cX3_putThrough 91 = .ok (.aload_n 0, 1) := by decide +kernel
theorem dX3_putThrough_92 : decode cX3_putThrough 92 = .ok (.invokevirtual 65, 3) := by decide +kernel
theorem dX3_putThrough_95 : decode cX3_putThrough 95 = .ok (.iinc 5 1, 3) := by decide +kernel
theorem dX3_putThrough_98 : decode cX3_putThrough 98 = .ok (.goto (-81), 3) := by decide +kernel
theorem dX3_putThrough_101 : decode cX3_putThrough 101 = .ok (.aload_n 0, 1) := by decide +kernel
theorem dX3_putThrough_102 : decode cX3_putThrough 102 = .ok (.invokevirtual 34, 3) := by decide +kernel
theorem dX3_putThrough_105 : decode cX3_putThrough 105 = .ok (.invokevirtual 42, 3) := by decide +kernel
theorem dX3_putThrough_108 : decode cX3_putThrough 108 = .ok (.ireturn, 1) := by decide +kernel
theorem dX3_readBack_0 : decode cX3_readBack 0 = .ok (.aload_n 0, 1) := by decide +kernel
theorem dX3_readBack_1 : decode cX3_readBack 1 = .ok (.bipush (-6), 2) := by decide +kernel
theorem dX3_readBack_3 : decode cX3_readBack 3 = .ok (.putfield 31, 3) := by decide +kernel
theorem dX3_readBack_6 : decode cX3_readBack 6 = .ok (.aload_n 2, 1) := by decide +kernel
theorem dX3_readBack_7 : decode cX3_readBack 7 = .ok (.invokevirtual 42, 3) := by decide +kernel
theorem dX3_readBack_10 : decode cX3_readBack 10 = .ok (.iconst 1, 1) := by decide +kernel
theorem dX3_readBack_11 : decode cX3_readBack 11 = .ok (.isub, 1) := by decide +kernel
theorem dX3_readBack_12 : decode cX3_readBack 12 = .ok (.istore_n 3, 1) := by decide +kernel
theorem dX3_readBack_13 : decode cX3_readBack 13 = .ok (.iload_n 3, 1) := by decide +kernel
theorem dX3_readBack_14 : decode cX3_readBack 14 = .ok (.ifCond .lt 48, 3) := by decide +kernel
theorem dX3_readBack_17 : decode cX3_readBack 17 = .ok (.aload_n 0, 1) := by decide +kernel
theorem dX3_readBack_18 : decode cX3_readBack 18 = .ok (.aload_n 1, 1) := by decide +kernel
theorem dX3_readBack_19 : decode cX3_readBack 19 = .ok (.aload_n 2, 1) := by decide +kernel
theorem dX3_readBack_20 : decode cX3_readBack 20 = .ok (.iload_n 3, 1) := by decide +kernel
theorem dX3_readBack_21 : decode cX3_readBack 21 = .ok (.invokevirtual 46, 3) := by decide +kernel
theorem dX3_readBack_24 : decode cX3_readBack 24 = .ok (.invokevirtual 50, 3) := by decide +kernel
theorem dX3_readBack_27 : decode cX3_readBack 27 = .ok (.aload_n 0, 1) := by decide +kernel
theorem dX3_readBack_28 : decode cX3_readBack 28 = .ok (.invokevirtual 34, 3) := by decide +kernel
