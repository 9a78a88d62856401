theorem dX6_rows_4 : decode cX6_rows 4 = .ok (.invokevirtual 54, 3) := by decide +kernel
theorem dX6_rows_7 : decode cX6_rows 7 = .ok (.ifCond .ne 6, 3) := by decide +kernel
theorem dX6_rows_10 : decode cX6_rows 10 = .ok (.bipush (-3), 2) := by decide +kernel
theorem dX6_rows_12 : decode cX6_rows 12 = .ok (.ireturn, 1) := by decide +kernel
theorem dX6_rows_13 : decode cX6_rows 13 = .ok (.iconst 0, 1) := by decide +kernel
theorem dX6_rows_14 : decode cX6_rows 14 = .ok (.istore_n 2, 1) := by decide +kernel
theorem dX6_rows_15 : decode cX6_rows 15 = .ok (.iconst 1, 1) := by decide +kernel
theorem dX6_rows_16 : decode cX6_rows 16 = .ok (.istore_n 3, 1) := by decide +kernel
theorem dX6_rows_17 : decode cX6_rows 17 = .ok (.iload_n 3, 1) := by decide +kernel
theorem dX6_rows_18 : decode cX6_rows 18 = .ok (.iconst 3, 1) := by decide +kernel
theorem dX6_rows_19 : decode cX6_rows 19 = .ok (.if_icmp .gt 78, 3) := by decide +kernel
theorem dX6_rows_22 : decode cX6_rows 22 = .ok (.aload_n 0, 1) := by decide +kernel
theorem dX6_rows_23 : decode cX6_rows 23 = .ok (.getfield 44, 3) := by decide +kernel
theorem dX6_rows_26 : decode cX6_rows 26 = .ok (.iload_n 3, 1) := by decide +kernel
theorem dX6_rows_27 : decode cX6_rows 27 = .ok (.invokevirtual 147, 3) := by decide +kernel
theorem dX6_rows_30 : decode cX6_rows 30 = .ok (.istore 4, 2) := by decide +kernel
theorem dX6_rows_32 : decode cX6_rows 32 = .ok (.iconst 0, 1) := by decide +kernel
theorem dX6_rows_33 : decode cX6_rows 33 = .ok (.istore 5, 2) := by decide +kernel
theorem dX6_rows_35 : decode cX6_rows 35 = .ok (.iload 4, 2) := by decide +kernel
theorem dX6_rows_37 : decode cX6_rows 37 = .ok (.ifCond .eq 54, 3) := by decide +kernel
theorem dX6_rows_40 : decode cX6_rows 40 = .ok (.iload 5, 2) := by decide +kernel
theorem dX6_rows_42 : decode cX6_rows 42 = .ok (.sipush 625, 3) := by decide +kernel
theorem dX6_rows_45 : decode cX6_rows 45 = .ok (.if_icmp .ge 46, 3) := by decide +kernel
theorem dX6_rows_48 : decode cX6_rows 48 = .ok (.aload_n 0, 1) := by decide +kernel
theorem dX6_rows_49 : decode cX6_rows 49 = .ok (.aload_n 0, 1) := by decide +kernel
theorem dX6_rows_50 : decode cX6_rows 50 = .ok (.getfield 44, 3) := by decide +kernel
theorem dX6_rows_53 : decode cX6_rows 53 = .ok (.invokevirtual 150, 3) := by decide +kernel
theorem dX6_rows_56 : decode cX6_rows 56 = .ok (.ifCond .eq 19, 3) := by decide +kernel
theorem dX6_rows_59 : decode cX6_rows 59 = .ok (.iload_n 2, 1) := by decide +kernel
theorem dX6_rows_60 : decode cX6_rows 60 = .ok (.iload_n 1, 1) := by decide +kernel
theorem dX6_rows_61 : decode cX6_rows 61 = .ok (.if_icmp .ne 11, 3) := by decide +kernel
theorem dX6_rows_64 : decode cX6_rows 64 = .ok (.aload_n 0, 1) := by decide +kernel
theorem dX6_rows_65 : decode cX6_rows 65 = .ok (.getfield 44, 3) := by decide +kernel
theorem dX6_rows_68 : decode cX6_rows 68 = .ok (.invokestatic 154, 3) := by decide +kernel
theorem dX6_rows_71 : decode cX6_rows 71 = .ok (.ireturn, 1) := by decide +kernel
theorem dX6_rows_72 : decode cX6_rows 72 = .ok (.iinc 2 1, 3) := by decide +kernel
theorem dX6_rows_75 : decode cX6_rows 75 = .ok (.aload_n 0, 1) := by decide +kernel
theorem dX6_rows_76 : decode cX6_rows 76 = .ok (.getfield 44, 3) := by decide +kernel
theorem dX6_rows_79 : decode cX6_rows 79 = .ok (.iconst 5, 1) := by decide +kernel
theorem dX6_rows_80 : decode cX6_rows 80 = .ok (.invokestatic 157, 3) := by decide +kernel
theorem dX6_rows_83 : decode cX6_rows 83 = .ok (.istore 4, 2) := by decide +kernel
theorem dX6_rows_85 : decode cX6_rows 85 = .ok (.iinc 5 1, 3) := by decide +kernel
theorem dX6_rows_88 : decode cX6_rows 88 = .ok (.goto (-53), 3) := by decide +kernel
theorem dX6_rows_91 : decode cX6_rows 91 = .ok (.iinc 3 1, 3) := by decide +kernel
theorem dX6_rows_94 : decode cX6_rows 94 = .ok (.goto (-77), 3) := by decide +kernel
theorem dX6_rows_97 : decode cX6_rows 97 = .ok (.iload_n 1, 1) := by decide +kernel
theorem dX6_rows_98 : decode cX6_rows 98 = .ok (.iconst (-1), 1) := by decide +kernel
theorem dX6_rows_99 : decode cX6_rows 99 = .ok (.if_icmp .ne 7, 3) := by decide +kernel
theorem dX6_rows_102 : decode cX6_rows 102 = .ok (.iload_n 2, 1) := by decide +kernel
theorem dX6_rows_103 : decode cX6_rows 103 = .ok (.goto 5, 3) := by decide +kernel
theorem dX6_rows_106 : decode cX6_rows 106 = .ok (.bipush (-6), 2) := by decide +kernel
theorem dX6_rows_108 : decode cX6_rows 108 = .ok (.ireturn, 1) := by decide +kernel
theorem dX6_order_0 : decode cX6_order 0 = .ok (.aload_n 0, 1) := by decide +kernel
theorem dX6_order_1 : decode cX6_order 1 = .ok (.invokevirtual 163, 3) := by decide +kernel
theorem dX6_order_4 : decode cX6_order 4 = .ok (.istore_n 2, 1) := by decide +kernel
theorem dX6_order_5 : decode cX6_order 5 = .ok (.iload_n 1, 1) := by decide +kernel
theorem dX6_order_6 : decode cX6_order 6 = .ok (.iconst (-1), 1) := by decide +kernel
theorem dX6_order_7 : decode cX6_order 7 = .ok (.if_icmp .ne 7, 3) := by decide +kernel
theorem dX6_order_10 : decode cX6_order 10 = .ok (.iload_n 2, 1) := by decide +kernel
theorem dX6_order_11 : decode cX6_order 11 = .ok (.goto 11, 3) := by decide +kernel
theorem dX6_order_14 : decode cX6_order 14 = .ok (.aload_n 0, 1) := by decide +kernel
theorem dX6_order_15 : decode cX6_order 15 = .ok (.getfield 47, 3) := by decide +kernel
theorem dX6_order_18 : decode cX6_order 18 = .ok (.iload_n 1, 1) := by decide +kernel
theorem dX6_order_19 : decode cX6_order 19 = .ok (.invokevirtual 114, 3) := by decide +kernel
theorem dX6_order_22 : decode cX6_order 22 = .ok (.ireturn, 1) := by decide +kernel
theorem dX6_image_0 : decode cX6_image 0 = .ok (.iload_n 1, 1) := by decide +kernel
theorem dX6_image_1 : decode cX6_image 1 = .ok (.invokestatic 166, 3) := by decide +kernel
theorem dX6_image_4 : decode cX6_image 4 = .ok (.ifCond .ne 6, 3) := by decide +kernel
theorem dX6_image_7 : decode cX6_image 7 = .ok (.bipush (-2), 2) := by decide +kernel
theorem dX6_image_9 : decode cX6_image 9 = .ok (.ireturn, 1) := by decide +kernel
theorem dX6_image_10 : decode cX6_image 10 = .ok (.aload_n 0, 1) := by decide +kernel
theorem dX6_image_11 : decode cX6_image 11 = .ok (.iload_n 1, 1) := by decide +kernel
theorem dX6_image_12 : decode cX6_image 12 = .ok (.invokevirtual 169, 3) := by decide +kernel
theorem dX6_image_15 : decode cX6_image 15 = .ok (.astore_n 2, 1) := by decide +kernel
theorem dX6_image_16 : decode cX6_image 16 = .ok (.aload_n 2, 1) := by decide +kernel
theorem dX6_image_17 : decode cX6_image 17 = .ok (.aload_n 0, 1) := by decide +kernel
theorem dX6_image_18 : decode cX6_image 18 = .ok (.getfield 21, 3) := by decide +kernel
theorem dX6_image_21 : decode cX6_image 21 = .ok (.invokevirtual 173, 3) := by decide +kernel
theorem dX6_image_24 : decode cX6_image 24 = .ok (.aload_n 2, 1) := by decide +kernel
theorem dX6_image_25 : decode cX6_image 25 = .ok (.iconst 1, 1) := by decide +kernel
theorem dX6_image_26 : decode cX6_image 26 = .ok (.putfield 176, 3) := by decide +kernel
theorem dX6_image_29 : decode cX6_image 29 = .ok (.iconst 1, 1) := by decide +kernel
theorem dX6_image_30 : decode cX6_image 30 = .ok (.ireturn, 1) := by decide +kernel
theorem dX6_restore_0 : decode cX6_restore 0 = .ok (.iload_n 1, 1) := by decide +kernel
theorem dX6_restore_1 : decode cX6_restore 1 = .ok (.invokestatic 166, 3) := by decide +kernel
theorem dX6_restore_4 : decode cX6_restore 4 = .ok (.ifCond .ne 6, 3) := by decide +kernel
theorem dX6_restore_7 : decode cX6_restore 7 = .ok (.bipush (-2), 2) := by decide +kernel
theorem dX6_restore_9 : decode cX6_restore 9 = .ok (.ireturn, 1) := by decide +kernel
theorem dX6_restore_10 : decode cX6_restore 10 = .ok (.aload_n 0, 1) := by decide +kernel
theorem dX6_restore_11 : decode cX6_restore 11 = .ok (.iload_n 1, 1) := by decide +kernel
theorem dX6_restore_12 : decode cX6_restore 12 = .ok (.invokevirtual 169, 3) := by decide +kernel
theorem dX6_restore_15 : decode cX6_restore 15 = .ok (.astore_n 2, 1) := by decide +kernel
theorem dX6_restore_16 : decode cX6_restore 16 = .ok (.aload_n 2, 1) := by decide +kernel
theorem dX6_restore_17 : decode cX6_restore 17 = .ok (.getfield 176, 3) := by decide +kernel
theorem dX6_restore_20 : decode cX6_restore 20 = .ok (.ifCond .ne 6, 3) := by decide +kernel
theorem dX6_restore_23 : decode cX6_restore 23 = .ok (.bipush (-3), 2) := by decide +kernel
theorem dX6_restore_25 : decode cX6_restore 25 = .ok (.ireturn, 1) := by decide +kernel
theorem dX6_restore_26 : decode cX6_restore 26 = .ok (.aload_n 0, 1) := by decide +kernel
theorem dX6_restore_27 : decode cX6_restore 27 = .ok (.getfield 21, 3) := by decide +kernel
theorem dX6_restore_30 : decode cX6_restore 30 = .ok (.aload_n 2, 1) := by decide +kernel
theorem dX6_restore_31 : decode cX6_restore 31 = .ok (.invokevirtual 173, 3) := by decide +kernel
theorem dX6_restore_34 : decode cX6_restore 34 = .ok (.iconst 1, 1) := by decide +kernel
theorem dX6_restore_35 : decode cX6_restore 35 = .ok (.ireturn, 1) := by decide +kernel
theorem dX6_told_0 : decode cX6_told 0 = .ok (.iload_n 1, 1) := by decide +kernel
theorem dX6_told_1 : decode cX6_told 1 = .ok (.ifCond .ne 11, 3) := by decide +kernel
theorem dX6_told_4 : decode cX6_told 4 = .ok (.aload_n 0, 1) := by decide +kernel
theorem dX6_told_5 : decode cX6_told 5 = .ok (.getfield 14, 3) := by decide +kernel
theorem dX6_told_8 : decode cX6_told 8 = .ok (.invokevirtual 54, 3) := by decide +kernel
theorem dX6_told_11 : decode cX6_told 11 = .ok (.ireturn, 1) := by decide +kernel
theorem dX6_told_12 : decode cX6_told 12 = .ok (.iload_n 1, 1) := by decide +kernel
theorem dX6_told_13 : decode cX6_told 13 = .ok (.iconst 1, 1) := by decide +kernel
theorem dX6_told_14 : decode cX6_told 14 = .ok (.if_icmp .ne 14, 3) := by decide +kernel
theorem dX6_told_17 : decode cX6_told 17 = .ok (.aload_n 0, 1) := by decide +kernel
theorem dX6_told_18 : decode cX6_told 18 = .ok (.getfield 21, 3) := by decide +kernel
theorem dX6_told_21 : decode cX6_told 21 = .ok (.getfield 96, 3) := by decide +kernel
theorem dX6_told_24 : decode cX6_told 24 = .ok (.invokevirtual 54, 3) := by decide +kernel
theorem dX6_told_27 : decode cX6_told 27 = .ok (.ireturn, 1) := by decide +kernel
theorem dX6_told_28 : decode cX6_told 28 = .ok (.iload_n 1, 1) := by decide +kernel
theorem dX6_told_29 : decode cX6_told 29 = .ok (.iconst 2, 1) := by decide +kernel
theorem dX6_told_30 : decode cX6_told 30 = .ok (.if_icmp .ne 14, 3) := by decide +kernel
theorem dX6_told_33 : decode cX6_told 33 = .ok (.aload_n 0, 1) := by decide +kernel
theorem dX6_told_34 : decode cX6_told 34 = .ok (.getfield 21, 3) := by decide +kernel
theorem dX6_told_37 : decode cX6_told 37 = .ok (.getfield 90, 3) := by decide +kernel
theorem dX6_told_40 : decode cX6_told 40 = .ok (.invokevirtual 54, 3) := by decide +kernel
theorem dX6_told_43 : decode cX6_told 43 = .ok (.ireturn, 1) := by decide +kernel
theorem dX6_told_44 : decode cX6_told 44 = .ok (.iload_n 1, 1) := by decide +kernel
theorem dX6_told_45 : decode cX6_told 45 = .ok (.bipush 10, 2) := by decide +kernel
theorem dX6_told_47 : decode cX6_told 47 = .ok (.if_icmp .lt 24, 3) := by decide +kernel
theorem dX6_told_50 : decode cX6_told 50 = .ok (.iload_n 1, 1) := by decide +kernel
theorem dX6_told_51 : decode cX6_told 51 = .ok (.bipush 15, 2) := by decide +kernel
theorem dX6_told_53 : decode cX6_told 53 = .ok (.if_icmp .ge 18, 3) := by decide +kernel
theorem dX6_told_56 : decode cX6_told 56 = .ok (.aload_n 0, 1) := by decide +kernel
theorem dX6_told_57 : decode cX6_told 57 = .ok (.getfield 21, 3) := by decide +kernel
theorem dX6_told_60 : decode cX6_told 60 = .ok (.getfield 90, 3) := by decide +kernel
theorem dX6_told_63 : decode cX6_told 63 = .ok (.iload_n 1, 1) := by decide +kernel
theorem dX6_told_64 : decode cX6_told 64 = .ok (.bipush 10, 2) := by decide +kernel
theorem dX6_told_66 : decode cX6_told 66 = .ok (.isub, 1) := by decide +kernel
theorem dX6_told_67 : decode cX6_told 67 = .ok (.invokevirtual 114, 3) := by decide +kernel
theorem dX6_told_70 : decode cX6_told 70 = .ok (.ireturn, 1) := by decide +kernel
theorem dX6_told_71 : decode cX6_told 71 = .ok (.iload_n 1, 1) := by decide +kernel
theorem dX6_told_72 : decode cX6_told 72 = .ok (.bipush 20, 2) := by decide +kernel
theorem dX6_told_74 : decode cX6_told 74 = .ok (.if_icmp .lt 24, 3) := by decide +kernel
theorem dX6_told_77 : decode cX6_told 77 = .ok (.iload_n 1, 1) := by decide +kernel
theorem dX6_told_78 : decode cX6_told 78 = .ok (.bipush 32, 2) := by decide +kernel
theorem dX6_told_80 : decode cX6_told 80 = .ok (.if_icmp .ge 18, 3) := by decide +kernel
theorem dX6_told_83 : decode cX6_told 83 = .ok (.aload_n 0, 1) := by decide +kernel
theorem dX6_told_84 : decode cX6_told 84 = .ok (.getfield 21, 3) := by decide +kernel
theorem dX6_told_87 : decode cX6_told 87 = .ok (.getfield 96, 3) := by decide +kernel
theorem dX6_told_90 : decode cX6_told 90 = .ok (.iload_n 1, 1) := by decide +kernel
theorem dX6_told_91 : decode cX6_told 91 = .ok (.bipush 20, 2) := by decide +kernel
theorem dX6_told_93 : decode cX6_told 93 = .ok (.isub, 1) := by decide +kernel
theorem dX6_told_94 : decode cX6_told 94 = .ok (.invokevirtual 114, 3) := by decide +kernel
theorem dX6_told_97 : decode cX6_told 97 = .ok (.ireturn, 1) := by decide +kernel
theorem dX6_told_98 : decode cX6_told 98 = .ok (.bipush (-2), 2) := by decide +kernel
theorem dX6_told_100 : decode cX6_told 100 = .ok (.ireturn, 1) := by decide +kernel
theorem dX6_isSign_0 : decode cX6_isSign 0 = .ok (.iload_n 0, 1) := by decide +kernel
theorem dX6_isSign_1 : decode cX6_isSign 1 = .ok (.bipush 33, 2) := by decide +kernel
theorem dX6_isSign_3 : decode cX6_isSign 3 = .ok (.if_icmp .lt 13, 3) := by decide +kernel
theorem dX6_isSign_6 : decode cX6_isSign 6 = .ok (.iload_n 0, 1) := by decide +kernel
theorem dX6_isSign_7 : decode cX6_isSign 7 = .ok (.bipush 126, 2) := by decide +kernel
theorem dX6_isSign_9 : decode cX6_isSign 9 = .ok (.if_icmp .gt 7, 3) := by decide +kernel
theorem dX6_isSign_12 : decode cX6_isSign 12 = .ok (.iconst 1, 1) := by decide +kernel
theorem dX6_isSign_13 : decode cX6_isSign 13 = .ok (.goto 4, 3) := by decide +kernel
theorem dX6_isSign_16 : decode cX6_isSign 16 = .ok (.iconst 0, 1) := by decide +kernel
theorem dX6_isSign_17 : decode cX6_isSign 17 = .ok (.ireturn, 1) := by decide +kernel
theorem dX6_isLayer_0 : decode cX6_isLayer 0 = .ok (.iload_n 0, 1) := by decide +kernel
theorem dX6_isLayer_1 : decode cX6_isLayer 1 = .ok (.ifCond .lt 12, 3) := by decide +kernel
theorem dX6_isLayer_4 : decode cX6_isLayer 4 = .ok (.iload_n 0, 1) := by decide +kernel
theorem dX6_isLayer_5 : decode cX6_isLayer 5 = .ok (.iconst 5, 1) := by decide +kernel
theorem dX6_isLayer_6 : decode cX6_isLayer 6 = .ok (.if_icmp .ge 7, 3) := by decide +kernel
theorem dX6_isLayer_9 : decode cX6_isLayer 9 = .ok (.iconst 1, 1) := by decide +kernel
theorem dX6_isLayer_10 : decode cX6_isLayer 10 = .ok (.goto 4, 3) := by decide +kernel
theorem dX6_isLayer_13 : decode cX6_isLayer 13 = .ok (.iconst 0, 1) := by decide +kernel
theorem dX6_isLayer_14 : decode cX6_isLayer 14 = .ok (.ireturn, 1) := by decide +kernel
theorem dX6_isImage_0 : decode cX6_isImage 0 = .ok (.iload_n 0, 1) := by decide +kernel
theorem dX6_isImage_1 : decode cX6_isImage 1 = .ok (.ifCond .lt 12, 3) := by decide +kernel
theorem dX6_isImage_4 : decode cX6_isImage 4 = .ok (.iload_n 0, 1) := by decide +kernel
theorem dX6_isImage_5 : decode cX6_isImage 5 = .ok (.iconst 2, 1) := by decide +kernel
theorem dX6_isImage_6 : decode cX6_isImage 6 = .ok (.if_icmp .ge 7, 3) := by decide +kernel
theorem dX6_isImage_9 : decode cX6_isImage 9 = .ok (.iconst 1, 1) := by decide +kernel
theorem dX6_isImage_10 : decode cX6_isImage 10 = .ok (.goto 4, 3) := by decide +kernel
theorem dX6_isImage_13 : decode cX6_isImage 13 = .ok (.iconst 0, 1) := by decide +kernel
theorem dX6_isImage_14 : decode cX6_isImage 14 = .ok (.ireturn, 1) := by decide +kernel
theorem dX6_imageAt_0 : decode cX6_imageAt 0 = .ok (.iload_n 1, 1) := by decide +kernel
theorem dX6_imageAt_1 : decode cX6_imageAt 1 = .ok (.ifCond .ne 10, 3) := by decide +kernel
theorem dX6_imageAt_4 : decode cX6_imageAt 4 = .ok (.aload_n 0, 1) := by decide +kernel
theorem dX6_imageAt_5 : decode cX6_imageAt 5 = .ok (.getfield 25, 3) := by decide +kernel
theorem dX6_imageAt_8 : decode cX6_imageAt 8 = .ok (.goto 7, 3) := by decide +kernel
theorem dX6_imageAt_11 : decode cX6_imageAt 11 = .ok (.aload_n 0, 1) := by decide +kernel
theorem dX6_imageAt_12 : decode cX6_imageAt 12 = .ok (.getfield 28, 3) := by decide +kernel
theorem dX6_imageAt_15 : decode cX6_imageAt 15 = .ok (.areturn, 1) := by decide +kernel
theorem dX6_isPlace_0 : decode cX6_isPlace 0 = .ok (.iload_n 1, 1) := by decide +kernel
theorem dX6_isPlace_1 : decode cX6_isPlace 1 = .ok (.ifCond .lt 21, 3) := by decide +kernel
theorem dX6_isPlace_4 : decode cX6_isPlace 4 = .ok (.iload_n 1, 1) := by decide +kernel
theorem dX6_isPlace_5 : decode cX6_isPlace 5 = .ok (.aload_n 0, 1) := by decide +kernel
theorem dX6_isPlace_6 : decode cX6_isPlace 6 = .ok (.getfield 21, 3) := by decide +kernel
theorem dX6_isPlace_9 : decode cX6_isPlace 9 = .ok (.getfield 90, 3) := by decide +kernel
theorem dX6_isPlace_12 : decode cX6_isPlace 12 = .ok (.invokevirtual 54, 3) := by decide +kernel
theorem dX6_isPlace_15 : decode cX6_isPlace 15 = .ok (.if_icmp .ge 7, 3) := by decide +kernel
theorem dX6_isPlace_18 : decode cX6_isPlace 18 = .ok (.iconst 1, 1) := by decide +kernel
theorem dX6_isPlace_19 : decode cX6_isPlace 19 = .ok (.goto 4, 3) := by decide +kernel
theorem dX6_isPlace_22 : decode cX6_isPlace 22 = .ok (.iconst 0, 1) := by decide +kernel
theorem dX6_isPlace_23 : decode cX6_isPlace 23 = .ok (.ireturn, 1) := by decide +kernel
theorem dX6_lengthOfLone_0 : decode cX6_lengthOfLone 0 = .ok (.aload_n 0, 1) := by decide +kernel
theorem dX6_lengthOfLone_1 : decode cX6_lengthOfLone 1 = .ok (.getfield 38, 3) := by decide +kernel
theorem dX6_lengthOfLone_4 : decode cX6_lengthOfLone 4 = .ok (.invokevirtual 61, 3) := by decide +kernel
theorem dX6_lengthOfLone_7 : decode cX6_lengthOfLone 7 = .ok (.aload_n 0, 1) := by decide +kernel
theorem dX6_lengthOfLone_8 : decode cX6_lengthOfLone 8 = .ok (.getfield 38, 3) := by decide +kernel
theorem dX6_lengthOfLone_11 : decode cX6_lengthOfLone 11 = .ok (.iload_n 1, 1) := by decide +kernel
theorem dX6_lengthOfLone_12 : decode cX6_lengthOfLone 12 = .ok (.invokevirtual 58, 3) := by decide +kernel
theorem dX6_lengthOfLone_15 : decode cX6_lengthOfLone 15 = .ok (.aload_n 0, 1) := by decide +kernel
theorem dX6_lengthOfLone_16 : decode cX6_lengthOfLone 16 = .ok (.getfield 34, 3) := by decide +kernel
theorem dX6_lengthOfLone_19 : decode cX6_lengthOfLone 19 = .ok (.aload_n 0, 1) := by decide +kernel
theorem dX6_lengthOfLone_20 : decode cX6_lengthOfLone 20 = .ok (.getfield 21, 3) := by decide +kernel
theorem dX6_lengthOfLone_23 : decode cX6_lengthOfLone 23 = .ok (.aload_n 0, 1) := by decide +kernel
theorem dX6_lengthOfLone_24 : decode cX6_lengthOfLone 24 = .ok (.getfield 21, 3) := by decide +kernel
theorem dX6_lengthOfLone_27 : decode cX6_lengthOfLone 27 = .ok (.getfield 90, 3) := by decide +kernel
theorem dX6_lengthOfLone_30 : decode cX6_lengthOfLone 30 = .ok (.aload_n 0, 1) := by decide +kernel
theorem dX6_lengthOfLone_31 : decode cX6_lengthOfLone 31 = .ok (.getfield 38, 3) := by decide +kernel
theorem dX6_lengthOfLone_34 : decode cX6_lengthOfLone 34 = .ok (.bipush (-6), 2) := by decide +kernel
theorem dX6_lengthOfLone_36 : decode cX6_lengthOfLone 36 = .ok (.invokevirtual 106, 3) := by decide +kernel
theorem dX6_lengthOfLone_39 : decode cX6_lengthOfLone 39 = .ok (.ireturn, 1) := by decide +kernel
theorem dX6_outcome_0 : decode cX6_outcome 0 = .ok (.aload_n 0, 1) := by decide +kernel
theorem dX6_outcome_1 : decode cX6_outcome 1 = .ok (.getfield 34, 3) := by decide +kernel
theorem dX6_outcome_4 : decode cX6_outcome 4 = .ok (.aload_n 0, 1) := by decide +kernel
theorem dX6_outcome_5 : decode cX6_outcome 5 = .ok (.getfield 21, 3) := by decide +kernel
theorem dX6_outcome_8 : decode cX6_outcome 8 = .ok (.aload_n 2, 1) := by decide +kernel
theorem dX6_outcome_9 : decode cX6_outcome 9 = .ok (.aload_n 1, 1) := by decide +kernel
theorem dX6_outcome_10 : decode cX6_outcome 10 = .ok (.iload_n 3, 1) := by decide +kernel
theorem dX6_outcome_11 : decode cX6_outcome 11 = .ok (.invokevirtual 106, 3) := by decide +kernel
theorem dX6_outcome_14 : decode cX6_outcome 14 = .ok (.istore 4, 2) := by decide +kernel
theorem dX6_outcome_16 : decode cX6_outcome 16 = .ok (.iload 4, 2) := by decide +kernel
theorem dX6_outcome_18 : decode cX6_outcome 18 = .ok (.bipush (-7), 2) := by decide +kernel
theorem dX6_outcome_20 : decode cX6_outcome 20 = .ok (.if_icmp .eq 10, 3) := by decide +kernel
theorem dX6_outcome_23 : decode cX6_outcome 23 = .ok (.iload 4, 2) := by decide +kernel
theorem dX6_outcome_25 : decode cX6_outcome 25 = .ok (.bipush (-5), 2) := by decide +kernel
theorem dX6_outcome_27 : decode cX6_outcome 27 = .ok (.if_icmp .ne 6, 3) := by decide +kernel
theorem dX6_outcome_30 : decode cX6_outcome 30 = .ok (.iload 4, 2) := by decide +kernel
theorem dX6_outcome_32 : decode cX6_outcome 32 = .ok (.ireturn, 1) := by decide +kernel
theorem dX6_outcome_33 : decode cX6_outcome 33 = .ok (.aload_n 0, 1) := by decide +kernel
theorem dX6_outcome_34 : decode cX6_outcome 34 = .ok (.getfield 34, 3) := by decide +kernel
theorem dX6_outcome_37 : decode cX6_outcome 37 = .ok (.aload_n 0, 1) := by decide +kernel
theorem dX6_outcome_38 : decode cX6_outcome 38 = .ok (.getfield 21, 3) := by decide +kernel
theorem dX6_outcome_41 : decode cX6_outcome 41 = .ok (.aload_n 0, 1) := by decide +kernel
theorem dX6_outcome_42 : decode cX6_outcome 42 = .ok (.getfield 21, 3) := by decide +kernel
theorem dX6_outcome_45 : decode cX6_outcome 45 = .ok (.getfield 90, 3) := by decide +kernel
theorem dX6_outcome_48 : decode cX6_outcome 48 = .ok (.invokevirtual 126, 3) := by decide +kernel
theorem dX6_outcome_51 : decode cX6_outcome 51 = .ok (.bipush (-6), 2) := by decide +kernel
theorem dX6_outcome_53 : decode cX6_outcome 53 = .ok (.if_icmp .eq 5, 3) := by decide +kernel
theorem dX6_outcome_56 : decode cX6_outcome 56 = .ok (.iconst 2, 1) := by decide +kernel
theorem dX6_outcome_57 : decode cX6_outcome 57 = .ok (.ireturn, 1) := by decide +kernel
theorem dX6_outcome_58 : decode cX6_outcome 58 = .ok (.aload_n 0, 1) := by decide +kernel
theorem dX6_outcome_59 : decode cX6_outcome 59 = .ok (.getfield 34, 3) := by decide +kernel
theorem dX6_outcome_62 : decode cX6_outcome 62 = .ok (.invokevirtual 110, 3) := by decide +kernel
theorem dX6_outcome_65 : decode cX6_outcome 65 = .ok (.aload_n 1, 1) := by decide +kernel
theorem dX6_outcome_66 : decode cX6_outcome 66 = .ok (.invokevirtual 180, 3) := by decide +kernel
theorem dX6_outcome_69 : decode cX6_outcome 69 = .ok (.ifCond .eq 7, 3) := by decide +kernel
theorem dX6_outcome_72 : decode cX6_outcome 72 = .ok (.iconst 0, 1) := by decide +kernel
theorem dX6_outcome_73 : decode cX6_outcome 73 = .ok (.goto 4, 3) := by decide +kernel
theorem dX6_outcome_76 : decode cX6_outcome 76 = .ok (.iconst 1, 1) := by decide +kernel
theorem dX6_outcome_77 : decode cX6_outcome 77 = .ok (.ireturn, 1) := by decide +kernel
theorem dX6_padIsSpillRow_0 : decode cX6_padIsSpillRow 0 = .ok (.aload_n 0, 1) := by decide +kernel
theorem dX6_padIsSpillRow_1 : decode cX6_padIsSpillRow 1 = .ok (.getfield 14, 3) := by decide +kernel
theorem dX6_padIsSpillRow_4 : decode cX6_padIsSpillRow 4 = .ok (.invokevirtual 54, 3) := by decide +kernel
theorem dX6_padIsSpillRow_7 : decode cX6_padIsSpillRow 7 = .ok (.iconst 1, 1) := by decide +kernel
theorem dX6_padIsSpillRow_8 : decode cX6_padIsSpillRow 8 = .ok (.if_icmp .lt 14, 3) := by decide +kernel
theorem dX6_padIsSpillRow_11 : decode cX6_padIsSpillRow 11 = .ok (.aload_n 0, 1) := by decide +kernel
theorem dX6_padIsSpillRow_12 : decode cX6_padIsSpillRow 12 = .ok (.getfield 14, 3) := by decide +kernel
theorem dX6_padIsSpillRow_15 : decode cX6_padIsSpillRow 15 = .ok (.invokevirtual 54, 3) := by decide +kernel
theorem dX6_padIsSpillRow_18 : decode cX6_padIsSpillRow 18 = .ok (.iconst 5, 1) := by decide +kernel
theorem dX6_padIsSpillRow_19 : decode cX6_padIsSpillRow 19 = .ok (.if_icmp .le 5, 3) := by decide +kernel
theorem dX6_padIsSpillRow_22 : decode cX6_padIsSpillRow 22 = .ok (.iconst 0, 1) := by decide +kernel
theorem dX6_padIsSpillRow_23 : decode cX6_padIsSpillRow 23 = .ok (.ireturn, 1) := by decide +kernel
theorem dX6_padIsSpillRow_24 : decode cX6_padIsSpillRow 24 = .ok (.iconst 1, 1) := by decide +kernel
theorem dX6_padIsSpillRow_25 : decode cX6_padIsSpillRow 25 = .ok (.istore_n 1, 1) := by decide +kernel
theorem dX6_padIsSpillRow_26 : decode cX6_padIsSpillRow 26 = .ok (.iload_n 1, 1) := by decide +kernel
theorem dX6_padIsSpillRow_27 : decode cX6_padIsSpillRow 27 = .ok (.aload_n 0, 1) := by decide +kernel
theorem dX6_padIsSpillRow_28 : decode cX6_padIsSpillRow 28 = .ok (.getfield 14, 3) := by decide +kernel
theorem dX6_padIsSpillRow_31 : decode cX6_padIsSpillRow 31 = .ok (.invokevirtual 54, 3) := by decide +kernel
theorem dX6_padIsSpillRow_34 : decode cX6_padIsSpillRow 34 = .ok (.if_icmp .ge 30, 3) := by decide +kernel
theorem dX6_padIsSpillRow_37 : decode cX6_padIsSpillRow 37 = .ok (.aload_n 0, 1) := by decide +kernel
theorem dX6_padIsSpillRow_38 : decode cX6_padIsSpillRow 38 = .ok (.getfield 14, 3) := by decide +kernel
theorem dX6_padIsSpillRow_41 : decode cX6_padIsSpillRow 41 = .ok (.aload_n 0, 1) := by decide +kernel
theorem dX6_padIsSpillRow_42 : decode cX6_padIsSpillRow 42 = .ok (.getfield 14, 3) := by decide +kernel
theorem dX6_padIsSpillRow_45 : decode cX6_padIsSpillRow 45 = .ok (.iload_n 1, 1) := by decide +kernel
theorem dX6_padIsSpillRow_46 : decode cX6_padIsSpillRow 46 = .ok (.invokevirtual 114, 3) := by decide +kernel
theorem dX6_padIsSpillRow_49 : decode cX6_padIsSpillRow 49 = .ok (.iload_n 1, 1) := by decide +kernel
theorem dX6_padIsSpillRow_50 : decode cX6_padIsSpillRow 50 = .ok (.invokevirtual 183, 3) := by decide +kernel
theorem dX6_padIsSpillRow_53 : decode cX6_padIsSpillRow 53 = .ok (.ifCond .eq 5, 3) := by decide +kernel
theorem dX6_padIsSpillRow_56 : decode cX6_padIsSpillRow 56 = .ok (.iconst 0, 1) := by decide +kernel
theorem dX6_padIsSpillRow_57 : decode cX6_padIsSpillRow 57 = .ok (.ireturn, 1) := by decide +kernel
theorem dX6_padIsSpillRow_58 : decode cX6_padIsSpillRow 58 = .ok (.iinc 1 1, 3) := by decide +kernel
theorem dX6_padIsSpillRow_61 : decode cX6_padIsSpillRow 61 = .ok (.goto (-35), 3) := by decide +kernel
theorem dX6_padIsSpillRow_64 : decode cX6_padIsSpillRow 64 = .ok (.iconst 1, 1) := by decide +kernel
theorem dX6_padIsSpillRow_65 : decode cX6_padIsSpillRow 65 = .ok (.ireturn, 1) := by decide +kernel
theorem dX6_findShortestSpill_0 : decode cX6_findShortestSpill 0 = .ok (.iconst 1, 1) := by decide +kernel
theorem dX6_findShortestSpill_1 : decode cX6_findShortestSpill 1 = .ok (.istore_n 2, 1) := by decide +kernel
theorem dX6_findShortestSpill_2 : decode cX6_findShortestSpill 2 = .ok (.iload_n 2, 1) := by decide +kernel
theorem dX6_findShortestSpill_3 : decode cX6_findShortestSpill 3 = .ok (.iconst 4, 1) := by decide +kernel
theorem dX6_findShortestSpill_4 : decode cX6_findShortestSpill 4 = .ok (.if_icmp .gt 90, 3) := by decide +kernel
theorem dX6_findShortestSpill_7 : decode cX6_findShortestSpill 7 = .ok (.aload_n 0, 1) := by decide +kernel
theorem dX6_findShortestSpill_8 : decode cX6_findShortestSpill 8 = .ok (.getfield 44, 3) := by decide +kernel
theorem dX6_findShortestSpill_11 : decode cX6_findShortestSpill 11 = .ok (.iload_n 2, 1) := by decide +kernel
theorem dX6_findShortestSpill_12 : decode cX6_findShortestSpill 12 = .ok (.invokevirtual 147, 3) := by decide +kernel
theorem dX6_findShortestSpill_15 : decode cX6_findShortestSpill 15 = .ok (.istore_n 3, 1) := by decide +kernel
theorem dX6_findShortestSpill_16 : decode cX6_findShortestSpill 16 = .ok (.iconst 0, 1) := by decide +kernel
theorem dX6_findShortestSpill_17 : decode cX6_findShortestSpill 17 = .ok (.istore 4, 2) := by decide +kernel
theorem dX6_findShortestSpill_19 : decode cX6_findShortestSpill 19 = .ok (.iload_n 3, 1) := by decide +kernel
theorem dX6_findShortestSpill_20 : decode cX6_findShortestSpill 20 = .ok (.ifCond .eq 68, 3) := by decide +kernel
theorem dX6_findShortestSpill_23 : decode cX6_findShortestSpill 23 = .ok (.iload 4, 2) := by decide +kernel
theorem dX6_findShortestSpill_25 : decode cX6_findShortestSpill 25 = .ok (.sipush 625, 3) := by decide +kernel
theorem dX6_findShortestSpill_28 : decode cX6_findShortestSpill 28 = .ok (.if_icmp .ge 60, 3) := by decide +kernel
theorem dX6_findShortestSpill_31 : decode cX6_findShortestSpill 31 = .ok (.aload_n 0, 1) := by decide +kernel
theorem dX6_findShortestSpill_32 : decode cX6_findShortestSpill 32 = .ok (.invokevirtual 187, 3) := by decide +kernel
theorem dX6_findShortestSpill_35 : decode cX6_findShortestSpill 35 = .ok (.aload_n 0, 1) := by decide +kernel
theorem dX6_findShortestSpill_36 : decode cX6_findShortestSpill 36 = .ok (.aload_n 0, 1) := by decide +kernel
theorem dX6_findShortestSpill_37 : decode cX6_findShortestSpill 37 = .ok (.getfield 38, 3) := by decide +kernel
theorem dX6_findShortestSpill_40 : decode cX6_findShortestSpill 40 = .ok (.aload_n 0, 1) := by decide +kernel
theorem dX6_findShortestSpill_41 : decode cX6_findShortestSpill 41 = .ok (.getfield 21, 3) := by decide +kernel
theorem dX6_findShortestSpill_44 : decode cX6_findShortestSpill 44 = .ok (.getfield 90, 3) := by decide +kernel
theorem dX6_findShortestSpill_47 : decode cX6_findShortestSpill 47 = .ok (.iload_n 1, 1) := by decide +kernel
theorem dX6_findShortestSpill_48 : decode cX6_findShortestSpill 48 = .ok (.invokevirtual 136, 3) := by decide +kernel
theorem dX6_findShortestSpill_51 : decode cX6_findShortestSpill 51 = .ok (.istore 5, 2) := by decide +kernel
theorem dX6_findShortestSpill_53 : decode cX6_findShortestSpill 53 = .ok (.iload 5, 2) := by decide +kernel
theorem dX6_findShortestSpill_55 : decode cX6_findShortestSpill 55 = .ok (.iconst 1, 1) := by decide +kernel
theorem dX6_findShortestSpill_56 : decode cX6_findShortestSpill 56 = .ok (.if_icmp .eq 9, 3) := by decide +kernel
theorem dX6_findShortestSpill_59 : decode cX6_findShortestSpill 59 = .ok (.iload 5, 2) := by decide +kernel
theorem dX6_findShortestSpill_61 : decode cX6_findShortestSpill 61 = .ok (.iconst 2, 1) := by decide +kernel
theorem dX6_findShortestSpill_62 : decode cX6_findShortestSpill 62 = .ok (.if_icmp .ne 5, 3) := by decide +kernel
theorem dX6_findShortestSpill_65 : decode cX6_findShortestSpill 65 = .ok (.iconst 1, 1) := by decide +kernel
theorem dX6_findShortestSpill_66 : decode cX6_findShortestSpill 66 = .ok (.ireturn, 1) := by decide +kernel
theorem dX6_findShortestSpill_67 : decode cX6_findShortestSpill 67 = .ok (.aload_n 0, 1) := by decide +kernel
theorem dX6_findShortestSpill_68 : decode cX6_findShortestSpill 68 = .ok (.getfield 44, 3) := by decide +kernel
theorem dX6_findShortestSpill_71 : decode cX6_findShortestSpill 71 = .ok (.aload_n 0, 1) := by decide +kernel
theorem dX6_findShortestSpill_72 : decode cX6_findShortestSpill 72 = .ok (.getfield 14, 3) := by decide +kernel
theorem dX6_findShortestSpill_75 : decode cX6_findShortestSpill 75 = .ok (.invokevirtual 54, 3) := by decide +kernel
theorem dX6_findShortestSpill_78 : decode cX6_findShortestSpill 78 = .ok (.invokestatic 157, 3) := by decide +kernel
theorem dX6_findShortestSpill_81 : decode cX6_findShortestSpill 81 = .ok (.istore_n 3, 1) := by decide +kernel
theorem dX6_findShortestSpill_82 : decode cX6_findShortestSpill 82 = .ok (.iinc 4 1, 3) := by decide +kernel
theorem dX6_findShortestSpill_85 : decode cX6_findShortestSpill 85 = .ok (.goto (-66), 3) := by decide +kernel
theorem dX6_findShortestSpill_88 : decode cX6_findShortestSpill 88 = .ok (.iinc 2 1, 3) := by decide +kernel
theorem dX6_findShortestSpill_91 : decode cX6_findShortestSpill 91 = .ok (.goto (-89), 3) := by decide +kernel
theorem dX6_findShortestSpill_94 : decode cX6_findShortestSpill 94 = .ok (.iconst 0, 1) := by decide +kernel
theorem dX6_findShortestSpill_95 : decode cX6_findShortestSpill 95 = .ok (.ireturn, 1) := by decide +kernel
theorem dX6_spellTrial_0 : decode cX6_spellTrial 0 = .ok (.aload_n 0, 1) := by decide +kernel
theorem dX6_spellTrial_1 : decode cX6_spellTrial 1 = .ok (.getfield 38, 3) := by decide +kernel
theorem dX6_spellTrial_4 : decode cX6_spellTrial 4 = .ok (.invokevirtual 61, 3) := by decide +kernel
theorem dX6_spellTrial_7 : decode cX6_spellTrial 7 = .ok (.iconst 0, 1) := by decide +kernel
theorem dX6_spellTrial_8 : decode cX6_spellTrial 8 = .ok (.istore_n 1, 1) := by decide +kernel
theorem dX6_spellTrial_9 : decode cX6_spellTrial 9 = .ok (.iload_n 1, 1) := by decide +kernel
theorem dX6_spellTrial_10 : decode cX6_spellTrial 10 = .ok (.aload_n 0, 1) := by decide +kernel
theorem dX6_spellTrial_11 : decode cX6_spellTrial 11 = .ok (.getfield 44, 3) := by decide +kernel
theorem dX6_spellTrial_14 : decode cX6_spellTrial 14 = .ok (.invokevirtual 54, 3) := by decide +kernel
theorem dX6_spellTrial_17 : decode cX6_spellTrial 17 = .ok (.if_icmp .ge 31, 3) := by decide +kernel
theorem dX6_spellTrial_20 : decode cX6_spellTrial 20 = .ok (.aload_n 0, 1) := by decide +kernel
theorem dX6_spellTrial_21 : decode cX6_spellTrial 21 = .ok (.getfield 38, 3) := by decide +kernel
theorem dX6_spellTrial_24 : decode cX6_spellTrial 24 = .ok (.aload_n 0, 1) := by decide +kernel
theorem dX6_spellTrial_25 : decode cX6_spellTrial 25 = .ok (.getfield 14, 3) := by decide +kernel
theorem dX6_spellTrial_28 : decode cX6_spellTrial 28 = .ok (.aload_n 0, 1) := by decide +kernel
theorem dX6_spellTrial_29 : decode cX6_spellTrial 29 = .ok (.getfield 44, 3) := by decide +kernel
theorem dX6_spellTrial_32 : decode cX6_spellTrial 32 = .ok (.iload_n 1, 1) := by decide +kernel
theorem dX6_spellTrial_33 : decode cX6_spellTrial 33 = .ok (.invokevirtual 114, 3) := by decide +kernel
theorem dX6_spellTrial_36 : decode cX6_spellTrial 36 = .ok (.invokevirtual 114, 3) := by decide +kernel
theorem dX6_spellTrial_39 : decode cX6_spellTrial 39 = .ok (.invokevirtual 58, 3) := by decide +kernel
theorem dX6_spellTrial_42 : decode cX6_spellTrial 42 = .ok (.iinc 1 1, 3) := by decide +kernel
theorem dX6_spellTrial_45 : decode cX6_spellTrial 45 = .ok (.goto (-36), 3) := by decide +kernel
theorem dX6_spellTrial_48 : decode cX6_spellTrial 48 = .ok (.return_, 1) := by decide +kernel
theorem dX6_readsPadWholly_0 : decode cX6_readsPadWholly 0 = .ok (.iconst 0, 1) := by decide +kernel
theorem dX6_readsPadWholly_1 : decode cX6_readsPadWholly 1 = .ok (.istore_n 2, 1) := by decide +kernel
theorem dX6_readsPadWholly_2 : decode cX6_readsPadWholly 2 = .ok (.iload_n 2, 1) := by decide +kernel
theorem dX6_readsPadWholly_3 : decode cX6_readsPadWholly 3 = .ok (.aload_n 1, 1) := by decide +kernel
theorem dX6_readsPadWholly_4 : decode cX6_readsPadWholly 4 = .ok (.invokevirtual 54, 3) := by decide +kernel
theorem dX6_readsPadWholly_7 : decode cX6_readsPadWholly 7 = .ok (.if_icmp .ge 29, 3) := by decide +kernel
theorem dX6_readsPadWholly_10 : decode cX6_readsPadWholly 10 = .ok (.aload_n 0, 1) := by decide +kernel
theorem dX6_readsPadWholly_11 : decode cX6_readsPadWholly 11 = .ok (.getfield 21, 3) := by decide +kernel
theorem dX6_readsPadWholly_14 : decode cX6_readsPadWholly 14 = .ok (.aload_n 1, 1) := by decide +kernel
theorem dX6_readsPadWholly_15 : decode cX6_readsPadWholly 15 = .ok (.iload_n 2, 1) := by decide +kernel
theorem dX6_readsPadWholly_16 : decode cX6_readsPadWholly 16 = .ok (.invokevirtual 114, 3) := by decide +kernel
theorem dX6_readsPadWholly_19 : decode cX6_readsPadWholly 19 = .ok (.invokevirtual 73, 3) := by decide +kernel
theorem dX6_readsPadWholly_22 : decode cX6_readsPadWholly 22 = .ok (.invokevirtual 190, 3) := by decide +kernel
theorem dX6_readsPadWholly_25 : decode cX6_readsPadWholly 25 = .ok (.ifCond .eq 5, 3) := by decide +kernel
theorem dX6_readsPadWholly_28 : decode cX6_readsPadWholly 28 = .ok (.iconst 0, 1) := by decide +kernel
theorem dX6_readsPadWholly_29 : decode cX6_readsPadWholly 29 = .ok (.ireturn, 1) := by decide +kernel
theorem dX6_readsPadWholly_30 : decode cX6_readsPadWholly 30 = .ok (.iinc 2 1, 3) := by decide +kernel
theorem dX6_readsPadWholly_33 : decode cX6_readsPadWholly 33 = .ok (.goto (-31), 3) := by decide +kernel
theorem dX6_readsPadWholly_36 : decode cX6_readsPadWholly 36 = .ok (.aload_n 0, 1) := by decide +kernel
theorem dX6_readsPadWholly_37 : decode cX6_readsPadWholly 37 = .ok (.getfield 34, 3) := by decide +kernel
theorem dX6_readsPadWholly_40 : decode cX6_readsPadWholly 40 = .ok (.aload_n 0, 1) := by decide +kernel
theorem dX6_readsPadWholly_41 : decode cX6_readsPadWholly 41 = .ok (.getfield 14, 3) := by decide +kernel
theorem dX6_readsPadWholly_44 : decode cX6_readsPadWholly 44 = .ok (.invokevirtual 123, 3) := by decide +kernel
theorem dX6_readsPadWholly_47 : decode cX6_readsPadWholly 47 = .ok (.aload_n 0, 1) := by decide +kernel
theorem dX6_readsPadWholly_48 : decode cX6_readsPadWholly 48 = .ok (.getfield 34, 3) := by decide +kernel
theorem dX6_readsPadWholly_51 : decode cX6_readsPadWholly 51 = .ok (.aload_n 0, 1) := by decide +kernel
theorem dX6_readsPadWholly_52 : decode cX6_readsPadWholly 52 = .ok (.getfield 21, 3) := by decide +kernel
theorem dX6_readsPadWholly_55 : decode cX6_readsPadWholly 55 = .ok (.aload_n 1, 1) := by decide +kernel
theorem dX6_readsPadWholly_56 : decode cX6_readsPadWholly 56 = .ok (.invokevirtual 126, 3) := by decide +kernel
theorem dX6_readsPadWholly_59 : decode cX6_readsPadWholly 59 = .ok (.bipush (-6), 2) := by decide +kernel
theorem dX6_readsPadWholly_61 : decode cX6_readsPadWholly 61 = .ok (.if_icmp .ne 7, 3) := by decide +kernel
theorem dX6_readsPadWholly_64 : decode cX6_readsPadWholly 64 = .ok (.iconst 1, 1) := by decide +kernel
theorem dX6_readsPadWholly_65 : decode cX6_readsPadWholly 65 = .ok (.goto 4, 3) := by decide +kernel
theorem dX6_readsPadWholly_68 : decode cX6_readsPadWholly 68 = .ok (.iconst 0, 1) := by decide +kernel
theorem dX6_readsPadWholly_69 : decode cX6_readsPadWholly 69 = .ok (.ireturn, 1) := by decide +kernel
theorem dX6_asDigits_0 : decode cX6_asDigits 0 = .ok (.iconst 1, 1) := by decide +kernel
theorem dX6_asDigits_1 : decode cX6_asDigits 1 = .ok (.istore_n 1, 1) := by decide +kernel
theorem dX6_asDigits_2 : decode cX6_asDigits 2 = .ok (.iconst 0, 1) := by decide +kernel
theorem dX6_asDigits_3 : decode cX6_asDigits 3 = .ok (.istore_n 2, 1) := by decide +kernel
theorem dX6_asDigits_4 : decode cX6_asDigits 4 = .ok (.iload_n 2, 1) := by decide +kernel
theorem dX6_asDigits_5 : decode cX6_asDigits 5 = .ok (.aload_n 0, 1) := by decide +kernel
theorem dX6_asDigits_6 : decode cX6_asDigits 6 = .ok (.invokevirtual 54, 3) := by decide +kernel
theorem dX6_asDigits_9 : decode cX6_asDigits 9 = .ok (.if_icmp .ge 20, 3) := by decide +kernel
theorem dX6_asDigits_12 : decode cX6_asDigits 12 = .ok (.iload_n 1, 1) := by decide +kernel
theorem dX6_asDigits_13 : decode cX6_asDigits 13 = .ok (.bipush 10, 2) := by decide +kernel
theorem dX6_asDigits_15 : decode cX6_asDigits 15 = .ok (.imul, 1) := by decide +kernel
theorem dX6_asDigits_16 : decode cX6_asDigits 16 = .ok (.aload_n 0, 1) := by decide +kernel
theorem dX6_asDigits_17 : decode cX6_asDigits 17 = .ok (.iload_n 2, 1) := by decide +kernel
theorem dX6_asDigits_18 : decode cX6_asDigits 18 = .ok (.invokevirtual 114, 3) := by decide +kernel
theorem dX6_asDigits_21 : decode cX6_asDigits 21 = .ok (.iadd, 1) := by decide +kernel
theorem dX6_asDigits_22 : decode cX6_asDigits 22 = .ok (.istore_n 1, 1) := by decide +kernel
theorem dX6_asDigits_23 : decode cX6_asDigits 23 = .ok (.iinc 2 1, 3) := by decide +kernel
theorem dX6_asDigits_26 : decode cX6_asDigits 26 = .ok (.goto (-22), 3) := by decide +kernel
theorem dX6_asDigits_29 : decode cX6_asDigits 29 = .ok (.iload_n 1, 1) := by decide +kernel
theorem dX6_asDigits_30 : decode cX6_asDigits 30 = .ok (.ireturn, 1) := by decide +kernel
theorem dX6_findShortestOrder_0 : decode cX6_findShortestOrder 0 = .ok (.bipush (-6), 2) := by decide +kernel
theorem dX6_findShortestOrder_2 : decode cX6_findShortestOrder 2 = .ok (.istore_n 1, 1) := by decide +kernel
theorem dX6_findShortestOrder_3 : decode cX6_findShortestOrder 3 = .ok (.aload_n 0, 1) := by decide +kernel
theorem dX6_findShortestOrder_4 : decode cX6_findShortestOrder 4 = .ok (.getfield 47, 3) := by decide +kernel
theorem dX6_findShortestOrder_7 : decode cX6_findShortestOrder 7 = .ok (.invokevirtual 61, 3) := by decide +kernel
theorem dX6_findShortestOrder_10 : decode cX6_findShortestOrder 10 = .ok (.aload_n 0, 1) := by decide +kernel
theorem dX6_findShortestOrder_11 : decode cX6_findShortestOrder 11 = .ok (.getfield 44, 3) := by decide +kernel
theorem dX6_findShortestOrder_14 : decode cX6_findShortestOrder 14 = .ok (.invokevirtual 61, 3) := by decide +kernel
theorem dX6_findShortestOrder_17 : decode cX6_findShortestOrder 17 = .ok (.iconst 0, 1) := by decide +kernel
theorem dX6_findShortestOrder_18 : decode cX6_findShortestOrder 18 = .ok (.istore_n 2, 1) := by decide +kernel
theorem dX6_findShortestOrder_19 : decode cX6_findShortestOrder 19 = .ok (.iload_n 2, 1) := by decide +kernel
theorem dX6_findShortestOrder_20 : decode cX6_findShortestOrder 20 = .ok (.aload_n 0, 1) := by decide +kernel
theorem dX6_findShortestOrder_21 : decode cX6_findShortestOrder 21 = .ok (.getfield 21, 3) := by decide +kernel
theorem dX6_findShortestOrder_24 : decode cX6_findShortestOrder 24 = .ok (.getfield 90, 3) := by decide +kernel
theorem dX6_findShortestOrder_27 : decode cX6_findShortestOrder 27 = .ok (.invokevirtual 54, 3) := by decide +kernel
theorem dX6_findShortestOrder_30 : decode cX6_findShortestOrder 30 = .ok (.if_icmp .ge 17, 3) := by decide +kernel
theorem dX6_findShortestOrder_33 : decode cX6_findShortestOrder 33 = .ok (.aload_n 0, 1) := by decide +kernel
theorem dX6_findShortestOrder_34 : decode cX6_findShortestOrder 34 = .ok (.getfield 44, 3) := by decide +kernel
theorem dX6_findShortestOrder_37 : decode cX6_findShortestOrder 37 = .ok (.iload_n 2, 1) := by decide +kernel
theorem dX6_findShortestOrder_38 : decode cX6_findShortestOrder 38 = .ok (.invokevirtual 58, 3) := by decide +kernel
theorem dX6_findShortestOrder_41 : decode cX6_findShortestOrder 41 = .ok (.iinc 2 1, 3) := by decide +kernel
theorem dX6_findShortestOrder_44 : decode cX6_findShortestOrder 44 = .ok (.goto (-25), 3) := by decide +kernel
theorem dX6_findShortestOrder_47 : decode cX6_findShortestOrder 47 = .ok (.aload_n 0, 1) := by decide +kernel
theorem dX6_findShortestOrder_48 : decode cX6_findShortestOrder 48 = .ok (.getfield 44, 3) := by decide +kernel
theorem dX6_findShortestOrder_51 : decode cX6_findShortestOrder 51 = .ok (.invokevirtual 54, 3) := by decide +kernel
theorem dX6_findShortestOrder_54 : decode cX6_findShortestOrder 54 = .ok (.ifCond .le 7, 3) := by decide +kernel
theorem dX6_findShortestOrder_57 : decode cX6_findShortestOrder 57 = .ok (.iconst 1, 1) := by decide +kernel
theorem dX6_findShortestOrder_58 : decode cX6_findShortestOrder 58 = .ok (.goto 4, 3) := by decide +kernel
theorem dX6_findShortestOrder_61 : decode cX6_findShortestOrder 61 = .ok (.iconst 0, 1) := by decide +kernel
theorem dX6_findShortestOrder_62 : decode cX6_findShortestOrder 62 = .ok (.istore_n 2, 1) := by decide +kernel
theorem dX6_findShortestOrder_63 : decode cX6_findShortestOrder 63 = .ok (.iconst 0, 1) := by decide +kernel
theorem dX6_findShortestOrder_64 : decode cX6_findShortestOrder 64 = .ok (.istore_n 3, 1) := by decide +kernel
theorem dX6_findShortestOrder_65 : decode cX6_findShortestOrder 65 = .ok (.iload_n 2, 1) := by decide +kernel
theorem dX6_findShortestOrder_66 : decode cX6_findShortestOrder 66 = .ok (.ifCond .eq 64, 3) := by decide +kernel
theorem dX6_findShortestOrder_69 : decode cX6_findShortestOrder 69 = .ok (.iload_n 3, 1) := by decide +kernel
theorem dX6_findShortestOrder_70 : decode cX6_findShortestOrder 70 = .ok (.bipush 120, 2) := by decide +kernel
theorem dX6_findShortestOrder_72 : decode cX6_findShortestOrder 72 = .ok (.if_icmp .ge 58, 3) := by decide +kernel
theorem dX6_findShortestOrder_75 : decode cX6_findShortestOrder 75 = .ok (.aload_n 0, 1) := by decide +kernel
theorem dX6_findShortestOrder_76 : decode cX6_findShortestOrder 76 = .ok (.aload_n 0, 1) := by decide +kernel
theorem dX6_findShortestOrder_77 : decode cX6_findShortestOrder 77 = .ok (.getfield 44, 3) := by decide +kernel
theorem dX6_findShortestOrder_80 : decode cX6_findShortestOrder 80 = .ok (.invokevirtual 193, 3) := by decide +kernel
theorem dX6_findShortestOrder_83 : decode cX6_findShortestOrder 83 = .ok (.istore 4, 2) := by decide +kernel
theorem dX6_findShortestOrder_85 : decode cX6_findShortestOrder 85 = .ok (.iload 4, 2) := by decide +kernel
theorem dX6_findShortestOrder_87 : decode cX6_findShortestOrder 87 = .ok (.ifCond .lt 29, 3) := by decide +kernel
theorem dX6_findShortestOrder_90 : decode cX6_findShortestOrder 90 = .ok (.iload_n 1, 1) := by decide +kernel
theorem dX6_findShortestOrder_91 : decode cX6_findShortestOrder 91 = .ok (.bipush (-6), 2) := by decide +kernel
theorem dX6_findShortestOrder_93 : decode cX6_findShortestOrder 93 = .ok (.if_icmp .eq 9, 3) := by decide +kernel
theorem dX6_findShortestOrder_96 : decode cX6_findShortestOrder 96 = .ok (.iload 4, 2) := by decide +kernel
theorem dX6_findShortestOrder_98 : decode cX6_findShortestOrder 98 = .ok (.iload_n 1, 1) := by decide +kernel
theorem dX6_findShortestOrder_99 : decode cX6_findShortestOrder 99 = .ok (.if_icmp .ge 17, 3) := by decide +kernel
theorem dX6_findShortestOrder_102 : decode cX6_findShortestOrder 102 = .ok (.iload 4, 2) := by decide +kernel
theorem dX6_findShortestOrder_104 : decode cX6_findShortestOrder 104 = .ok (.istore_n 1, 1) := by decide +kernel
theorem dX6_findShortestOrder_105 : decode cX6_findShortestOrder 105 = .ok (.aload_n 0, 1) := by decide +kernel
theorem dX6_findShortestOrder_106 : decode cX6_findShortestOrder 106 = .ok (.getfield 47, 3) := by decide +kernel
theorem dX6_findShortestOrder_109 : decode cX6_findShortestOrder 109 = .ok (.aload_n 0, 1) := by decide +kernel
theorem dX6_findShortestOrder_110 : decode cX6_findShortestOrder 110 = .ok (.getfield 44, 3) := by decide +kernel
theorem dX6_findShortestOrder_113 : decode cX6_findShortestOrder 113 = .ok (.invokevirtual 99, 3) := by decide +kernel
theorem dX6_findShortestOrder_116 : decode cX6_findShortestOrder 116 = .ok (.aload_n 0, 1) := by decide +kernel
theorem dX6_findShortestOrder_117 : decode cX6_findShortestOrder 117 = .ok (.getfield 44, 3) := by decide +kernel
theorem dX6_findShortestOrder_120 : decode cX6_findShortestOrder 120 = .ok (.invokestatic 196, 3) := by decide +kernel
theorem dX6_findShortestOrder_123 : decode cX6_findShortestOrder 123 = .ok (.istore_n 2, 1) := by decide +kernel
theorem dX6_findShortestOrder_124 : decode cX6_findShortestOrder 124 = .ok (.iinc 3 1, 3) := by decide +kernel
theorem dX6_findShortestOrder_127 : decode cX6_findShortestOrder 127 = .ok (.goto (-62), 3) := by decide +kernel
theorem dX6_findShortestOrder_130 : decode cX6_findShortestOrder 130 = .ok (.iload_n 1, 1) := by decide +kernel
theorem dX6_findShortestOrder_131 : decode cX6_findShortestOrder 131 = .ok (.ireturn, 1) := by decide +kernel
theorem dX6_lengthInOrder_0 : decode cX6_lengthInOrder 0 = .ok (.aload_n 0, 1) := by decide +kernel
theorem dX6_lengthInOrder_1 : decode cX6_lengthInOrder 1 = .ok (.getfield 41, 3) := by decide +kernel
theorem dX6_lengthInOrder_4 : decode cX6_lengthInOrder 4 = .ok (.invokevirtual 61, 3) := by decide +kernel
theorem dX6_lengthInOrder_7 : decode cX6_lengthInOrder 7 = .ok (.iconst 0, 1) := by decide +kernel
theorem dX6_lengthInOrder_8 : decode cX6_lengthInOrder 8 = .ok (.istore_n 2, 1) := by decide +kernel
theorem dX6_lengthInOrder_9 : decode cX6_lengthInOrder 9 = .ok (.iload_n 2, 1) := by decide +kernel
theorem dX6_lengthInOrder_10 : decode cX6_lengthInOrder 10 = .ok (.aload_n 1, 1) := by decide +kernel
theorem dX6_lengthInOrder_11 : decode cX6_lengthInOrder 11 = .ok (.invokevirtual 54, 3) := by decide +kernel
theorem dX6_lengthInOrder_14 : decode cX6_lengthInOrder 14 = .ok (.if_icmp .ge 31, 3) := by decide +kernel
theorem dX6_lengthInOrder_17 : decode cX6_lengthInOrder 17 = .ok (.aload_n 0, 1) := by decide +kernel
theorem dX6_lengthInOrder_18 : decode cX6_lengthInOrder 18 = .ok (.getfield 41, 3) := by decide +kernel
theorem dX6_lengthInOrder_21 : decode cX6_lengthInOrder 21 = .ok (.aload_n 0, 1) := by decide +kernel
theorem dX6_lengthInOrder_22 : decode cX6_lengthInOrder 22 = .ok (.getfield 21, 3) := by decide +kernel
theorem dX6_lengthInOrder_25 : decode cX6_lengthInOrder 25 = .ok (.getfield 90, 3) := by decide +kernel
theorem dX6_lengthInOrder_28 : decode cX6_lengthInOrder 28 = .ok (.aload_n 1, 1) := by decide +kernel
theorem dX6_lengthInOrder_29 : decode cX6_lengthInOrder 29 = .ok (.iload_n 2, 1) := by decide +kernel
theorem dX6_lengthInOrder_30 : decode cX6_lengthInOrder 30 = .ok (.invokevirtual 114, 3) := by decide +kernel
theorem dX6_lengthInOrder_33 : decode cX6_lengthInOrder 33 = .ok (.invokevirtual 114, 3) := by decide +kernel
theorem dX6_lengthInOrder_36 : decode cX6_lengthInOrder 36 = .ok (.invokevirtual 58, 3) := by decide +kernel
theorem dX6_lengthInOrder_39 : decode cX6_lengthInOrder 39 = .ok (.iinc 2 1, 3) := by decide +kernel
theorem dX6_lengthInOrder_42 : decode cX6_lengthInOrder 42 = .ok (.goto (-33), 3) := by decide +kernel
theorem dX6_lengthInOrder_45 : decode cX6_lengthInOrder 45 = .ok (.aload_n 0, 1) := by decide +kernel
theorem dX6_lengthInOrder_46 : decode cX6_lengthInOrder 46 = .ok (.getfield 34, 3) := by decide +kernel
theorem dX6_lengthInOrder_49 : decode cX6_lengthInOrder 49 = .ok (.aload_n 0, 1) := by decide +kernel
theorem dX6_lengthInOrder_50 : decode cX6_lengthInOrder 50 = .ok (.getfield 21, 3) := by decide +kernel
theorem dX6_lengthInOrder_53 : decode cX6_lengthInOrder 53 = .ok (.aload_n 0, 1) := by decide +kernel
theorem dX6_lengthInOrder_54 : decode cX6_lengthInOrder 54 = .ok (.getfield 41, 3) := by decide +kernel
theorem dX6_lengthInOrder_57 : decode cX6_lengthInOrder 57 = .ok (.aload_n 0, 1) := by decide +kernel
theorem dX6_lengthInOrder_58 : decode cX6_lengthInOrder 58 = .ok (.getfield 21, 3) := by decide +kernel
theorem dX6_lengthInOrder_61 : decode cX6_lengthInOrder 61 = .ok (.getfield 96, 3) := by decide +kernel
theorem dX6_lengthInOrder_64 : decode cX6_lengthInOrder 64 = .ok (.bipush (-6), 2) := by decide +kernel
theorem dX6_lengthInOrder_66 : decode cX6_lengthInOrder 66 = .ok (.invokevirtual 106, 3) := by decide +kernel
theorem dX6_lengthInOrder_69 : decode cX6_lengthInOrder 69 = .ok (.ireturn, 1) := by decide +kernel
theorem dX7_init_0 : decode cX7_init 0 = .ok (.aload_n 0, 1) := by decide +kernel
theorem dX7_init_1 : decode cX7_init 1 = .ok (.invokespecial 1, 3) := by decide +kernel
theorem dX7_init_4 : decode cX7_init 4 = .ok (.aload_n 0, 1) := by decide +kernel
theorem dX7_init_5 : decode cX7_init 5 = .ok (.bipush 60, 2) := by decide +kernel
theorem dX7_init_7 : decode cX7_init 7 = .ok (.newarray .int, 2) := by decide +kernel
theorem dX7_init_9 : decode cX7_init 9 = .ok (.putfield 7, 3) := by decide +kernel
theorem dX7_init_12 : decode cX7_init 12 = .ok (.aload_n 0, 1) := by decide +kernel
theorem dX7_init_13 : decode cX7_init 13 = .ok (.iconst 5, 1) := by decide +kernel
theorem dX7_init_14 : decode cX7_init 14 = .ok (.newarray .int, 2) := by decide +kernel
theorem dX7_init_16 : decode cX7_init 16 = .ok (.putfield 13, 3) := by decide +kernel
theorem dX7_init_19 : decode cX7_init 19 = .ok (.aload_n 0, 1) := by decide +kernel
theorem dX7_init_20 : decode cX7_init 20 = .ok (.iconst 5, 1) := by decide +kernel
theorem dX7_init_21 : decode cX7_init 21 = .ok (.newarray .int, 2) := by decide +kernel
theorem dX7_init_23 : decode cX7_init 23 = .ok (.putfield 16, 3) := by decide +kernel
theorem dX7_init_26 : decode cX7_init 26 = .ok (.aload_n 0, 1) := by decide +kernel
theorem dX7_init_27 : decode cX7_init 27 = .ok (.iconst 5, 1) := by decide +kernel
theorem dX7_init_28 : decode cX7_init 28 = .ok (.newarray .int, 2) := by decide +kernel
theorem dX7_init_30 : decode cX7_init 30 = .ok (.putfield 19, 3) := by decide +kernel
theorem dX7_init_33 : decode cX7_init 33 = .ok (.aload_n 0, 1) := by decide +kernel
theorem dX7_init_34 : decode cX7_init 34 = .ok (.iconst 5, 1) := by decide +kernel
theorem dX7_init_35 : decode cX7_init 35 = .ok (.newarray .int, 2) := by decide +kernel
theorem dX7_init_37 : decode cX7_init 37 = .ok (.putfield 22, 3) := by decide +kernel
theorem dX7_init_40 : decode cX7_init 40 = .ok (.aload_n 0, 1) := by decide +kernel
theorem dX7_init_41 : decode cX7_init 41 = .ok (.bipush 30, 2) := by decide +kernel
theorem dX7_init_43 : decode cX7_init 43 = .ok (.newarray .int, 2) := by decide +kernel
theorem dX7_init_45 : decode cX7_init 45 = .ok (.putfield 25, 3) := by decide +kernel
theorem dX7_init_48 : decode cX7_init 48 = .ok (.aload_n 0, 1) := by decide +kernel
theorem dX7_init_49 : decode cX7_init 49 = .ok (.iconst 5, 1) := by decide +kernel
theorem dX7_init_50 : decode cX7_init 50 = .ok (.newarray .int, 2) := by decide +kernel
theorem dX7_init_52 : decode cX7_init 52 = .ok (.putfield 28, 3) := by decide +kernel
theorem dX7_init_55 : decode cX7_init 55 = .ok (.aload_n 0, 1) := by decide +kernel
theorem dX7_init_56 : decode cX7_init 56 = .ok (.iconst 1, 1) := by decide +kernel
theorem dX7_init_57 : decode cX7_init 57 = .ok (.putfield 31, 3) := by decide +kernel
theorem dX7_init_60 : decode cX7_init 60 = .ok (.aload_n 0, 1) := by decide +kernel
theorem dX7_init_61 : decode cX7_init 61 = .ok (.bipush 12, 2) := by decide +kernel
theorem dX7_init_63 : decode cX7_init 63 = .ok (.newarray .int, 2) := by decide +kernel
theorem dX7_init_65 : decode cX7_init 65 = .ok (.putfield 35, 3) := by decide +kernel
theorem dX7_init_68 : decode cX7_init 68 = .ok (.aload_n 0, 1) := by decide +kernel
theorem dX7_init_69 : decode cX7_init 69 = .ok (.sipush 400, 3) := by decide +kernel
theorem dX7_init_72 : decode cX7_init 72 = .ok (.newarray .int, 2) := by decide +kernel
theorem dX7_init_74 : decode cX7_init 74 = .ok (.putfield 38, 3) := by decide +kernel
theorem dX7_init_77 : decode cX7_init 77 = .ok (.aload_n 0, 1) := by decide +kernel
theorem dX7_init_78 : decode cX7_init 78 = .ok (.sipush 1300, 3) := by decide +kernel
theorem dX7_init_81 : decode cX7_init 81 = .ok (.newarray .int, 2) := by decide +kernel
theorem dX7_init_83 : decode cX7_init 83 = .ok (.putfield 41, 3) := by decide +kernel
theorem dX7_init_86 : decode cX7_init 86 = .ok (.aload_n 0, 1) := by decide +kernel
theorem dX7_init_87 : decode cX7_init 87 = .ok (.bipush 12, 2) := by decide +kernel
theorem dX7_init_89 : decode cX7_init 89 = .ok (.newarray .int, 2) := by decide +kernel
theorem dX7_init_91 : decode cX7_init 91 = .ok (.putfield 44, 3) := by decide +kernel
theorem dX7_init_94 : decode cX7_init 94 = .ok (.aload_n 0, 1) := by decide +kernel
theorem dX7_init_95 : decode cX7_init 95 = .ok (.iconst 5, 1) := by decide +kernel
theorem dX7_init_96 : decode cX7_init 96 = .ok (.newarray .int, 2) := by decide +kernel
theorem dX7_init_98 : decode cX7_init 98 = .ok (.putfield 47, 3) := by decide +kernel
theorem dX7_init_101 : decode cX7_init 101 = .ok (.aload_n 0, 1) := by decide +kernel
theorem dX7_init_102 : decode cX7_init 102 = .ok (.iconst 5, 1) := by decide +kernel
theorem dX7_init_103 : decode cX7_init 103 = .ok (.newarray .int, 2) := by decide +kernel
theorem dX7_init_105 : decode cX7_init 105 = .ok (.putfield 50, 3) := by decide +kernel
theorem dX7_init_108 : decode cX7_init 108 = .ok (.aload_n 0, 1) := by decide +kernel
theorem dX7_init_109 : decode cX7_init 109 = .ok (.iconst 5, 1) := by decide +kernel
theorem dX7_init_110 : decode cX7_init 110 = .ok (.newarray .int, 2) := by decide +kernel
theorem dX7_init_112 : decode cX7_init 112 = .ok (.putfield 53, 3) := by decide +kernel
theorem dX7_init_115 : decode cX7_init 115 = .ok (.aload_n 0, 1) := by decide +kernel
theorem dX7_init_116 : decode cX7_init 116 = .ok (.sipush 140, 3) := by decide +kernel
theorem dX7_init_119 : decode cX7_init 119 = .ok (.newarray .int, 2) := by decide +kernel
theorem dX7_init_121 : decode cX7_init 121 = .ok (.putfield 56, 3) := by decide +kernel
theorem dX7_init_124 : decode cX7_init 124 = .ok (.aload_n 0, 1) := by decide +kernel
theorem dX7_init_125 : decode cX7_init 125 = .ok (.iconst 2, 1) := by decide +kernel
theorem dX7_init_126 : decode cX7_init 126 = .ok (.newarray .boolean, 2) := by decide +kernel
theorem dX7_init_128 : decode cX7_init 128 = .ok (.putfield 59, 3) := by decide +kernel
theorem dX7_init_131 : decode cX7_init 131 = .ok (.iconst 0, 1) := by decide +kernel
theorem dX7_init_132 : decode cX7_init 132 = .ok (.istore_n 1, 1) := by decide +kernel
theorem dX7_init_133 : decode cX7_init 133 = .ok (.iload_n 1, 1) := by decide +kernel
theorem dX7_init_134 : decode cX7_init 134 = .ok (.iconst 5, 1) := by decide +kernel
theorem dX7_init_135 : decode cX7_init 135 = .ok (.if_icmp .ge 25, 3) := by decide +kernel
theorem dX7_init_138 : decode cX7_init 138 = .ok (.aload_n 0, 1) := by decide +kernel
theorem dX7_init_139 : decode cX7_init 139 = .ok (.getfield 13, 3) := by decide +kernel
theorem dX7_init_142 : decode cX7_init 142 = .ok (.iload_n 1, 1) := by decide +kernel
theorem dX7_init_143 : decode cX7_init 143 = .ok (.bipush 45, 2) := by decide +kernel
theorem dX7_init_145 : decode cX7_init 145 = .ok (.iastore, 1) := by decide +kernel
theorem dX7_init_146 : decode cX7_init 146 = .ok (.aload_n 0, 1) := by decide +kernel
theorem dX7_init_147 : decode cX7_init 147 = .ok (.getfield 19, 3) := by decide +kernel
theorem dX7_init_150 : decode cX7_init 150 = .ok (.iload_n 1, 1) := by decide +kernel
theorem dX7_init_151 : decode cX7_init 151 = .ok (.bipush (-6), 2) := by decide +kernel
theorem dX7_init_153 : decode cX7_init 153 = .ok (.iastore, 1) := by decide +kernel
theorem dX7_init_154 : decode cX7_init 154 = .ok (.iinc 1 1, 3) := by decide +kernel
theorem dX7_init_157 : decode cX7_init 157 = .ok (.goto (-24), 3) := by decide +kernel
theorem dX7_init_160 : decode cX7_init 160 = .ok (.aload_n 0, 1) := by decide +kernel
theorem dX7_init_161 : decode cX7_init 161 = .ok (.getfield 35, 3) := by decide +kernel
theorem dX7_init_164 : decode cX7_init 164 = .ok (.iconst 0, 1) := by decide +kernel
theorem dX7_init_165 : decode cX7_init 165 = .ok (.bipush 120, 2) := by decide +kernel
theorem dX7_init_167 : decode cX7_init 167 = .ok (.iastore, 1) := by decide +kernel
theorem dX7_init_168 : decode cX7_init 168 = .ok (.return_, 1) := by decide +kernel
theorem dX7_in_0 : decode cX7_in 0 = .ok (.iload_n 0, 1) := by decide +kernel
theorem dX7_in_1 : decode cX7_in 1 = .ok (.iload_n 1, 1) := by decide +kernel
theorem dX7_in_2 : decode cX7_in 2 = .ok (.if_icmp .lt 12, 3) := by decide +kernel
theorem dX7_in_5 : decode cX7_in 5 = .ok (.iload_n 0, 1) := by decide +kernel
theorem dX7_in_6 : decode cX7_in 6 = .ok (.iload_n 2, 1) := by decide +kernel
theorem dX7_in_7 : decode cX7_in 7 = .ok (.if_icmp .gt 7, 3) := by decide +kernel
theorem dX7_in_10 : decode cX7_in 10 = .ok (.iconst 1, 1) := by decide +kernel
theorem dX7_in_11 : decode cX7_in 11 = .ok (.goto 4, 3) := by decide +kernel
theorem dX7_in_14 : decode cX7_in 14 = .ok (.iconst 0, 1) := by decide +kernel
theorem dX7_in_15 : decode cX7_in 15 = .ok (.ireturn, 1) := by decide +kernel
theorem dX7_isLayer_0 : decode cX7_isLayer 0 = .ok (.iload_n 0, 1) := by decide +kernel
theorem dX7_isLayer_1 : decode cX7_isLayer 1 = .ok (.iconst 0, 1) := by decide +kernel
theorem dX7_isLayer_2 : decode cX7_isLayer 2 = .ok (.iconst 4, 1) := by decide +kernel
theorem dX7_isLayer_3 : decode cX7_isLayer 3 = .ok (.invokestatic 63, 3) := by decide +kernel
theorem dX7_isLayer_6 : decode cX7_isLayer 6 = .ok (.ireturn, 1) := by decide +kernel
theorem dX7_say_0 : decode cX7_say 0 = .ok (.iload_n 1, 1) := by decide +kernel
theorem dX7_say_1 : decode cX7_say 1 = .ok (.bipush 33, 2) := by decide +kernel
theorem dX7_say_3 : decode cX7_say 3 = .ok (.bipush 126, 2) := by decide +kernel
theorem dX7_say_5 : decode cX7_say 5 = .ok (.invokestatic 63, 3) := by decide +kernel
theorem dX7_say_8 : decode cX7_say 8 = .ok (.ifCond .ne 6, 3) := by decide +kernel
theorem dX7_say_11 : decode cX7_say 11 = .ok (.bipush (-2), 2) := by decide +kernel
theorem dX7_say_13 : decode cX7_say 13 = .ok (.ireturn, 1) := by decide +kernel
theorem dX7_say_14 : decode cX7_say 14 = .ok (.aload_n 0, 1) := by decide +kernel
theorem dX7_say_15 : decode cX7_say 15 = .ok (.getfield 67, 3) := by decide +kernel
theorem dX7_say_18 : decode cX7_say 18 = .ok (.bipush 60, 2) := by decide +kernel
theorem dX7_say_20 : decode cX7_say 20 = .ok (.if_icmp .ne 6, 3) := by decide +kernel
theorem dX7_say_23 : decode cX7_say 23 = .ok (.bipush (-4), 2) := by decide +kernel
theorem dX7_say_25 : decode cX7_say 25 = .ok (.ireturn, 1) := by decide +kernel
theorem dX7_say_26 : decode cX7_say 26 = .ok (.aload_n 0, 1) := by decide +kernel
theorem dX7_say_27 : decode cX7_say 27 = .ok (.getfield 7, 3) := by decide +kernel
theorem dX7_say_30 : decode cX7_say 30 = .ok (.aload_n 0, 1) := by decide +kernel
theorem dX7_say_31 : decode cX7_say 31 = .ok (.getfield 67, 3) := by decide +kernel
theorem dX7_say_34 : decode cX7_say 34 = .ok (.iload_n 1, 1) := by decide +kernel
theorem dX7_say_35 : decode cX7_say 35 = .ok (.iastore, 1) := by decide +kernel
theorem dX7_say_36 : decode cX7_say 36 = .ok (.aload_n 0, 1) := by decide +kernel
theorem dX7_say_37 : decode cX7_say 37 = .ok (.dup, 1) := by decide +kernel
theorem dX7_say_38 : decode cX7_say 38 = .ok (.getfield 67, 3) := by decide +kernel
theorem dX7_say_41 : decode cX7_say 41 = .ok (.iconst 1, 1) := by decide +kernel
theorem dX7_say_42 : decode cX7_say 42 = .ok (.iadd, 1) := by decide +kernel
theorem dX7_say_43 : decode cX7_say 43 = .ok (.putfield 67, 3) := by decide +kernel
theorem dX7_say_46 : decode cX7_say 46 = .ok (.aload_n 0, 1) := by decide +kernel
theorem dX7_say_47 : decode cX7_say 47 = .ok (.getfield 67, 3) := by decide +kernel
theorem dX7_say_50 : decode cX7_say 50 = .ok (.ireturn, 1) := by decide +kernel
theorem dX7_wipe_0 : decode cX7_wipe 0 = .ok (.aload_n 0, 1) := by decide +kernel
theorem dX7_wipe_1 : decode cX7_wipe 1 = .ok (.getfield 67, 3) := by decide +kernel
theorem dX7_wipe_4 : decode cX7_wipe 4 = .ok (.istore_n 1, 1) := by decide +kernel
theorem dX7_wipe_5 : decode cX7_wipe 5 = .ok (.aload_n 0, 1) := by decide +kernel
theorem dX7_wipe_6 : decode cX7_wipe 6 = .ok (.iconst 0, 1) := by decide +kernel
theorem dX7_wipe_7 : decode cX7_wipe 7 = .ok (.putfield 67, 3) := by decide +kernel
theorem dX7_wipe_10 : decode cX7_wipe 10 = .ok (.iload_n 1, 1) := by decide +kernel
theorem dX7_wipe_11 : decode cX7_wipe 11 = .ok (.ireturn, 1) := by decide +kernel
theorem dX7_isDigit_0 : decode cX7_isDigit 0 = .ok (.iload_n 0, 1) := by decide +kernel
theorem dX7_isDigit_1 : decode cX7_isDigit 1 = .ok (.bipush 48, 2) := by decide +kernel
theorem dX7_isDigit_3 : decode cX7_isDigit 3 = .ok (.bipush 57, 2) := by decide +kernel
theorem dX7_isDigit_5 : decode cX7_isDigit 5 = .ok (.invokestatic 63, 3) := by decide +kernel
theorem dX7_isDigit_8 : decode cX7_isDigit 8 = .ok (.ifCond .ne 14, 3) := by decide +kernel
theorem dX7_isDigit_11 : decode cX7_isDigit 11 = .ok (.iload_n 0, 1) := by decide +kernel
theorem dX7_isDigit_12 : decode cX7_isDigit 12 = .ok (.bipush 97, 2) := by decide +kernel
theorem dX7_isDigit_14 : decode cX7_isDigit 14 = .ok (.bipush 102, 2) := by decide +kernel
theorem dX7_isDigit_16 : decode cX7_isDigit 16 = .ok (.invokestatic 63, 3) := by decide +kernel
theorem dX7_isDigit_19 : decode cX7_isDigit 19 = .ok (.ifCond .eq 7, 3) := by decide +kernel
theorem dX7_isDigit_22 : decode cX7_isDigit 22 = .ok (.iconst 1, 1) := by decide +kernel
theorem dX7_isDigit_23 : decode cX7_isDigit 23 = .ok (.goto 4, 3) := by decide +kernel
theorem dX7_isDigit_26 : decode cX7_isDigit 26 = .ok (.iconst 0, 1) := by decide +kernel
theorem dX7_isDigit_27 : decode cX7_isDigit 27 = .ok (.ireturn, 1) := by decide +kernel
theorem dX7_isNew_0 : decode cX7_isNew 0 = .ok (.aload_n 0, 1) := by decide +kernel
theorem dX7_isNew_1 : decode cX7_isNew 1 = .ok (.getfield 7, 3) := by decide +kernel
theorem dX7_isNew_4 : decode cX7_isNew 4 = .ok (.iload_n 1, 1) := by decide +kernel
theorem dX7_isNew_5 : decode cX7_isNew 5 = .ok (.iaload, 1) := by decide +kernel
theorem dX7_isNew_6 : decode cX7_isNew 6 = .ok (.invokestatic 70, 3) := by decide +kernel
theorem dX7_isNew_9 : decode cX7_isNew 9 = .ok (.ifCond .ne 22, 3) := by decide +kernel
theorem dX7_isNew_12 : decode cX7_isNew 12 = .ok (.aload_n 0, 1) := by decide +kernel
theorem dX7_isNew_13 : decode cX7_isNew 13 = .ok (.getfield 7, 3) := by decide +kernel
theorem dX7_isNew_16 : decode cX7_isNew 16 = .ok (.iload_n 1, 1) := by decide +kernel
theorem dX7_isNew_17 : decode cX7_isNew 17 = .ok (.iaload, 1) := by decide +kernel
theorem dX7_isNew_18 : decode cX7_isNew 18 = .ok (.bipush 45, 2) := by decide +kernel
theorem dX7_isNew_20 : decode cX7_isNew 20 = .ok (.if_icmp .ne 7, 3) := by decide +kernel
theorem dX7_isNew_23 : decode cX7_isNew 23 = .ok (.iload_n 1, 1) := by decide +kernel
theorem dX7_isNew_24 : decode cX7_isNew 24 = .ok (.ifCond .ne 7, 3) := by decide +kernel
theorem dX7_isNew_27 : decode cX7_isNew 27 = .ok (.iconst 1, 1) := by decide +kernel
theorem dX7_isNew_28 : decode cX7_isNew 28 = .ok (.goto 4, 3) := by decide +kernel
theorem dX7_isNew_31 : decode cX7_isNew 31 = .ok (.iconst 0, 1) := by decide +kernel
theorem dX7_isNew_32 : decode cX7_isNew 32 = .ok (.istore_n 2, 1) := by decide +kernel
theorem dX7_isNew_33 : decode cX7_isNew 33 = .ok (.iconst 0, 1) := by decide +kernel
theorem dX7_isNew_34 : decode cX7_isNew 34 = .ok (.istore_n 3, 1) := by decide +kernel
theorem dX7_isNew_35 : decode cX7_isNew 35 = .ok (.iload_n 3, 1) := by decide +kernel
theorem dX7_isNew_36 : decode cX7_isNew 36 = .ok (.iload_n 1, 1) := by decide +kernel
theorem dX7_isNew_37 : decode cX7_isNew 37 = .ok (.if_icmp .ge 39, 3) := by decide +kernel
theorem dX7_isNew_40 : decode cX7_isNew 40 = .ok (.iload_n 2, 1) := by decide +kernel
theorem dX7_isNew_41 : decode cX7_isNew 41 = .ok (.ifCond .eq 27, 3) := by decide +kernel
theorem dX7_isNew_44 : decode cX7_isNew 44 = .ok (.iload_n 3, 1) := by decide +kernel
theorem dX7_isNew_45 : decode cX7_isNew 45 = .ok (.iconst 1, 1) := by decide +kernel
theorem dX7_isNew_46 : decode cX7_isNew 46 = .ok (.if_icmp .eq 18, 3) := by decide +kernel
theorem dX7_isNew_49 : decode cX7_isNew 49 = .ok (.aload_n 0, 1) := by decide +kernel
theorem dX7_isNew_50 : decode cX7_isNew 50 = .ok (.getfield 7, 3) := by decide +kernel
theorem dX7_isNew_53 : decode cX7_isNew 53 = .ok (.iload_n 3, 1) := by decide +kernel
theorem dX7_isNew_54 : decode cX7_isNew 54 = .ok (.iaload, 1) := by decide +kernel
theorem dX7_isNew_55 : decode cX7_isNew 55 = .ok (.aload_n 0, 1) := by decide +kernel
theorem dX7_isNew_56 : decode cX7_isNew 56 = .ok (.getfield 7, 3) := by decide +kernel
theorem dX7_isNew_59 : decode cX7_isNew 59 = .ok (.iload_n 1, 1) := by decide +kernel
theorem dX7_isNew_60 : decode cX7_isNew 60 = .ok (.iaload, 1) := by decide +kernel
theorem dX7_isNew_61 : decode cX7_isNew 61 = .ok (.if_icmp .eq 7, 3) := by decide +kernel
theorem dX7_isNew_64 : decode cX7_isNew 64 = .ok (.iconst 1, 1) := by decide +kernel
theorem dX7_isNew_65 : decode cX7_isNew 65 = .ok (.goto 4, 3) := by decide +kernel
theorem dX7_isNew_68 : decode cX7_isNew 68 = .ok (.iconst 0, 1) := by decide +kernel
theorem dX7_isNew_69 : decode cX7_isNew 69 = .ok (.istore_n 2, 1) := by decide +kernel
theorem dX7_isNew_70 : decode cX7_isNew 70 = .ok (.iinc 3 1, 3) := by decide +kernel
theorem dX7_isNew_73 : decode cX7_isNew 73 = .ok (.goto (-38), 3) := by decide +kernel
theorem dX7_isNew_76 : decode cX7_isNew 76 = .ok (.iload_n 2, 1) := by decide +kernel
theorem dX7_isNew_77 : decode cX7_isNew 77 = .ok (.ireturn, 1) := by decide +kernel
theorem dX7_faultOf_0 : decode cX7_faultOf 0 = .ok (.iconst 0, 1) := by decide +kernel
theorem dX7_faultOf_1 : decode cX7_faultOf 1 = .ok (.istore_n 1, 1) := by decide +kernel
theorem dX7_faultOf_2 : decode cX7_faultOf 2 = .ok (.iload_n 1, 1) := by decide +kernel
theorem dX7_faultOf_3 : decode cX7_faultOf 3 = .ok (.aload_n 0, 1) := by decide +kernel
theorem dX7_faultOf_4 : decode cX7_faultOf 4 = .ok (.getfield 67, 3) := by decide +kernel
theorem dX7_faultOf_7 : decode cX7_faultOf 7 = .ok (.if_icmp .ge 157, 3) := by decide +kernel
theorem dX7_faultOf_10 : decode cX7_faultOf 10 = .ok (.iload_n 1, 1) := by decide +kernel
theorem dX7_faultOf_11 : decode cX7_faultOf 11 = .ok (.iconst 1, 1) := by decide +kernel
theorem dX7_faultOf_12 : decode cX7_faultOf 12 = .ok (.if_icmp .ne 50, 3) := by decide +kernel
theorem dX7_faultOf_15 : decode cX7_faultOf 15 = .ok (.aload_n 0, 1) := by decide +kernel
theorem dX7_faultOf_16 : decode cX7_faultOf 16 = .ok (.getfield 7, 3) := by decide +kernel
theorem dX7_faultOf_19 : decode cX7_faultOf 19 = .ok (.iconst 1, 1) := by decide +kernel
theorem dX7_faultOf_20 : decode cX7_faultOf 20 = .ok (.iaload, 1) := by decide +kernel
theorem dX7_faultOf_21 : decode cX7_faultOf 21 = .ok (.bipush 48, 2) := by decide +kernel
theorem dX7_faultOf_23 : decode cX7_faultOf 23 = .ok (.bipush 51, 2) := by decide +kernel
theorem dX7_faultOf_25 : decode cX7_faultOf 25 = .ok (.invokestatic 63, 3) := by decide +kernel
theorem dX7_faultOf_28 : decode cX7_faultOf 28 = .ok (.ifCond .eq 29, 3) := by decide +kernel
theorem dX7_faultOf_31 : decode cX7_faultOf 31 = .ok (.aload_n 0, 1) := by decide +kernel
theorem dX7_faultOf_32 : decode cX7_faultOf 32 = .ok (.getfield 7, 3) := by decide +kernel
theorem dX7_faultOf_35 : decode cX7_faultOf 35 = .ok (.iconst 1, 1) := by decide +kernel
theorem dX7_faultOf_36 : decode cX7_faultOf 36 = .ok (.iaload, 1) := by decide +kernel
theorem dX7_faultOf_37 : decode cX7_faultOf 37 = .ok (.bipush 50, 2) := by decide +kernel
theorem dX7_faultOf_39 : decode cX7_faultOf 39 = .ok (.if_icmp .ne 14, 3) := by decide +kernel
theorem dX7_faultOf_42 : decode cX7_faultOf 42 = .ok (.aload_n 0, 1) := by decide +kernel
theorem dX7_faultOf_43 : decode cX7_faultOf 43 = .ok (.getfield 7, 3) := by decide +kernel
theorem dX7_faultOf_46 : decode cX7_faultOf 46 = .ok (.iconst 0, 1) := by decide +kernel
theorem dX7_faultOf_47 : decode cX7_faultOf 47 = .ok (.iaload, 1) := by decide +kernel
theorem dX7_faultOf_48 : decode cX7_faultOf 48 = .ok (.bipush 45, 2) := by decide +kernel
theorem dX7_faultOf_50 : decode cX7_faultOf 50 = .ok (.if_icmp .eq 7, 3) := by decide +kernel
theorem dX7_faultOf_53 : decode cX7_faultOf 53 = .ok (.iconst 1, 1) := by decide +kernel
theorem dX7_faultOf_54 : decode cX7_faultOf 54 = .ok (.goto 4, 3) := by decide +kernel
theorem dX7_faultOf_57 : decode cX7_faultOf 57 = .ok (.iconst 0, 1) := by decide +kernel
theorem dX7_faultOf_58 : decode cX7_faultOf 58 = .ok (.istore_n 2, 1) := by decide +kernel
theorem dX7_faultOf_59 : decode cX7_faultOf 59 = .ok (.goto 93, 3) := by decide +kernel
theorem dX7_faultOf_62 : decode cX7_faultOf 62 = .ok (.iload_n 1, 1) := by decide +kernel
theorem dX7_faultOf_63 : decode cX7_faultOf 63 = .ok (.iconst 1, 1) := by decide +kernel
theorem dX7_faultOf_64 : decode cX7_faultOf 64 = .ok (.if_icmp .le 29, 3) := by decide +kernel
theorem dX7_faultOf_67 : decode cX7_faultOf 67 = .ok (.aload_n 0, 1) := by decide +kernel
theorem dX7_faultOf_68 : decode cX7_faultOf 68 = .ok (.getfield 7, 3) := by decide +kernel
theorem dX7_faultOf_71 : decode cX7_faultOf 71 = .ok (.iconst 1, 1) := by decide +kernel
theorem dX7_faultOf_72 : decode cX7_faultOf 72 = .ok (.iaload, 1) := by decide +kernel
theorem dX7_faultOf_73 : decode cX7_faultOf 73 = .ok (.bipush 49, 2) := by decide +kernel
theorem dX7_faultOf_75 : decode cX7_faultOf 75 = .ok (.if_icmp .eq 14, 3) := by decide +kernel
theorem dX7_faultOf_78 : decode cX7_faultOf 78 = .ok (.aload_n 0, 1) := by decide +kernel
theorem dX7_faultOf_79 : decode cX7_faultOf 79 = .ok (.getfield 7, 3) := by decide +kernel
theorem dX7_faultOf_82 : decode cX7_faultOf 82 = .ok (.iconst 1, 1) := by decide +kernel
theorem dX7_faultOf_83 : decode cX7_faultOf 83 = .ok (.iaload, 1) := by decide +kernel
theorem dX7_faultOf_84 : decode cX7_faultOf 84 = .ok (.bipush 51, 2) := by decide +kernel
theorem dX7_faultOf_86 : decode cX7_faultOf 86 = .ok (.if_icmp .ne 7, 3) := by decide +kernel
theorem dX7_faultOf_89 : decode cX7_faultOf 89 = .ok (.iconst 1, 1) := by decide +kernel
theorem dX7_faultOf_90 : decode cX7_faultOf 90 = .ok (.goto 4, 3) := by decide +kernel
theorem dX7_faultOf_93 : decode cX7_faultOf 93 = .ok (.iconst 0, 1) := by decide +kernel
theorem dX7_faultOf_94 : decode cX7_faultOf 94 = .ok (.istore_n 3, 1) := by decide +kernel
theorem dX7_faultOf_95 : decode cX7_faultOf 95 = .ok (.iload_n 1, 1) := by decide +kernel
theorem dX7_faultOf_96 : decode cX7_faultOf 96 = .ok (.iconst 2, 1) := by decide +kernel
theorem dX7_faultOf_97 : decode cX7_faultOf 97 = .ok (.if_icmp .ge 7, 3) := by decide +kernel
theorem dX7_faultOf_100 : decode cX7_faultOf 100 = .ok (.iconst 1, 1) := by decide +kernel
theorem dX7_faultOf_101 : decode cX7_faultOf 101 = .ok (.goto 22, 3) := by decide +kernel
theorem dX7_faultOf_104 : decode cX7_faultOf 104 = .ok (.aload_n 0, 1) := by decide +kernel
theorem dX7_faultOf_105 : decode cX7_faultOf 105 = .ok (.getfield 7, 3) := by decide +kernel
theorem dX7_faultOf_108 : decode cX7_faultOf 108 = .ok (.iconst 1, 1) := by decide +kernel
theorem dX7_faultOf_109 : decode cX7_faultOf 109 = .ok (.iaload, 1) := by decide +kernel
theorem dX7_faultOf_110 : decode cX7_faultOf 110 = .ok (.bipush 50, 2) := by decide +kernel
theorem dX7_faultOf_112 : decode cX7_faultOf 112 = .ok (.if_icmp .ne 7, 3) := by decide +kernel
theorem dX7_faultOf_115 : decode cX7_faultOf 115 = .ok (.iconst 0, 1) := by decide +kernel
theorem dX7_faultOf_116 : decode cX7_faultOf 116 = .ok (.goto 7, 3) := by decide +kernel
theorem dX7_faultOf_119 : decode cX7_faultOf 119 = .ok (.bipush 6, 2) := by decide +kernel
theorem dX7_faultOf_121 : decode cX7_faultOf 121 = .ok (.iload_n 3, 1) := by decide +kernel
theorem dX7_faultOf_122 : decode cX7_faultOf 122 = .ok (.iadd, 1) := by decide +kernel
theorem dX7_faultOf_123 : decode cX7_faultOf 123 = .ok (.istore 4, 2) := by decide +kernel
theorem dX7_faultOf_125 : decode cX7_faultOf 125 = .ok (.aload_n 0, 1) := by decide +kernel
theorem dX7_faultOf_126 : decode cX7_faultOf 126 = .ok (.iload_n 1, 1) := by decide +kernel
theorem dX7_faultOf_127 : decode cX7_faultOf 127 = .ok (.invokevirtual 74, 3) := by decide +kernel
theorem dX7_faultOf_130 : decode cX7_faultOf 130 = .ok (.ifCond .eq 20, 3) := by decide +kernel
theorem dX7_faultOf_133 : decode cX7_faultOf 133 = .ok (.iload_n 1, 1) := by decide +kernel
theorem dX7_faultOf_134 : decode cX7_faultOf 134 = .ok (.iconst 2, 1) := by decide +kernel
theorem dX7_faultOf_135 : decode cX7_faultOf 135 = .ok (.if_icmp .lt 11, 3) := by decide +kernel
theorem dX7_faultOf_138 : decode cX7_faultOf 138 = .ok (.iload_n 1, 1) := by decide +kernel
theorem dX7_faultOf_139 : decode cX7_faultOf 139 = .ok (.iconst 2, 1) := by decide +kernel
theorem dX7_faultOf_140 : decode cX7_faultOf 140 = .ok (.isub, 1) := by decide +kernel
theorem dX7_faultOf_141 : decode cX7_faultOf 141 = .ok (.iload 4, 2) := by decide +kernel
theorem dX7_faultOf_143 : decode cX7_faultOf 143 = .ok (.if_icmp .ge 7, 3) := by decide +kernel
theorem dX7_faultOf_146 : decode cX7_faultOf 146 = .ok (.iconst 1, 1) := by decide +kernel
theorem dX7_faultOf_147 : decode cX7_faultOf 147 = .ok (.goto 4, 3) := by decide +kernel
theorem dX7_faultOf_150 : decode cX7_faultOf 150 = .ok (.iconst 0, 1) := by decide +kernel
theorem dX7_faultOf_151 : decode cX7_faultOf 151 = .ok (.istore_n 2, 1) := by decide +kernel
theorem dX7_faultOf_152 : decode cX7_faultOf 152 = .ok (.iload_n 2, 1) := by decide +kernel
theorem dX7_faultOf_153 : decode cX7_faultOf 153 = .ok (.ifCond .ne 5, 3) := by decide +kernel
theorem dX7_faultOf_156 : decode cX7_faultOf 156 = .ok (.iload_n 1, 1) := by decide +kernel
theorem dX7_faultOf_157 : decode cX7_faultOf 157 = .ok (.ireturn, 1) := by decide +kernel
theorem dX7_faultOf_158 : decode cX7_faultOf 158 = .ok (.iinc 1 1, 3) := by decide +kernel
theorem dX7_faultOf_161 : decode cX7_faultOf 161 = .ok (.goto (-159), 3) := by decide +kernel
theorem dX7_faultOf_164 : decode cX7_faultOf 164 = .ok (.aload_n 0, 1) := by decide +kernel
theorem dX7_faultOf_165 : decode cX7_faultOf 165 = .ok (.getfield 67, 3) := by decide +kernel
theorem dX7_faultOf_168 : decode cX7_faultOf 168 = .ok (.iconst 1, 1) := by decide +kernel
theorem dX7_faultOf_169 : decode cX7_faultOf 169 = .ok (.if_icmp .le 37, 3) := by decide +kernel
theorem dX7_faultOf_172 : decode cX7_faultOf 172 = .ok (.aload_n 0, 1) := by decide +kernel
theorem dX7_faultOf_173 : decode cX7_faultOf 173 = .ok (.getfield 67, 3) := by decide +kernel
theorem dX7_faultOf_176 : decode cX7_faultOf 176 = .ok (.iconst 2, 1) := by decide +kernel
theorem dX7_faultOf_177 : decode cX7_faultOf 177 = .ok (.if_icmp .gt 25, 3) := by decide +kernel
