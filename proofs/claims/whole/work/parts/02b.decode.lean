theorem dX6_init_0 : decode cX6_init 0 = .ok (.aload_n 0, 1) := by decide +kernel
theorem dX6_init_1 : decode cX6_init 1 = .ok (.invokespecial 1, 3) := by decide +kernel
theorem dX6_init_4 : decode cX6_init 4 = .ok (.aload_n 0, 1) := by decide +kernel
theorem dX6_init_5 : decode cX6_init 5 = .ok (.new 7, 3) := by decide +kernel
theorem dX6_init_8 : decode cX6_init 8 = .ok (.dup, 1) := by decide +kernel
theorem dX6_init_9 : decode cX6_init 9 = .ok (.invokespecial 9, 3) := by decide +kernel
theorem dX6_init_12 : decode cX6_init 12 = .ok (.putfield 10, 3) := by decide +kernel
theorem dX6_init_15 : decode cX6_init 15 = .ok (.aload_n 0, 1) := by decide +kernel
theorem dX6_init_16 : decode cX6_init 16 = .ok (.new 16, 3) := by decide +kernel
theorem dX6_init_19 : decode cX6_init 19 = .ok (.dup, 1) := by decide +kernel
theorem dX6_init_20 : decode cX6_init 20 = .ok (.invokespecial 18, 3) := by decide +kernel
theorem dX6_init_23 : decode cX6_init 23 = .ok (.putfield 19, 3) := by decide +kernel
theorem dX6_init_26 : decode cX6_init 26 = .ok (.aload_n 0, 1) := by decide +kernel
theorem dX6_init_27 : decode cX6_init 27 = .ok (.new 23, 3) := by decide +kernel
theorem dX6_init_30 : decode cX6_init 30 = .ok (.dup, 1) := by decide +kernel
theorem dX6_init_31 : decode cX6_init 31 = .ok (.invokespecial 25, 3) := by decide +kernel
theorem dX6_init_34 : decode cX6_init 34 = .ok (.putfield 26, 3) := by decide +kernel
theorem dX6_init_37 : decode cX6_init 37 = .ok (.aload_n 0, 1) := by decide +kernel
theorem dX6_init_38 : decode cX6_init 38 = .ok (.new 23, 3) := by decide +kernel
theorem dX6_init_41 : decode cX6_init 41 = .ok (.dup, 1) := by decide +kernel
theorem dX6_init_42 : decode cX6_init 42 = .ok (.invokespecial 25, 3) := by decide +kernel
theorem dX6_init_45 : decode cX6_init 45 = .ok (.putfield 30, 3) := by decide +kernel
theorem dX6_init_48 : decode cX6_init 48 = .ok (.aload_n 0, 1) := by decide +kernel
theorem dX6_init_49 : decode cX6_init 49 = .ok (.new 23, 3) := by decide +kernel
theorem dX6_init_52 : decode cX6_init 52 = .ok (.dup, 1) := by decide +kernel
theorem dX6_init_53 : decode cX6_init 53 = .ok (.invokespecial 25, 3) := by decide +kernel
theorem dX6_init_56 : decode cX6_init 56 = .ok (.putfield 33, 3) := by decide +kernel
theorem dX6_init_59 : decode cX6_init 59 = .ok (.aload_n 0, 1) := by decide +kernel
theorem dX6_init_60 : decode cX6_init 60 = .ok (.new 36, 3) := by decide +kernel
theorem dX6_init_63 : decode cX6_init 63 = .ok (.dup, 1) := by decide +kernel
theorem dX6_init_64 : decode cX6_init 64 = .ok (.invokespecial 38, 3) := by decide +kernel
theorem dX6_init_67 : decode cX6_init 67 = .ok (.putfield 39, 3) := by decide +kernel
theorem dX6_init_70 : decode cX6_init 70 = .ok (.aload_n 0, 1) := by decide +kernel
theorem dX6_init_71 : decode cX6_init 71 = .ok (.new 43, 3) := by decide +kernel
theorem dX6_init_74 : decode cX6_init 74 = .ok (.dup, 1) := by decide +kernel
theorem dX6_init_75 : decode cX6_init 75 = .ok (.aload_n 0, 1) := by decide +kernel
theorem dX6_init_76 : decode cX6_init 76 = .ok (.getfield 26, 3) := by decide +kernel
theorem dX6_init_79 : decode cX6_init 79 = .ok (.invokespecial 45, 3) := by decide +kernel
theorem dX6_init_82 : decode cX6_init 82 = .ok (.putfield 48, 3) := by decide +kernel
theorem dX6_init_85 : decode cX6_init 85 = .ok (.aload_n 0, 1) := by decide +kernel
theorem dX6_init_86 : decode cX6_init 86 = .ok (.new 52, 3) := by decide +kernel
theorem dX6_init_89 : decode cX6_init 89 = .ok (.dup, 1) := by decide +kernel
theorem dX6_init_90 : decode cX6_init 90 = .ok (.aload_n 0, 1) := by decide +kernel
theorem dX6_init_91 : decode cX6_init 91 = .ok (.getfield 26, 3) := by decide +kernel
theorem dX6_init_94 : decode cX6_init 94 = .ok (.invokespecial 54, 3) := by decide +kernel
theorem dX6_init_97 : decode cX6_init 97 = .ok (.putfield 55, 3) := by decide +kernel
theorem dX6_init_100 : decode cX6_init 100 = .ok (.aload_n 0, 1) := by decide +kernel
theorem dX6_init_101 : decode cX6_init 101 = .ok (.iconst 0, 1) := by decide +kernel
theorem dX6_init_102 : decode cX6_init 102 = .ok (.putfield 59, 3) := by decide +kernel
theorem dX6_init_105 : decode cX6_init 105 = .ok (.return_, 1) := by decide +kernel
theorem dX6_row_0 : decode cX6_row 0 = .ok (.iload_n 1, 1) := by decide +kernel
theorem dX6_row_1 : decode cX6_row 1 = .ok (.invokestatic 63, 3) := by decide +kernel
theorem dX6_row_4 : decode cX6_row 4 = .ok (.ifCond .eq 18, 3) := by decide +kernel
theorem dX6_row_7 : decode cX6_row 7 = .ok (.iload_n 2, 1) := by decide +kernel
theorem dX6_row_8 : decode cX6_row 8 = .ok (.iconst 0, 1) := by decide +kernel
theorem dX6_row_9 : decode cX6_row 9 = .ok (.iconst 2, 1) := by decide +kernel
theorem dX6_row_10 : decode cX6_row 10 = .ok (.invokestatic 67, 3) := by decide +kernel
theorem dX6_row_13 : decode cX6_row 13 = .ok (.ifCond .eq 9, 3) := by decide +kernel
theorem dX6_row_16 : decode cX6_row 16 = .ok (.iload_n 3, 1) := by decide +kernel
theorem dX6_row_17 : decode cX6_row 17 = .ok (.bipush 40, 2) := by decide +kernel
theorem dX6_row_19 : decode cX6_row 19 = .ok (.if_icmp .le 6, 3) := by decide +kernel
theorem dX6_row_22 : decode cX6_row 22 = .ok (.ldc 71, 2) := by decide +kernel
theorem dX6_row_24 : decode cX6_row 24 = .ok (.ireturn, 1) := by decide +kernel
theorem dX6_row_25 : decode cX6_row 25 = .ok (.iload_n 3, 1) := by decide +kernel
theorem dX6_row_26 : decode cX6_row 26 = .ok (.ifCond .ge 9, 3) := by decide +kernel
theorem dX6_row_29 : decode cX6_row 29 = .ok (.aload_n 0, 1) := by decide +kernel
theorem dX6_row_30 : decode cX6_row 30 = .ok (.iconst 4, 1) := by decide +kernel
theorem dX6_row_31 : decode cX6_row 31 = .ok (.invokevirtual 72, 3) := by decide +kernel
theorem dX6_row_34 : decode cX6_row 34 = .ok (.ireturn, 1) := by decide +kernel
theorem dX6_row_35 : decode cX6_row 35 = .ok (.aload_n 0, 1) := by decide +kernel
theorem dX6_row_36 : decode cX6_row 36 = .ok (.getfield 10, 3) := by decide +kernel
theorem dX6_row_39 : decode cX6_row 39 = .ok (.iload_n 1, 1) := by decide +kernel
theorem dX6_row_40 : decode cX6_row 40 = .ok (.iload_n 2, 1) := by decide +kernel
theorem dX6_row_41 : decode cX6_row 41 = .ok (.iload_n 3, 1) := by decide +kernel
theorem dX6_row_42 : decode cX6_row 42 = .ok (.invokevirtual 76, 3) := by decide +kernel
theorem dX6_row_45 : decode cX6_row 45 = .ok (.aload_n 0, 1) := by decide +kernel
theorem dX6_row_46 : decode cX6_row 46 = .ok (.iload_n 3, 1) := by decide +kernel
theorem dX6_row_47 : decode cX6_row 47 = .ok (.invokevirtual 80, 3) := by decide +kernel
theorem dX6_row_50 : decode cX6_row 50 = .ok (.ireturn, 1) := by decide +kernel
theorem dX6_set_0 : decode cX6_set 0 = .ok (.iload_n 1, 1) := by decide +kernel
theorem dX6_set_1 : decode cX6_set 1 = .ok (.invokestatic 63, 3) := by decide +kernel
theorem dX6_set_4 : decode cX6_set 4 = .ok (.ifCond .ne 6, 3) := by decide +kernel
theorem dX6_set_7 : decode cX6_set 7 = .ok (.ldc 71, 2) := by decide +kernel
theorem dX6_set_9 : decode cX6_set 9 = .ok (.ireturn, 1) := by decide +kernel
theorem dX6_set_10 : decode cX6_set 10 = .ok (.aload_n 0, 1) := by decide +kernel
theorem dX6_set_11 : decode cX6_set 11 = .ok (.getfield 10, 3) := by decide +kernel
theorem dX6_set_14 : decode cX6_set 14 = .ok (.iload_n 1, 1) := by decide +kernel
theorem dX6_set_15 : decode cX6_set 15 = .ok (.iload_n 2, 1) := by decide +kernel
theorem dX6_set_16 : decode cX6_set 16 = .ok (.iconst 1, 1) := by decide +kernel
theorem dX6_set_17 : decode cX6_set 17 = .ok (.invokevirtual 83, 3) := by decide +kernel
theorem dX6_set_20 : decode cX6_set 20 = .ok (.istore 4, 2) := by decide +kernel
theorem dX6_set_22 : decode cX6_set 22 = .ok (.iload 4, 2) := by decide +kernel
theorem dX6_set_24 : decode cX6_set 24 = .ok (.ifCond .eq 12, 3) := by decide +kernel
theorem dX6_set_27 : decode cX6_set 27 = .ok (.aload_n 0, 1) := by decide +kernel
theorem dX6_set_28 : decode cX6_set 28 = .ok (.iload 4, 2) := by decide +kernel
theorem dX6_set_30 : decode cX6_set 30 = .ok (.invokevirtual 72, 3) := by decide +kernel
theorem dX6_set_33 : decode cX6_set 33 = .ok (.goto 17, 3) := by decide +kernel
theorem dX6_set_36 : decode cX6_set 36 = .ok (.aload_n 0, 1) := by decide +kernel
theorem dX6_set_37 : decode cX6_set 37 = .ok (.aload_n 0, 1) := by decide +kernel
theorem dX6_set_38 : decode cX6_set 38 = .ok (.getfield 10, 3) := by decide +kernel
theorem dX6_set_41 : decode cX6_set 41 = .ok (.iload_n 1, 1) := by decide +kernel
theorem dX6_set_42 : decode cX6_set 42 = .ok (.iload_n 2, 1) := by decide +kernel
theorem dX6_set_43 : decode cX6_set 43 = .ok (.iload_n 3, 1) := by decide +kernel
theorem dX6_set_44 : decode cX6_set 44 = .ok (.invokevirtual 87, 3) := by decide +kernel
theorem dX6_set_47 : decode cX6_set 47 = .ok (.invokevirtual 80, 3) := by decide +kernel
theorem dX6_set_50 : decode cX6_set 50 = .ok (.ireturn, 1) := by decide +kernel
theorem dX6_copy_0 : decode cX6_copy 0 = .ok (.iload_n 1, 1) := by decide +kernel
theorem dX6_copy_1 : decode cX6_copy 1 = .ok (.invokestatic 63, 3) := by decide +kernel
theorem dX6_copy_4 : decode cX6_copy 4 = .ok (.ifCond .eq 10, 3) := by decide +kernel
theorem dX6_copy_7 : decode cX6_copy 7 = .ok (.iload_n 3, 1) := by decide +kernel
theorem dX6_copy_8 : decode cX6_copy 8 = .ok (.invokestatic 63, 3) := by decide +kernel
theorem dX6_copy_11 : decode cX6_copy 11 = .ok (.ifCond .ne 6, 3) := by decide +kernel
theorem dX6_copy_14 : decode cX6_copy 14 = .ok (.ldc 71, 2) := by decide +kernel
theorem dX6_copy_16 : decode cX6_copy 16 = .ok (.ireturn, 1) := by decide +kernel
theorem dX6_copy_17 : decode cX6_copy 17 = .ok (.aload_n 0, 1) := by decide +kernel
theorem dX6_copy_18 : decode cX6_copy 18 = .ok (.getfield 10, 3) := by decide +kernel
theorem dX6_copy_21 : decode cX6_copy 21 = .ok (.iload_n 1, 1) := by decide +kernel
theorem dX6_copy_22 : decode cX6_copy 22 = .ok (.invokevirtual 90, 3) := by decide +kernel
theorem dX6_copy_25 : decode cX6_copy 25 = .ok (.ifCond .ne 14, 3) := by decide +kernel
theorem dX6_copy_28 : decode cX6_copy 28 = .ok (.aload_n 0, 1) := by decide +kernel
theorem dX6_copy_29 : decode cX6_copy 29 = .ok (.getfield 10, 3) := by decide +kernel
theorem dX6_copy_32 : decode cX6_copy 32 = .ok (.iload_n 3, 1) := by decide +kernel
theorem dX6_copy_33 : decode cX6_copy 33 = .ok (.invokevirtual 90, 3) := by decide +kernel
theorem dX6_copy_36 : decode cX6_copy 36 = .ok (.ifCond .eq 9, 3) := by decide +kernel
theorem dX6_copy_39 : decode cX6_copy 39 = .ok (.aload_n 0, 1) := by decide +kernel
theorem dX6_copy_40 : decode cX6_copy 40 = .ok (.iconst 1, 1) := by decide +kernel
theorem dX6_copy_41 : decode cX6_copy 41 = .ok (.invokevirtual 72, 3) := by decide +kernel
theorem dX6_copy_44 : decode cX6_copy 44 = .ok (.ireturn, 1) := by decide +kernel
theorem dX6_copy_45 : decode cX6_copy 45 = .ok (.aload_n 0, 1) := by decide +kernel
theorem dX6_copy_46 : decode cX6_copy 46 = .ok (.getfield 10, 3) := by decide +kernel
theorem dX6_copy_49 : decode cX6_copy 49 = .ok (.iload_n 1, 1) := by decide +kernel
theorem dX6_copy_50 : decode cX6_copy 50 = .ok (.invokevirtual 93, 3) := by decide +kernel
theorem dX6_copy_53 : decode cX6_copy 53 = .ok (.aload_n 0, 1) := by decide +kernel
theorem dX6_copy_54 : decode cX6_copy 54 = .ok (.getfield 10, 3) := by decide +kernel
theorem dX6_copy_57 : decode cX6_copy 57 = .ok (.iload_n 3, 1) := by decide +kernel
theorem dX6_copy_58 : decode cX6_copy 58 = .ok (.invokevirtual 93, 3) := by decide +kernel
theorem dX6_copy_61 : decode cX6_copy 61 = .ok (.if_icmp .eq 9, 3) := by decide +kernel
theorem dX6_copy_64 : decode cX6_copy 64 = .ok (.aload_n 0, 1) := by decide +kernel
theorem dX6_copy_65 : decode cX6_copy 65 = .ok (.iconst 5, 1) := by decide +kernel
theorem dX6_copy_66 : decode cX6_copy 66 = .ok (.invokevirtual 72, 3) := by decide +kernel
theorem dX6_copy_69 : decode cX6_copy 69 = .ok (.ireturn, 1) := by decide +kernel
theorem dX6_copy_70 : decode cX6_copy 70 = .ok (.aload_n 0, 1) := by decide +kernel
theorem dX6_copy_71 : decode cX6_copy 71 = .ok (.getfield 10, 3) := by decide +kernel
theorem dX6_copy_74 : decode cX6_copy 74 = .ok (.iload_n 1, 1) := by decide +kernel
theorem dX6_copy_75 : decode cX6_copy 75 = .ok (.iload_n 2, 1) := by decide +kernel
theorem dX6_copy_76 : decode cX6_copy 76 = .ok (.iload 5, 2) := by decide +kernel
theorem dX6_copy_78 : decode cX6_copy 78 = .ok (.invokevirtual 96, 3) := by decide +kernel
theorem dX6_copy_81 : decode cX6_copy 81 = .ok (.ifCond .eq 18, 3) := by decide +kernel
theorem dX6_copy_84 : decode cX6_copy 84 = .ok (.aload_n 0, 1) := by decide +kernel
theorem dX6_copy_85 : decode cX6_copy 85 = .ok (.getfield 10, 3) := by decide +kernel
theorem dX6_copy_88 : decode cX6_copy 88 = .ok (.iload_n 3, 1) := by decide +kernel
theorem dX6_copy_89 : decode cX6_copy 89 = .ok (.iload 4, 2) := by decide +kernel
theorem dX6_copy_91 : decode cX6_copy 91 = .ok (.iload 5, 2) := by decide +kernel
theorem dX6_copy_93 : decode cX6_copy 93 = .ok (.invokevirtual 96, 3) := by decide +kernel
theorem dX6_copy_96 : decode cX6_copy 96 = .ok (.ifCond .ne 9, 3) := by decide +kernel
theorem dX6_copy_99 : decode cX6_copy 99 = .ok (.aload_n 0, 1) := by decide +kernel
theorem dX6_copy_100 : decode cX6_copy 100 = .ok (.iconst 2, 1) := by decide +kernel
theorem dX6_copy_101 : decode cX6_copy 101 = .ok (.invokevirtual 72, 3) := by decide +kernel
theorem dX6_copy_104 : decode cX6_copy 104 = .ok (.ireturn, 1) := by decide +kernel
theorem dX6_copy_105 : decode cX6_copy 105 = .ok (.aload_n 0, 1) := by decide +kernel
theorem dX6_copy_106 : decode cX6_copy 106 = .ok (.getfield 10, 3) := by decide +kernel
theorem dX6_copy_109 : decode cX6_copy 109 = .ok (.iload_n 1, 1) := by decide +kernel
theorem dX6_copy_110 : decode cX6_copy 110 = .ok (.iload_n 2, 1) := by decide +kernel
theorem dX6_copy_111 : decode cX6_copy 111 = .ok (.iload_n 3, 1) := by decide +kernel
theorem dX6_copy_112 : decode cX6_copy 112 = .ok (.iload 4, 2) := by decide +kernel
theorem dX6_copy_114 : decode cX6_copy 114 = .ok (.iload 5, 2) := by decide +kernel
theorem dX6_copy_116 : decode cX6_copy 116 = .ok (.invokevirtual 99, 3) := by decide +kernel
theorem dX6_copy_119 : decode cX6_copy 119 = .ok (.aload_n 0, 1) := by decide +kernel
theorem dX6_copy_120 : decode cX6_copy 120 = .ok (.iload 5, 2) := by decide +kernel
theorem dX6_copy_122 : decode cX6_copy 122 = .ok (.invokevirtual 80, 3) := by decide +kernel
theorem dX6_copy_125 : decode cX6_copy 125 = .ok (.ireturn, 1) := by decide +kernel
theorem dX6_drop_0 : decode cX6_drop 0 = .ok (.iload_n 1, 1) := by decide +kernel
theorem dX6_drop_1 : decode cX6_drop 1 = .ok (.invokestatic 63, 3) := by decide +kernel
theorem dX6_drop_4 : decode cX6_drop 4 = .ok (.ifCond .ne 6, 3) := by decide +kernel
theorem dX6_drop_7 : decode cX6_drop 7 = .ok (.ldc 71, 2) := by decide +kernel
theorem dX6_drop_9 : decode cX6_drop 9 = .ok (.ireturn, 1) := by decide +kernel
theorem dX6_drop_10 : decode cX6_drop 10 = .ok (.aload_n 0, 1) := by decide +kernel
theorem dX6_drop_11 : decode cX6_drop 11 = .ok (.getfield 10, 3) := by decide +kernel
theorem dX6_drop_14 : decode cX6_drop 14 = .ok (.iload_n 1, 1) := by decide +kernel
theorem dX6_drop_15 : decode cX6_drop 15 = .ok (.invokevirtual 90, 3) := by decide +kernel
theorem dX6_drop_18 : decode cX6_drop 18 = .ok (.ifCond .eq 11, 3) := by decide +kernel
theorem dX6_drop_21 : decode cX6_drop 21 = .ok (.aload_n 0, 1) := by decide +kernel
theorem dX6_drop_22 : decode cX6_drop 22 = .ok (.iconst 1, 1) := by decide +kernel
theorem dX6_drop_23 : decode cX6_drop 23 = .ok (.invokevirtual 72, 3) := by decide +kernel
theorem dX6_drop_26 : decode cX6_drop 26 = .ok (.goto 15, 3) := by decide +kernel
theorem dX6_drop_29 : decode cX6_drop 29 = .ok (.aload_n 0, 1) := by decide +kernel
theorem dX6_drop_30 : decode cX6_drop 30 = .ok (.aload_n 0, 1) := by decide +kernel
theorem dX6_drop_31 : decode cX6_drop 31 = .ok (.getfield 10, 3) := by decide +kernel
theorem dX6_drop_34 : decode cX6_drop 34 = .ok (.iload_n 1, 1) := by decide +kernel
theorem dX6_drop_35 : decode cX6_drop 35 = .ok (.invokevirtual 103, 3) := by decide +kernel
theorem dX6_drop_38 : decode cX6_drop 38 = .ok (.invokevirtual 80, 3) := by decide +kernel
theorem dX6_drop_41 : decode cX6_drop 41 = .ok (.ireturn, 1) := by decide +kernel
theorem dX6_feed_0 : decode cX6_feed 0 = .ok (.iload_n 1, 1) := by decide +kernel
theorem dX6_feed_1 : decode cX6_feed 1 = .ok (.iconst 0, 1) := by decide +kernel
theorem dX6_feed_2 : decode cX6_feed 2 = .ok (.sipush 255, 3) := by decide +kernel
theorem dX6_feed_5 : decode cX6_feed 5 = .ok (.invokestatic 67, 3) := by decide +kernel
theorem dX6_feed_8 : decode cX6_feed 8 = .ok (.ifCond .ne 6, 3) := by decide +kernel
theorem dX6_feed_11 : decode cX6_feed 11 = .ok (.ldc 71, 2) := by decide +kernel
theorem dX6_feed_13 : decode cX6_feed 13 = .ok (.ireturn, 1) := by decide +kernel
theorem dX6_feed_14 : decode cX6_feed 14 = .ok (.aload_n 0, 1) := by decide +kernel
theorem dX6_feed_15 : decode cX6_feed 15 = .ok (.getfield 19, 3) := by decide +kernel
theorem dX6_feed_18 : decode cX6_feed 18 = .ok (.invokevirtual 106, 3) := by decide +kernel
theorem dX6_feed_21 : decode cX6_feed 21 = .ok (.ifCond .eq 8, 3) := by decide +kernel
theorem dX6_feed_24 : decode cX6_feed 24 = .ok (.ldc 110, 2) := by decide +kernel
theorem dX6_feed_26 : decode cX6_feed 26 = .ok (.goto 11, 3) := by decide +kernel
theorem dX6_feed_29 : decode cX6_feed 29 = .ok (.aload_n 0, 1) := by decide +kernel
theorem dX6_feed_30 : decode cX6_feed 30 = .ok (.getfield 19, 3) := by decide +kernel
theorem dX6_feed_33 : decode cX6_feed 33 = .ok (.iload_n 1, 1) := by decide +kernel
theorem dX6_feed_34 : decode cX6_feed 34 = .ok (.invokevirtual 111, 3) := by decide +kernel
theorem dX6_feed_37 : decode cX6_feed 37 = .ok (.ireturn, 1) := by decide +kernel
theorem dX6_land_0 : decode cX6_land 0 = .ok (.aload_n 0, 1) := by decide +kernel
theorem dX6_land_1 : decode cX6_land 1 = .ok (.getfield 19, 3) := by decide +kernel
theorem dX6_land_4 : decode cX6_land 4 = .ok (.aload_n 0, 1) := by decide +kernel
theorem dX6_land_5 : decode cX6_land 5 = .ok (.getfield 26, 3) := by decide +kernel
theorem dX6_land_8 : decode cX6_land 8 = .ok (.invokevirtual 114, 3) := by decide +kernel
theorem dX6_land_11 : decode cX6_land 11 = .ok (.istore_n 1, 1) := by decide +kernel
theorem dX6_land_12 : decode cX6_land 12 = .ok (.iload_n 1, 1) := by decide +kernel
theorem dX6_land_13 : decode cX6_land 13 = .ok (.ldc 118, 2) := by decide +kernel
theorem dX6_land_15 : decode cX6_land 15 = .ok (.if_icmp .eq 8, 3) := by decide +kernel
theorem dX6_land_18 : decode cX6_land 18 = .ok (.ldc 119, 2) := by decide +kernel
theorem dX6_land_20 : decode cX6_land 20 = .ok (.iload_n 1, 1) := by decide +kernel
theorem dX6_land_21 : decode cX6_land 21 = .ok (.isub, 1) := by decide +kernel
theorem dX6_land_22 : decode cX6_land 22 = .ok (.ireturn, 1) := by decide +kernel
theorem dX6_land_23 : decode cX6_land 23 = .ok (.aload_n 0, 1) := by decide +kernel
theorem dX6_land_24 : decode cX6_land 24 = .ok (.getfield 39, 3) := by decide +kernel
theorem dX6_land_27 : decode cX6_land 27 = .ok (.invokevirtual 120, 3) := by decide +kernel
theorem dX6_land_30 : decode cX6_land 30 = .ok (.aload_n 0, 1) := by decide +kernel
theorem dX6_land_31 : decode cX6_land 31 = .ok (.getfield 26, 3) := by decide +kernel
theorem dX6_land_34 : decode cX6_land 34 = .ok (.getfield 123, 3) := by decide +kernel
theorem dX6_land_37 : decode cX6_land 37 = .ok (.ireturn, 1) := by decide +kernel
theorem dX6_fault_0 : decode cX6_fault 0 = .ok (.aload_n 0, 1) := by decide +kernel
theorem dX6_fault_1 : decode cX6_fault 1 = .ok (.getfield 19, 3) := by decide +kernel
theorem dX6_fault_4 : decode cX6_fault 4 = .ok (.getfield 126, 3) := by decide +kernel
theorem dX6_fault_7 : decode cX6_fault 7 = .ok (.ireturn, 1) := by decide +kernel
theorem dX6_undo_0 : decode cX6_undo 0 = .ok (.aload_n 0, 1) := by decide +kernel
theorem dX6_undo_1 : decode cX6_undo 1 = .ok (.getfield 39, 3) := by decide +kernel
theorem dX6_undo_4 : decode cX6_undo 4 = .ok (.getfield 129, 3) := by decide +kernel
theorem dX6_undo_7 : decode cX6_undo 7 = .ok (.ifCond .ne 8, 3) := by decide +kernel
theorem dX6_undo_10 : decode cX6_undo 10 = .ok (.ldc 132, 2) := by decide +kernel
theorem dX6_undo_12 : decode cX6_undo 12 = .ok (.goto 14, 3) := by decide +kernel
theorem dX6_undo_15 : decode cX6_undo 15 = .ok (.aload_n 0, 1) := by decide +kernel
theorem dX6_undo_16 : decode cX6_undo 16 = .ok (.getfield 39, 3) := by decide +kernel
theorem dX6_undo_19 : decode cX6_undo 19 = .ok (.aload_n 0, 1) := by decide +kernel
theorem dX6_undo_20 : decode cX6_undo 20 = .ok (.getfield 26, 3) := by decide +kernel
theorem dX6_undo_23 : decode cX6_undo 23 = .ok (.invokevirtual 133, 3) := by decide +kernel
theorem dX6_undo_26 : decode cX6_undo 26 = .ok (.ireturn, 1) := by decide +kernel
theorem dX6_days_0 : decode cX6_days 0 = .ok (.aload_n 0, 1) := by decide +kernel
theorem dX6_days_1 : decode cX6_days 1 = .ok (.getfield 26, 3) := by decide +kernel
theorem dX6_days_4 : decode cX6_days 4 = .ok (.getfield 123, 3) := by decide +kernel
theorem dX6_days_7 : decode cX6_days 7 = .ok (.ifCond .ne 6, 3) := by decide +kernel
theorem dX6_days_10 : decode cX6_days 10 = .ok (.ldc 132, 2) := by decide +kernel
theorem dX6_days_12 : decode cX6_days 12 = .ok (.ireturn, 1) := by decide +kernel
theorem dX6_days_13 : decode cX6_days 13 = .ok (.iload_n 1, 1) := by decide +kernel
theorem dX6_days_14 : decode cX6_days 14 = .ok (.iconst 1, 1) := by decide +kernel
theorem dX6_days_15 : decode cX6_days 15 = .ok (.bipush 24, 2) := by decide +kernel
theorem dX6_days_17 : decode cX6_days 17 = .ok (.invokestatic 67, 3) := by decide +kernel
theorem dX6_days_20 : decode cX6_days 20 = .ok (.ifCond .ne 6, 3) := by decide +kernel
theorem dX6_days_23 : decode cX6_days 23 = .ok (.ldc 71, 2) := by decide +kernel
theorem dX6_days_25 : decode cX6_days 25 = .ok (.ireturn, 1) := by decide +kernel
theorem dX6_days_26 : decode cX6_days 26 = .ok (.aload_n 0, 1) := by decide +kernel
theorem dX6_days_27 : decode cX6_days 27 = .ok (.getfield 26, 3) := by decide +kernel
theorem dX6_days_30 : decode cX6_days 30 = .ok (.getfield 136, 3) := by decide +kernel
theorem dX6_days_33 : decode cX6_days 33 = .ok (.iload_n 1, 1) := by decide +kernel
theorem dX6_days_34 : decode cX6_days 34 = .ok (.iadd, 1) := by decide +kernel
theorem dX6_days_35 : decode cX6_days 35 = .ok (.sipush 999, 3) := by decide +kernel
theorem dX6_days_38 : decode cX6_days 38 = .ok (.if_icmp .le 6, 3) := by decide +kernel
theorem dX6_days_41 : decode cX6_days 41 = .ok (.ldc 110, 2) := by decide +kernel
theorem dX6_days_43 : decode cX6_days 43 = .ok (.ireturn, 1) := by decide +kernel
theorem dX6_days_44 : decode cX6_days 44 = .ok (.iconst 0, 1) := by decide +kernel
theorem dX6_days_45 : decode cX6_days 45 = .ok (.istore_n 2, 1) := by decide +kernel
theorem dX6_days_46 : decode cX6_days 46 = .ok (.iload_n 2, 1) := by decide +kernel
theorem dX6_days_47 : decode cX6_days 47 = .ok (.iload_n 1, 1) := by decide +kernel
theorem dX6_days_48 : decode cX6_days 48 = .ok (.if_icmp .ge 27, 3) := by decide +kernel
theorem dX6_days_51 : decode cX6_days 51 = .ok (.aload_n 0, 1) := by decide +kernel
theorem dX6_days_52 : decode cX6_days 52 = .ok (.getfield 39, 3) := by decide +kernel
theorem dX6_days_55 : decode cX6_days 55 = .ok (.aload_n 0, 1) := by decide +kernel
theorem dX6_days_56 : decode cX6_days 56 = .ok (.getfield 26, 3) := by decide +kernel
theorem dX6_days_59 : decode cX6_days 59 = .ok (.invokevirtual 139, 3) := by decide +kernel
theorem dX6_days_62 : decode cX6_days 62 = .ok (.aload_n 0, 1) := by decide +kernel
theorem dX6_days_63 : decode cX6_days 63 = .ok (.getfield 26, 3) := by decide +kernel
theorem dX6_days_66 : decode cX6_days 66 = .ok (.invokevirtual 142, 3) := by decide +kernel
theorem dX6_days_69 : decode cX6_days 69 = .ok (.iinc 2 1, 3) := by decide +kernel
theorem dX6_days_72 : decode cX6_days 72 = .ok (.goto (-26), 3) := by decide +kernel
theorem dX6_days_75 : decode cX6_days 75 = .ok (.aload_n 0, 1) := by decide +kernel
theorem dX6_days_76 : decode cX6_days 76 = .ok (.getfield 26, 3) := by decide +kernel
theorem dX6_days_79 : decode cX6_days 79 = .ok (.invokevirtual 145, 3) := by decide +kernel
theorem dX6_days_82 : decode cX6_days 82 = .ok (.ireturn, 1) := by decide +kernel
theorem dX6_putBack_0 : decode cX6_putBack 0 = .ok (.aload_n 0, 1) := by decide +kernel
theorem dX6_putBack_1 : decode cX6_putBack 1 = .ok (.getfield 26, 3) := by decide +kernel
theorem dX6_putBack_4 : decode cX6_putBack 4 = .ok (.iload_n 1, 1) := by decide +kernel
theorem dX6_putBack_5 : decode cX6_putBack 5 = .ok (.invokevirtual 149, 3) := by decide +kernel
theorem dX6_putBack_8 : decode cX6_putBack 8 = .ok (.ifCond .ne 6, 3) := by decide +kernel
theorem dX6_putBack_11 : decode cX6_putBack 11 = .ok (.ldc 71, 2) := by decide +kernel
theorem dX6_putBack_13 : decode cX6_putBack 13 = .ok (.ireturn, 1) := by decide +kernel
theorem dX6_putBack_14 : decode cX6_putBack 14 = .ok (.aload_n 0, 1) := by decide +kernel
theorem dX6_putBack_15 : decode cX6_putBack 15 = .ok (.getfield 26, 3) := by decide +kernel
theorem dX6_putBack_18 : decode cX6_putBack 18 = .ok (.iload_n 1, 1) := by decide +kernel
theorem dX6_putBack_19 : decode cX6_putBack 19 = .ok (.invokevirtual 152, 3) := by decide +kernel
theorem dX6_putBack_22 : decode cX6_putBack 22 = .ok (.ifCond .ne 14, 3) := by decide +kernel
theorem dX6_putBack_25 : decode cX6_putBack 25 = .ok (.aload_n 0, 1) := by decide +kernel
theorem dX6_putBack_26 : decode cX6_putBack 26 = .ok (.getfield 26, 3) := by decide +kernel
theorem dX6_putBack_29 : decode cX6_putBack 29 = .ok (.iload_n 1, 1) := by decide +kernel
theorem dX6_putBack_30 : decode cX6_putBack 30 = .ok (.invokevirtual 155, 3) := by decide +kernel
theorem dX6_putBack_33 : decode cX6_putBack 33 = .ok (.ifCond .ne 6, 3) := by decide +kernel
theorem dX6_putBack_36 : decode cX6_putBack 36 = .ok (.ldc 132, 2) := by decide +kernel
theorem dX6_putBack_38 : decode cX6_putBack 38 = .ok (.ireturn, 1) := by decide +kernel
theorem dX6_putBack_39 : decode cX6_putBack 39 = .ok (.aload_n 0, 1) := by decide +kernel
theorem dX6_putBack_40 : decode cX6_putBack 40 = .ok (.getfield 39, 3) := by decide +kernel
theorem dX6_putBack_43 : decode cX6_putBack 43 = .ok (.aload_n 0, 1) := by decide +kernel
theorem dX6_putBack_44 : decode cX6_putBack 44 = .ok (.getfield 26, 3) := by decide +kernel
theorem dX6_putBack_47 : decode cX6_putBack 47 = .ok (.invokevirtual 139, 3) := by decide +kernel
theorem dX6_putBack_50 : decode cX6_putBack 50 = .ok (.aload_n 0, 1) := by decide +kernel
theorem dX6_putBack_51 : decode cX6_putBack 51 = .ok (.getfield 26, 3) := by decide +kernel
theorem dX6_putBack_54 : decode cX6_putBack 54 = .ok (.iload_n 1, 1) := by decide +kernel
theorem dX6_putBack_55 : decode cX6_putBack 55 = .ok (.aload_n 0, 1) := by decide +kernel
theorem dX6_putBack_56 : decode cX6_putBack 56 = .ok (.getfield 26, 3) := by decide +kernel
theorem dX6_putBack_59 : decode cX6_putBack 59 = .ok (.getfield 158, 3) := by decide +kernel
theorem dX6_putBack_62 : decode cX6_putBack 62 = .ok (.iload_n 1, 1) := by decide +kernel
theorem dX6_putBack_63 : decode cX6_putBack 63 = .ok (.iaload, 1) := by decide +kernel
theorem dX6_putBack_64 : decode cX6_putBack 64 = .ok (.invokevirtual 162, 3) := by decide +kernel
theorem dX6_putBack_67 : decode cX6_putBack 67 = .ok (.istore_n 2, 1) := by decide +kernel
theorem dX6_putBack_68 : decode cX6_putBack 68 = .ok (.aload_n 0, 1) := by decide +kernel
theorem dX6_putBack_69 : decode cX6_putBack 69 = .ok (.getfield 26, 3) := by decide +kernel
theorem dX6_putBack_72 : decode cX6_putBack 72 = .ok (.getfield 158, 3) := by decide +kernel
theorem dX6_putBack_75 : decode cX6_putBack 75 = .ok (.iload_n 1, 1) := by decide +kernel
theorem dX6_putBack_76 : decode cX6_putBack 76 = .ok (.aload_n 0, 1) := by decide +kernel
theorem dX6_putBack_77 : decode cX6_putBack 77 = .ok (.getfield 26, 3) := by decide +kernel
theorem dX6_putBack_80 : decode cX6_putBack 80 = .ok (.getfield 166, 3) := by decide +kernel
theorem dX6_putBack_83 : decode cX6_putBack 83 = .ok (.iload_n 1, 1) := by decide +kernel
theorem dX6_putBack_84 : decode cX6_putBack 84 = .ok (.iaload, 1) := by decide +kernel
theorem dX6_putBack_85 : decode cX6_putBack 85 = .ok (.iastore, 1) := by decide +kernel
theorem dX6_putBack_86 : decode cX6_putBack 86 = .ok (.aload_n 0, 1) := by decide +kernel
theorem dX6_putBack_87 : decode cX6_putBack 87 = .ok (.getfield 26, 3) := by decide +kernel
theorem dX6_putBack_90 : decode cX6_putBack 90 = .ok (.dup, 1) := by decide +kernel
theorem dX6_putBack_91 : decode cX6_putBack 91 = .ok (.getfield 169, 3) := by decide +kernel
theorem dX6_putBack_94 : decode cX6_putBack 94 = .ok (.iload_n 2, 1) := by decide +kernel
theorem dX6_putBack_95 : decode cX6_putBack 95 = .ok (.iadd, 1) := by decide +kernel
theorem dX6_putBack_96 : decode cX6_putBack 96 = .ok (.putfield 169, 3) := by decide +kernel
theorem dX6_putBack_99 : decode cX6_putBack 99 = .ok (.iload_n 2, 1) := by decide +kernel
theorem dX6_putBack_100 : decode cX6_putBack 100 = .ok (.ireturn, 1) := by decide +kernel
theorem dX6_send_0 : decode cX6_send 0 = .ok (.aload_n 0, 1) := by decide +kernel
theorem dX6_send_1 : decode cX6_send 1 = .ok (.getfield 26, 3) := by decide +kernel
theorem dX6_send_4 : decode cX6_send 4 = .ok (.iload_n 1, 1) := by decide +kernel
theorem dX6_send_5 : decode cX6_send 5 = .ok (.invokevirtual 149, 3) := by decide +kernel
theorem dX6_send_8 : decode cX6_send 8 = .ok (.ifCond .eq 19, 3) := by decide +kernel
theorem dX6_send_11 : decode cX6_send 11 = .ok (.aload_n 0, 1) := by decide +kernel
theorem dX6_send_12 : decode cX6_send 12 = .ok (.getfield 26, 3) := by decide +kernel
theorem dX6_send_15 : decode cX6_send 15 = .ok (.iload_n 2, 1) := by decide +kernel
theorem dX6_send_16 : decode cX6_send 16 = .ok (.invokevirtual 149, 3) := by decide +kernel
theorem dX6_send_19 : decode cX6_send 19 = .ok (.ifCond .eq 8, 3) := by decide +kernel
theorem dX6_send_22 : decode cX6_send 22 = .ok (.iload_n 1, 1) := by decide +kernel
theorem dX6_send_23 : decode cX6_send 23 = .ok (.iload_n 2, 1) := by decide +kernel
theorem dX6_send_24 : decode cX6_send 24 = .ok (.if_icmp .ne 6, 3) := by decide +kernel
theorem dX6_send_27 : decode cX6_send 27 = .ok (.ldc 71, 2) := by decide +kernel
theorem dX6_send_29 : decode cX6_send 29 = .ok (.ireturn, 1) := by decide +kernel
theorem dX6_send_30 : decode cX6_send 30 = .ok (.aload_n 0, 1) := by decide +kernel
theorem dX6_send_31 : decode cX6_send 31 = .ok (.getfield 26, 3) := by decide +kernel
theorem dX6_send_34 : decode cX6_send 34 = .ok (.iload_n 1, 1) := by decide +kernel
theorem dX6_send_35 : decode cX6_send 35 = .ok (.invokevirtual 152, 3) := by decide +kernel
theorem dX6_send_38 : decode cX6_send 38 = .ok (.ifCond .eq 14, 3) := by decide +kernel
theorem dX6_send_41 : decode cX6_send 41 = .ok (.aload_n 0, 1) := by decide +kernel
theorem dX6_send_42 : decode cX6_send 42 = .ok (.getfield 26, 3) := by decide +kernel
theorem dX6_send_45 : decode cX6_send 45 = .ok (.iload_n 2, 1) := by decide +kernel
theorem dX6_send_46 : decode cX6_send 46 = .ok (.invokevirtual 152, 3) := by decide +kernel
theorem dX6_send_49 : decode cX6_send 49 = .ok (.ifCond .ne 6, 3) := by decide +kernel
theorem dX6_send_52 : decode cX6_send 52 = .ok (.ldc 132, 2) := by decide +kernel
theorem dX6_send_54 : decode cX6_send 54 = .ok (.ireturn, 1) := by decide +kernel
theorem dX6_send_55 : decode cX6_send 55 = .ok (.aload_n 0, 1) := by decide +kernel
theorem dX6_send_56 : decode cX6_send 56 = .ok (.getfield 39, 3) := by decide +kernel
theorem dX6_send_59 : decode cX6_send 59 = .ok (.aload_n 0, 1) := by decide +kernel
theorem dX6_send_60 : decode cX6_send 60 = .ok (.getfield 26, 3) := by decide +kernel
theorem dX6_send_63 : decode cX6_send 63 = .ok (.invokevirtual 139, 3) := by decide +kernel
theorem dX6_send_66 : decode cX6_send 66 = .ok (.aload_n 0, 1) := by decide +kernel
theorem dX6_send_67 : decode cX6_send 67 = .ok (.getfield 26, 3) := by decide +kernel
theorem dX6_send_70 : decode cX6_send 70 = .ok (.getfield 158, 3) := by decide +kernel
theorem dX6_send_73 : decode cX6_send 73 = .ok (.iload_n 1, 1) := by decide +kernel
theorem dX6_send_74 : decode cX6_send 74 = .ok (.iaload, 1) := by decide +kernel
theorem dX6_send_75 : decode cX6_send 75 = .ok (.istore_n 3, 1) := by decide +kernel
theorem dX6_send_76 : decode cX6_send 76 = .ok (.aload_n 0, 1) := by decide +kernel
theorem dX6_send_77 : decode cX6_send 77 = .ok (.getfield 26, 3) := by decide +kernel
theorem dX6_send_80 : decode cX6_send 80 = .ok (.getfield 158, 3) := by decide +kernel
theorem dX6_send_83 : decode cX6_send 83 = .ok (.iload_n 1, 1) := by decide +kernel
theorem dX6_send_84 : decode cX6_send 84 = .ok (.aload_n 0, 1) := by decide +kernel
theorem dX6_send_85 : decode cX6_send 85 = .ok (.getfield 26, 3) := by decide +kernel
theorem dX6_send_88 : decode cX6_send 88 = .ok (.getfield 158, 3) := by decide +kernel
theorem dX6_send_91 : decode cX6_send 91 = .ok (.iload_n 2, 1) := by decide +kernel
theorem dX6_send_92 : decode cX6_send 92 = .ok (.iaload, 1) := by decide +kernel
theorem dX6_send_93 : decode cX6_send 93 = .ok (.iastore, 1) := by decide +kernel
theorem dX6_send_94 : decode cX6_send 94 = .ok (.aload_n 0, 1) := by decide +kernel
theorem dX6_send_95 : decode cX6_send 95 = .ok (.getfield 26, 3) := by decide +kernel
theorem dX6_send_98 : decode cX6_send 98 = .ok (.getfield 158, 3) := by decide +kernel
theorem dX6_send_101 : decode cX6_send 101 = .ok (.iload_n 2, 1) := by decide +kernel
theorem dX6_send_102 : decode cX6_send 102 = .ok (.iload_n 3, 1) := by decide +kernel
theorem dX6_send_103 : decode cX6_send 103 = .ok (.iastore, 1) := by decide +kernel
theorem dX6_send_104 : decode cX6_send 104 = .ok (.aload_n 0, 1) := by decide +kernel
theorem dX6_send_105 : decode cX6_send 105 = .ok (.getfield 26, 3) := by decide +kernel
theorem dX6_send_108 : decode cX6_send 108 = .ok (.dup, 1) := by decide +kernel
theorem dX6_send_109 : decode cX6_send 109 = .ok (.getfield 169, 3) := by decide +kernel
theorem dX6_send_112 : decode cX6_send 112 = .ok (.aload_n 0, 1) := by decide +kernel
theorem dX6_send_113 : decode cX6_send 113 = .ok (.getfield 26, 3) := by decide +kernel
theorem dX6_send_116 : decode cX6_send 116 = .ok (.getfield 172, 3) := by decide +kernel
theorem dX6_send_119 : decode cX6_send 119 = .ok (.iadd, 1) := by decide +kernel
theorem dX6_send_120 : decode cX6_send 120 = .ok (.putfield 169, 3) := by decide +kernel
theorem dX6_send_123 : decode cX6_send 123 = .ok (.aload_n 0, 1) := by decide +kernel
theorem dX6_send_124 : decode cX6_send 124 = .ok (.getfield 26, 3) := by decide +kernel
theorem dX6_send_127 : decode cX6_send 127 = .ok (.iload_n 1, 1) := by decide +kernel
theorem dX6_send_128 : decode cX6_send 128 = .ok (.invokevirtual 155, 3) := by decide +kernel
theorem dX6_send_131 : decode cX6_send 131 = .ok (.aload_n 0, 1) := by decide +kernel
theorem dX6_send_132 : decode cX6_send 132 = .ok (.getfield 26, 3) := by decide +kernel
theorem dX6_send_135 : decode cX6_send 135 = .ok (.iload_n 2, 1) := by decide +kernel
theorem dX6_send_136 : decode cX6_send 136 = .ok (.invokevirtual 155, 3) := by decide +kernel
theorem dX6_send_139 : decode cX6_send 139 = .ok (.iadd, 1) := by decide +kernel
theorem dX6_send_140 : decode cX6_send 140 = .ok (.ireturn, 1) := by decide +kernel
theorem dX6_allow_0 : decode cX6_allow 0 = .ok (.aload_n 0, 1) := by decide +kernel
theorem dX6_allow_1 : decode cX6_allow 1 = .ok (.getfield 26, 3) := by decide +kernel
theorem dX6_allow_4 : decode cX6_allow 4 = .ok (.getfield 123, 3) := by decide +kernel
theorem dX6_allow_7 : decode cX6_allow 7 = .ok (.ifCond .ne 6, 3) := by decide +kernel
theorem dX6_allow_10 : decode cX6_allow 10 = .ok (.ldc 132, 2) := by decide +kernel
theorem dX6_allow_12 : decode cX6_allow 12 = .ok (.ireturn, 1) := by decide +kernel
theorem dX6_allow_13 : decode cX6_allow 13 = .ok (.iload_n 1, 1) := by decide +kernel
theorem dX6_allow_14 : decode cX6_allow 14 = .ok (.iconst 0, 1) := by decide +kernel
theorem dX6_allow_15 : decode cX6_allow 15 = .ok (.bipush 9, 2) := by decide +kernel
theorem dX6_allow_17 : decode cX6_allow 17 = .ok (.invokestatic 67, 3) := by decide +kernel
theorem dX6_allow_20 : decode cX6_allow 20 = .ok (.ifCond .ne 6, 3) := by decide +kernel
theorem dX6_allow_23 : decode cX6_allow 23 = .ok (.ldc 71, 2) := by decide +kernel
theorem dX6_allow_25 : decode cX6_allow 25 = .ok (.ireturn, 1) := by decide +kernel
theorem dX6_allow_26 : decode cX6_allow 26 = .ok (.aload_n 0, 1) := by decide +kernel
theorem dX6_allow_27 : decode cX6_allow 27 = .ok (.getfield 39, 3) := by decide +kernel
theorem dX6_allow_30 : decode cX6_allow 30 = .ok (.aload_n 0, 1) := by decide +kernel
theorem dX6_allow_31 : decode cX6_allow 31 = .ok (.getfield 26, 3) := by decide +kernel
theorem dX6_allow_34 : decode cX6_allow 34 = .ok (.invokevirtual 139, 3) := by decide +kernel
theorem dX6_allow_37 : decode cX6_allow 37 = .ok (.aload_n 0, 1) := by decide +kernel
theorem dX6_allow_38 : decode cX6_allow 38 = .ok (.getfield 26, 3) := by decide +kernel
theorem dX6_allow_41 : decode cX6_allow 41 = .ok (.getfield 175, 3) := by decide +kernel
theorem dX6_allow_44 : decode cX6_allow 44 = .ok (.istore_n 2, 1) := by decide +kernel
theorem dX6_allow_45 : decode cX6_allow 45 = .ok (.aload_n 0, 1) := by decide +kernel
theorem dX6_allow_46 : decode cX6_allow 46 = .ok (.getfield 26, 3) := by decide +kernel
theorem dX6_allow_49 : decode cX6_allow 49 = .ok (.iload_n 1, 1) := by decide +kernel
theorem dX6_allow_50 : decode cX6_allow 50 = .ok (.putfield 175, 3) := by decide +kernel
theorem dX6_allow_53 : decode cX6_allow 53 = .ok (.iload_n 2, 1) := by decide +kernel
theorem dX6_allow_54 : decode cX6_allow 54 = .ok (.ireturn, 1) := by decide +kernel
theorem dX6_thing_0 : decode cX6_thing 0 = .ok (.aload_n 0, 1) := by decide +kernel
theorem dX6_thing_1 : decode cX6_thing 1 = .ok (.getfield 26, 3) := by decide +kernel
theorem dX6_thing_4 : decode cX6_thing 4 = .ok (.iload_n 1, 1) := by decide +kernel
theorem dX6_thing_5 : decode cX6_thing 5 = .ok (.invokevirtual 149, 3) := by decide +kernel
theorem dX6_thing_8 : decode cX6_thing 8 = .ok (.ifCond .ne 6, 3) := by decide +kernel
theorem dX6_thing_11 : decode cX6_thing 11 = .ok (.ldc 71, 2) := by decide +kernel
theorem dX6_thing_13 : decode cX6_thing 13 = .ok (.ireturn, 1) := by decide +kernel
theorem dX6_thing_14 : decode cX6_thing 14 = .ok (.iload_n 2, 1) := by decide +kernel
theorem dX6_thing_15 : decode cX6_thing 15 = .ok (.tableswitch 162 0 7 #[45, 55, 65, 75, 85, 95, 104, 128], 45) := by decide +kernel
theorem dX6_thing_60 : decode cX6_thing 60 = .ok (.aload_n 0, 1) := by decide +kernel
theorem dX6_thing_61 : decode cX6_thing 61 = .ok (.getfield 26, 3) := by decide +kernel
theorem dX6_thing_64 : decode cX6_thing 64 = .ok (.getfield 158, 3) := by decide +kernel
theorem dX6_thing_67 : decode cX6_thing 67 = .ok (.iload_n 1, 1) := by decide +kernel
theorem dX6_thing_68 : decode cX6_thing 68 = .ok (.iaload, 1) := by decide +kernel
theorem dX6_thing_69 : decode cX6_thing 69 = .ok (.ireturn, 1) := by decide +kernel
theorem dX6_thing_70 : decode cX6_thing 70 = .ok (.aload_n 0, 1) := by decide +kernel
theorem dX6_thing_71 : decode cX6_thing 71 = .ok (.getfield 26, 3) := by decide +kernel
theorem dX6_thing_74 : decode cX6_thing 74 = .ok (.getfield 166, 3) := by decide +kernel
theorem dX6_thing_77 : decode cX6_thing 77 = .ok (.iload_n 1, 1) := by decide +kernel
theorem dX6_thing_78 : decode cX6_thing 78 = .ok (.iaload, 1) := by decide +kernel
theorem dX6_thing_79 : decode cX6_thing 79 = .ok (.ireturn, 1) := by decide +kernel
theorem dX6_thing_80 : decode cX6_thing 80 = .ok (.aload_n 0, 1) := by decide +kernel
theorem dX6_thing_81 : decode cX6_thing 81 = .ok (.getfield 26, 3) := by decide +kernel
theorem dX6_thing_84 : decode cX6_thing 84 = .ok (.getfield 178, 3) := by decide +kernel
theorem dX6_thing_87 : decode cX6_thing 87 = .ok (.iload_n 1, 1) := by decide +kernel
theorem dX6_thing_88 : decode cX6_thing 88 = .ok (.iaload, 1) := by decide +kernel
theorem dX6_thing_89 : decode cX6_thing 89 = .ok (.ireturn, 1) := by decide +kernel
theorem dX6_thing_90 : decode cX6_thing 90 = .ok (.aload_n 0, 1) := by decide +kernel
theorem dX6_thing_91 : decode cX6_thing 91 = .ok (.getfield 26, 3) := by decide +kernel
theorem dX6_thing_94 : decode cX6_thing 94 = .ok (.getfield 181, 3) := by decide +kernel
theorem dX6_thing_97 : decode cX6_thing 97 = .ok (.iload_n 1, 1) := by decide +kernel
theorem dX6_thing_98 : decode cX6_thing 98 = .ok (.iaload, 1) := by decide +kernel
theorem dX6_thing_99 : decode cX6_thing 99 = .ok (.ireturn, 1) := by decide +kernel
theorem dX6_thing_100 : decode cX6_thing 100 = .ok (.aload_n 0, 1) := by decide +kernel
theorem dX6_thing_101 : decode cX6_thing 101 = .ok (.getfield 26, 3) := by decide +kernel
theorem dX6_thing_104 : decode cX6_thing 104 = .ok (.getfield 184, 3) := by decide +kernel
theorem dX6_thing_107 : decode cX6_thing 107 = .ok (.iload_n 1, 1) := by decide +kernel
theorem dX6_thing_108 : decode cX6_thing 108 = .ok (.iaload, 1) := by decide +kernel
theorem dX6_thing_109 : decode cX6_thing 109 = .ok (.ireturn, 1) := by decide +kernel
theorem dX6_thing_110 : decode cX6_thing 110 = .ok (.aload_n 0, 1) := by decide +kernel
theorem dX6_thing_111 : decode cX6_thing 111 = .ok (.getfield 26, 3) := by decide +kernel
theorem dX6_thing_114 : decode cX6_thing 114 = .ok (.iload_n 1, 1) := by decide +kernel
theorem dX6_thing_115 : decode cX6_thing 115 = .ok (.invokevirtual 155, 3) := by decide +kernel
theorem dX6_thing_118 : decode cX6_thing 118 = .ok (.ireturn, 1) := by decide +kernel
theorem dX6_thing_119 : decode cX6_thing 119 = .ok (.aload_n 0, 1) := by decide +kernel
theorem dX6_thing_120 : decode cX6_thing 120 = .ok (.getfield 26, 3) := by decide +kernel
theorem dX6_thing_123 : decode cX6_thing 123 = .ok (.iload_n 1, 1) := by decide +kernel
theorem dX6_thing_124 : decode cX6_thing 124 = .ok (.invokevirtual 155, 3) := by decide +kernel
theorem dX6_thing_127 : decode cX6_thing 127 = .ok (.aload_n 0, 1) := by decide +kernel
theorem dX6_thing_128 : decode cX6_thing 128 = .ok (.getfield 26, 3) := by decide +kernel
theorem dX6_thing_131 : decode cX6_thing 131 = .ok (.getfield 175, 3) := by decide +kernel
theorem dX6_thing_134 : decode cX6_thing 134 = .ok (.if_icmp .gt 7, 3) := by decide +kernel
theorem dX6_thing_137 : decode cX6_thing 137 = .ok (.iconst 1, 1) := by decide +kernel
theorem dX6_thing_138 : decode cX6_thing 138 = .ok (.goto 4, 3) := by decide +kernel
theorem dX6_thing_141 : decode cX6_thing 141 = .ok (.iconst 0, 1) := by decide +kernel
theorem dX6_thing_142 : decode cX6_thing 142 = .ok (.ireturn, 1) := by decide +kernel
theorem dX6_thing_143 : decode cX6_thing 143 = .ok (.aload_n 0, 1) := by decide +kernel
theorem dX6_thing_144 : decode cX6_thing 144 = .ok (.getfield 26, 3) := by decide +kernel
theorem dX6_thing_147 : decode cX6_thing 147 = .ok (.iload_n 1, 1) := by decide +kernel
theorem dX6_thing_148 : decode cX6_thing 148 = .ok (.invokevirtual 152, 3) := by decide +kernel
theorem dX6_thing_151 : decode cX6_thing 151 = .ok (.ifCond .eq 8, 3) := by decide +kernel
theorem dX6_thing_154 : decode cX6_thing 154 = .ok (.ldc 118, 2) := by decide +kernel
theorem dX6_thing_156 : decode cX6_thing 156 = .ok (.goto 20, 3) := by decide +kernel
theorem dX6_thing_159 : decode cX6_thing 159 = .ok (.aload_n 0, 1) := by decide +kernel
theorem dX6_thing_160 : decode cX6_thing 160 = .ok (.getfield 26, 3) := by decide +kernel
theorem dX6_thing_163 : decode cX6_thing 163 = .ok (.iload_n 1, 1) := by decide +kernel
theorem dX6_thing_164 : decode cX6_thing 164 = .ok (.aload_n 0, 1) := by decide +kernel
theorem dX6_thing_165 : decode cX6_thing 165 = .ok (.getfield 26, 3) := by decide +kernel
theorem dX6_thing_168 : decode cX6_thing 168 = .ok (.getfield 158, 3) := by decide +kernel
theorem dX6_thing_171 : decode cX6_thing 171 = .ok (.iload_n 1, 1) := by decide +kernel
theorem dX6_thing_172 : decode cX6_thing 172 = .ok (.iaload, 1) := by decide +kernel
theorem dX6_thing_173 : decode cX6_thing 173 = .ok (.invokevirtual 162, 3) := by decide +kernel
theorem dX6_thing_176 : decode cX6_thing 176 = .ok (.ireturn, 1) := by decide +kernel
theorem dX6_thing_177 : decode cX6_thing 177 = .ok (.ldc 71, 2) := by decide +kernel
theorem dX6_thing_179 : decode cX6_thing 179 = .ok (.ireturn, 1) := by decide +kernel
theorem dX6_holds_0 : decode cX6_holds 0 = .ok (.aload_n 0, 1) := by decide +kernel
theorem dX6_holds_1 : decode cX6_holds 1 = .ok (.getfield 26, 3) := by decide +kernel
theorem dX6_holds_4 : decode cX6_holds 4 = .ok (.getfield 123, 3) := by decide +kernel
theorem dX6_holds_7 : decode cX6_holds 7 = .ok (.ifCond .ne 6, 3) := by decide +kernel
theorem dX6_holds_10 : decode cX6_holds 10 = .ok (.ldc 132, 2) := by decide +kernel
theorem dX6_holds_12 : decode cX6_holds 12 = .ok (.ireturn, 1) := by decide +kernel
theorem dX6_holds_13 : decode cX6_holds 13 = .ok (.iload_n 1, 1) := by decide +kernel
theorem dX6_holds_14 : decode cX6_holds 14 = .ok (.tableswitch 74 0 4 #[34, 42, 50, 58, 66], 34) := by decide +kernel
theorem dX6_holds_48 : decode cX6_holds 48 = .ok (.aload_n 0, 1) := by decide +kernel
theorem dX6_holds_49 : decode cX6_holds 49 = .ok (.getfield 26, 3) := by decide +kernel
theorem dX6_holds_52 : decode cX6_holds 52 = .ok (.getfield 169, 3) := by decide +kernel
theorem dX6_holds_55 : decode cX6_holds 55 = .ok (.ireturn, 1) := by decide +kernel
theorem dX6_holds_56 : decode cX6_holds 56 = .ok (.aload_n 0, 1) := by decide +kernel
theorem dX6_holds_57 : decode cX6_holds 57 = .ok (.getfield 26, 3) := by decide +kernel
theorem dX6_holds_60 : decode cX6_holds 60 = .ok (.getfield 175, 3) := by decide +kernel
theorem dX6_holds_63 : decode cX6_holds 63 = .ok (.ireturn, 1) := by decide +kernel
theorem dX6_holds_64 : decode cX6_holds 64 = .ok (.aload_n 0, 1) := by decide +kernel
theorem dX6_holds_65 : decode cX6_holds 65 = .ok (.getfield 26, 3) := by decide +kernel
theorem dX6_holds_68 : decode cX6_holds 68 = .ok (.getfield 172, 3) := by decide +kernel
theorem dX6_holds_71 : decode cX6_holds 71 = .ok (.ireturn, 1) := by decide +kernel
theorem dX6_holds_72 : decode cX6_holds 72 = .ok (.aload_n 0, 1) := by decide +kernel
theorem dX6_holds_73 : decode cX6_holds 73 = .ok (.getfield 26, 3) := by decide +kernel
theorem dX6_holds_76 : decode cX6_holds 76 = .ok (.invokevirtual 145, 3) := by decide +kernel
theorem dX6_holds_79 : decode cX6_holds 79 = .ok (.ireturn, 1) := by decide +kernel
theorem dX6_holds_80 : decode cX6_holds 80 = .ok (.aload_n 0, 1) := by decide +kernel
theorem dX6_holds_81 : decode cX6_holds 81 = .ok (.getfield 26, 3) := by decide +kernel
theorem dX6_holds_84 : decode cX6_holds 84 = .ok (.invokevirtual 187, 3) := by decide +kernel
theorem dX6_holds_87 : decode cX6_holds 87 = .ok (.ireturn, 1) := by decide +kernel
theorem dX6_holds_88 : decode cX6_holds 88 = .ok (.ldc 71, 2) := by decide +kernel
theorem dX6_holds_90 : decode cX6_holds 90 = .ok (.ireturn, 1) := by decide +kernel
theorem dX6_ahead_0 : decode cX6_ahead 0 = .ok (.aload_n 0, 1) := by decide +kernel
theorem dX6_ahead_1 : decode cX6_ahead 1 = .ok (.getfield 26, 3) := by decide +kernel
theorem dX6_ahead_4 : decode cX6_ahead 4 = .ok (.iload_n 1, 1) := by decide +kernel
theorem dX6_ahead_5 : decode cX6_ahead 5 = .ok (.invokevirtual 149, 3) := by decide +kernel
theorem dX6_ahead_8 : decode cX6_ahead 8 = .ok (.ifCond .eq 13, 3) := by decide +kernel
theorem dX6_ahead_11 : decode cX6_ahead 11 = .ok (.iload_n 2, 1) := by decide +kernel
theorem dX6_ahead_12 : decode cX6_ahead 12 = .ok (.iconst 0, 1) := by decide +kernel
theorem dX6_ahead_13 : decode cX6_ahead 13 = .ok (.bipush 60, 2) := by decide +kernel
theorem dX6_ahead_15 : decode cX6_ahead 15 = .ok (.invokestatic 67, 3) := by decide +kernel
theorem dX6_ahead_18 : decode cX6_ahead 18 = .ok (.ifCond .ne 6, 3) := by decide +kernel
theorem dX6_ahead_21 : decode cX6_ahead 21 = .ok (.ldc 71, 2) := by decide +kernel
theorem dX6_ahead_23 : decode cX6_ahead 23 = .ok (.ireturn, 1) := by decide +kernel
theorem dX6_ahead_24 : decode cX6_ahead 24 = .ok (.aload_n 0, 1) := by decide +kernel
theorem dX6_ahead_25 : decode cX6_ahead 25 = .ok (.getfield 48, 3) := by decide +kernel
theorem dX6_ahead_28 : decode cX6_ahead 28 = .ok (.iload_n 1, 1) := by decide +kernel
theorem dX6_ahead_29 : decode cX6_ahead 29 = .ok (.iload_n 2, 1) := by decide +kernel
theorem dX6_ahead_30 : decode cX6_ahead 30 = .ok (.invokevirtual 190, 3) := by decide +kernel
theorem dX6_ahead_33 : decode cX6_ahead 33 = .ok (.ireturn, 1) := by decide +kernel
theorem dX6_offAhead_0 : decode cX6_offAhead 0 = .ok (.aload_n 0, 1) := by decide +kernel
theorem dX6_offAhead_1 : decode cX6_offAhead 1 = .ok (.getfield 26, 3) := by decide +kernel
theorem dX6_offAhead_4 : decode cX6_offAhead 4 = .ok (.getfield 123, 3) := by decide +kernel
theorem dX6_offAhead_7 : decode cX6_offAhead 7 = .ok (.ifCond .ne 6, 3) := by decide +kernel
theorem dX6_offAhead_10 : decode cX6_offAhead 10 = .ok (.ldc 132, 2) := by decide +kernel
theorem dX6_offAhead_12 : decode cX6_offAhead 12 = .ok (.ireturn, 1) := by decide +kernel
theorem dX6_offAhead_13 : decode cX6_offAhead 13 = .ok (.iload_n 1, 1) := by decide +kernel
theorem dX6_offAhead_14 : decode cX6_offAhead 14 = .ok (.iconst 0, 1) := by decide +kernel
theorem dX6_offAhead_15 : decode cX6_offAhead 15 = .ok (.bipush 60, 2) := by decide +kernel
theorem dX6_offAhead_17 : decode cX6_offAhead 17 = .ok (.invokestatic 67, 3) := by decide +kernel
theorem dX6_offAhead_20 : decode cX6_offAhead 20 = .ok (.ifCond .eq 14, 3) := by decide +kernel
theorem dX6_offAhead_23 : decode cX6_offAhead 23 = .ok (.aload_n 0, 1) := by decide +kernel
theorem dX6_offAhead_24 : decode cX6_offAhead 24 = .ok (.getfield 48, 3) := by decide +kernel
theorem dX6_offAhead_27 : decode cX6_offAhead 27 = .ok (.iload_n 1, 1) := by decide +kernel
theorem dX6_offAhead_28 : decode cX6_offAhead 28 = .ok (.invokevirtual 193, 3) := by decide +kernel
theorem dX6_offAhead_31 : decode cX6_offAhead 31 = .ok (.goto 5, 3) := by decide +kernel
theorem dX6_offAhead_34 : decode cX6_offAhead 34 = .ok (.ldc 71, 2) := by decide +kernel
theorem dX6_offAhead_36 : decode cX6_offAhead 36 = .ok (.ireturn, 1) := by decide +kernel
theorem dX6_lost_0 : decode cX6_lost 0 = .ok (.aload_n 0, 1) := by decide +kernel
theorem dX6_lost_1 : decode cX6_lost 1 = .ok (.getfield 26, 3) := by decide +kernel
theorem dX6_lost_4 : decode cX6_lost 4 = .ok (.getfield 123, 3) := by decide +kernel
theorem dX6_lost_7 : decode cX6_lost 7 = .ok (.ifCond .ne 6, 3) := by decide +kernel
theorem dX6_lost_10 : decode cX6_lost 10 = .ok (.ldc 132, 2) := by decide +kernel
theorem dX6_lost_12 : decode cX6_lost 12 = .ok (.ireturn, 1) := by decide +kernel
theorem dX6_lost_13 : decode cX6_lost 13 = .ok (.iload_n 1, 1) := by decide +kernel
theorem dX6_lost_14 : decode cX6_lost 14 = .ok (.iconst 0, 1) := by decide +kernel
theorem dX6_lost_15 : decode cX6_lost 15 = .ok (.iconst 1, 1) := by decide +kernel
theorem dX6_lost_16 : decode cX6_lost 16 = .ok (.invokestatic 67, 3) := by decide +kernel
theorem dX6_lost_19 : decode cX6_lost 19 = .ok (.ifCond .eq 23, 3) := by decide +kernel
theorem dX6_lost_22 : decode cX6_lost 22 = .ok (.aload_n 0, 1) := by decide +kernel
theorem dX6_lost_23 : decode cX6_lost 23 = .ok (.getfield 48, 3) := by decide +kernel
theorem dX6_lost_26 : decode cX6_lost 26 = .ok (.iload_n 1, 1) := by decide +kernel
theorem dX6_lost_27 : decode cX6_lost 27 = .ok (.iconst 1, 1) := by decide +kernel
theorem dX6_lost_28 : decode cX6_lost 28 = .ok (.if_icmp .ne 7, 3) := by decide +kernel
theorem dX6_lost_31 : decode cX6_lost 31 = .ok (.iconst 1, 1) := by decide +kernel
theorem dX6_lost_32 : decode cX6_lost 32 = .ok (.goto 4, 3) := by decide +kernel
theorem dX6_lost_35 : decode cX6_lost 35 = .ok (.iconst 0, 1) := by decide +kernel
theorem dX6_lost_36 : decode cX6_lost 36 = .ok (.invokevirtual 196, 3) := by decide +kernel
theorem dX6_lost_39 : decode cX6_lost 39 = .ok (.goto 5, 3) := by decide +kernel
theorem dX6_lost_42 : decode cX6_lost 42 = .ok (.ldc 71, 2) := by decide +kernel
theorem dX6_lost_44 : decode cX6_lost 44 = .ok (.ireturn, 1) := by decide +kernel
theorem dX6_cheapest_0 : decode cX6_cheapest 0 = .ok (.aload_n 0, 1) := by decide +kernel
theorem dX6_cheapest_1 : decode cX6_cheapest 1 = .ok (.getfield 26, 3) := by decide +kernel
theorem dX6_cheapest_4 : decode cX6_cheapest 4 = .ok (.iload_n 1, 1) := by decide +kernel
theorem dX6_cheapest_5 : decode cX6_cheapest 5 = .ok (.invokevirtual 149, 3) := by decide +kernel
theorem dX6_cheapest_8 : decode cX6_cheapest 8 = .ok (.ifCond .eq 22, 3) := by decide +kernel
theorem dX6_cheapest_11 : decode cX6_cheapest 11 = .ok (.iload_n 2, 1) := by decide +kernel
theorem dX6_cheapest_12 : decode cX6_cheapest 12 = .ok (.iconst 1, 1) := by decide +kernel
theorem dX6_cheapest_13 : decode cX6_cheapest 13 = .ok (.bipush 24, 2) := by decide +kernel
theorem dX6_cheapest_15 : decode cX6_cheapest 15 = .ok (.invokestatic 67, 3) := by decide +kernel
theorem dX6_cheapest_18 : decode cX6_cheapest 18 = .ok (.ifCond .eq 12, 3) := by decide +kernel
theorem dX6_cheapest_21 : decode cX6_cheapest 21 = .ok (.iload_n 3, 1) := by decide +kernel
theorem dX6_cheapest_22 : decode cX6_cheapest 22 = .ok (.iconst 0, 1) := by decide +kernel
theorem dX6_cheapest_23 : decode cX6_cheapest 23 = .ok (.iconst 1, 1) := by decide +kernel
theorem dX6_cheapest_24 : decode cX6_cheapest 24 = .ok (.invokestatic 67, 3) := by decide +kernel
theorem dX6_cheapest_27 : decode cX6_cheapest 27 = .ok (.ifCond .ne 6, 3) := by decide +kernel
theorem dX6_cheapest_30 : decode cX6_cheapest 30 = .ok (.ldc 71, 2) := by decide +kernel
theorem dX6_cheapest_32 : decode cX6_cheapest 32 = .ok (.ireturn, 1) := by decide +kernel
theorem dX6_cheapest_33 : decode cX6_cheapest 33 = .ok (.aload_n 0, 1) := by decide +kernel
theorem dX6_cheapest_34 : decode cX6_cheapest 34 = .ok (.getfield 26, 3) := by decide +kernel
theorem dX6_cheapest_37 : decode cX6_cheapest 37 = .ok (.iload_n 1, 1) := by decide +kernel
theorem dX6_cheapest_38 : decode cX6_cheapest 38 = .ok (.invokevirtual 152, 3) := by decide +kernel
theorem dX6_cheapest_41 : decode cX6_cheapest 41 = .ok (.ifCond .eq 6, 3) := by decide +kernel
theorem dX6_cheapest_44 : decode cX6_cheapest 44 = .ok (.ldc 132, 2) := by decide +kernel
theorem dX6_cheapest_46 : decode cX6_cheapest 46 = .ok (.ireturn, 1) := by decide +kernel
theorem dX6_cheapest_47 : decode cX6_cheapest 47 = .ok (.aload_n 0, 1) := by decide +kernel
theorem dX6_cheapest_48 : decode cX6_cheapest 48 = .ok (.getfield 48, 3) := by decide +kernel
theorem dX6_cheapest_51 : decode cX6_cheapest 51 = .ok (.iload_n 1, 1) := by decide +kernel
theorem dX6_cheapest_52 : decode cX6_cheapest 52 = .ok (.iload_n 2, 1) := by decide +kernel
theorem dX6_cheapest_53 : decode cX6_cheapest 53 = .ok (.invokevirtual 200, 3) := by decide +kernel
theorem dX6_cheapest_56 : decode cX6_cheapest 56 = .ok (.iload_n 3, 1) := by decide +kernel
theorem dX6_cheapest_57 : decode cX6_cheapest 57 = .ok (.ifCond .ne 13, 3) := by decide +kernel
theorem dX6_cheapest_60 : decode cX6_cheapest 60 = .ok (.aload_n 0, 1) := by decide +kernel
theorem dX6_cheapest_61 : decode cX6_cheapest 61 = .ok (.getfield 48, 3) := by decide +kernel
theorem dX6_cheapest_64 : decode cX6_cheapest 64 = .ok (.getfield 204, 3) := by decide +kernel
theorem dX6_cheapest_67 : decode cX6_cheapest 67 = .ok (.goto 10, 3) := by decide +kernel
theorem dX6_cheapest_70 : decode cX6_cheapest 70 = .ok (.aload_n 0, 1) := by decide +kernel
theorem dX6_cheapest_71 : decode cX6_cheapest 71 = .ok (.getfield 48, 3) := by decide +kernel
theorem dX6_cheapest_74 : decode cX6_cheapest 74 = .ok (.getfield 207, 3) := by decide +kernel
theorem dX6_cheapest_77 : decode cX6_cheapest 77 = .ok (.ireturn, 1) := by decide +kernel
theorem dX6_match_0 : decode cX6_match 0 = .ok (.aload_n 0, 1) := by decide +kernel
theorem dX6_match_1 : decode cX6_match 1 = .ok (.getfield 26, 3) := by decide +kernel
theorem dX6_match_4 : decode cX6_match 4 = .ok (.getfield 123, 3) := by decide +kernel
theorem dX6_match_7 : decode cX6_match 7 = .ok (.ifCond .ne 6, 3) := by decide +kernel
theorem dX6_match_10 : decode cX6_match 10 = .ok (.ldc 132, 2) := by decide +kernel
theorem dX6_match_12 : decode cX6_match 12 = .ok (.ireturn, 1) := by decide +kernel
theorem dX6_match_13 : decode cX6_match 13 = .ok (.iload_n 1, 1) := by decide +kernel
theorem dX6_match_14 : decode cX6_match 14 = .ok (.iconst (-1), 1) := by decide +kernel
theorem dX6_match_15 : decode cX6_match 15 = .ok (.if_icmp .eq 17, 3) := by decide +kernel
theorem dX6_match_18 : decode cX6_match 18 = .ok (.aload_n 0, 1) := by decide +kernel
theorem dX6_match_19 : decode cX6_match 19 = .ok (.getfield 26, 3) := by decide +kernel
theorem dX6_match_22 : decode cX6_match 22 = .ok (.iload_n 1, 1) := by decide +kernel
theorem dX6_match_23 : decode cX6_match 23 = .ok (.invokevirtual 149, 3) := by decide +kernel
theorem dX6_match_26 : decode cX6_match 26 = .ok (.ifCond .ne 6, 3) := by decide +kernel
theorem dX6_match_29 : decode cX6_match 29 = .ok (.ldc 71, 2) := by decide +kernel
theorem dX6_match_31 : decode cX6_match 31 = .ok (.ireturn, 1) := by decide +kernel
theorem dX6_match_32 : decode cX6_match 32 = .ok (.aload_n 0, 1) := by decide +kernel
theorem dX6_match_33 : decode cX6_match 33 = .ok (.getfield 48, 3) := by decide +kernel
theorem dX6_match_36 : decode cX6_match 36 = .ok (.invokevirtual 210, 3) := by decide +kernel
theorem dX6_match_39 : decode cX6_match 39 = .ok (.iload_n 1, 1) := by decide +kernel
theorem dX6_match_40 : decode cX6_match 40 = .ok (.iconst (-1), 1) := by decide +kernel
theorem dX6_match_41 : decode cX6_match 41 = .ok (.if_icmp .ne 13, 3) := by decide +kernel
theorem dX6_match_44 : decode cX6_match 44 = .ok (.aload_n 0, 1) := by decide +kernel
theorem dX6_match_45 : decode cX6_match 45 = .ok (.getfield 48, 3) := by decide +kernel
theorem dX6_match_48 : decode cX6_match 48 = .ok (.getfield 213, 3) := by decide +kernel
theorem dX6_match_51 : decode cX6_match 51 = .ok (.goto 12, 3) := by decide +kernel
theorem dX6_match_54 : decode cX6_match 54 = .ok (.aload_n 0, 1) := by decide +kernel
theorem dX6_match_55 : decode cX6_match 55 = .ok (.getfield 48, 3) := by decide +kernel
theorem dX6_match_58 : decode cX6_match 58 = .ok (.getfield 216, 3) := by decide +kernel
theorem dX6_match_61 : decode cX6_match 61 = .ok (.iload_n 1, 1) := by decide +kernel
theorem dX6_match_62 : decode cX6_match 62 = .ok (.iaload, 1) := by decide +kernel
theorem dX6_match_63 : decode cX6_match 63 = .ok (.ireturn, 1) := by decide +kernel
theorem dX6_gain_0 : decode cX6_gain 0 = .ok (.aload_n 0, 1) := by decide +kernel
theorem dX6_gain_1 : decode cX6_gain 1 = .ok (.getfield 26, 3) := by decide +kernel
theorem dX6_gain_4 : decode cX6_gain 4 = .ok (.getfield 123, 3) := by decide +kernel
theorem dX6_gain_7 : decode cX6_gain 7 = .ok (.ifCond .ne 6, 3) := by decide +kernel
theorem dX6_gain_10 : decode cX6_gain 10 = .ok (.ldc 132, 2) := by decide +kernel
theorem dX6_gain_12 : decode cX6_gain 12 = .ok (.ireturn, 1) := by decide +kernel
theorem dX6_gain_13 : decode cX6_gain 13 = .ok (.iload_n 1, 1) := by decide +kernel
theorem dX6_gain_14 : decode cX6_gain 14 = .ok (.iconst 0, 1) := by decide +kernel
theorem dX6_gain_15 : decode cX6_gain 15 = .ok (.iconst 1, 1) := by decide +kernel
theorem dX6_gain_16 : decode cX6_gain 16 = .ok (.invokestatic 67, 3) := by decide +kernel
theorem dX6_gain_19 : decode cX6_gain 19 = .ok (.ifCond .eq 14, 3) := by decide +kernel
theorem dX6_gain_22 : decode cX6_gain 22 = .ok (.aload_n 0, 1) := by decide +kernel
theorem dX6_gain_23 : decode cX6_gain 23 = .ok (.getfield 26, 3) := by decide +kernel
theorem dX6_gain_26 : decode cX6_gain 26 = .ok (.iload_n 1, 1) := by decide +kernel
theorem dX6_gain_27 : decode cX6_gain 27 = .ok (.invokevirtual 219, 3) := by decide +kernel
theorem dX6_gain_30 : decode cX6_gain 30 = .ok (.goto 5, 3) := by decide +kernel
theorem dX6_gain_33 : decode cX6_gain 33 = .ok (.ldc 71, 2) := by decide +kernel
theorem dX6_gain_35 : decode cX6_gain 35 = .ok (.ireturn, 1) := by decide +kernel
theorem dX6_seldom_0 : decode cX6_seldom 0 = .ok (.aload_n 0, 1) := by decide +kernel
theorem dX6_seldom_1 : decode cX6_seldom 1 = .ok (.getfield 26, 3) := by decide +kernel
theorem dX6_seldom_4 : decode cX6_seldom 4 = .ok (.iload_n 1, 1) := by decide +kernel
theorem dX6_seldom_5 : decode cX6_seldom 5 = .ok (.invokevirtual 149, 3) := by decide +kernel
theorem dX6_seldom_8 : decode cX6_seldom 8 = .ok (.ifCond .eq 13, 3) := by decide +kernel
theorem dX6_seldom_11 : decode cX6_seldom 11 = .ok (.iload_n 2, 1) := by decide +kernel
theorem dX6_seldom_12 : decode cX6_seldom 12 = .ok (.iconst 1, 1) := by decide +kernel
theorem dX6_seldom_13 : decode cX6_seldom 13 = .ok (.bipush 60, 2) := by decide +kernel
theorem dX6_seldom_15 : decode cX6_seldom 15 = .ok (.invokestatic 67, 3) := by decide +kernel
theorem dX6_seldom_18 : decode cX6_seldom 18 = .ok (.ifCond .ne 6, 3) := by decide +kernel
theorem dX6_seldom_21 : decode cX6_seldom 21 = .ok (.ldc 71, 2) := by decide +kernel
theorem dX6_seldom_23 : decode cX6_seldom 23 = .ok (.ireturn, 1) := by decide +kernel
theorem dX6_seldom_24 : decode cX6_seldom 24 = .ok (.aload_n 0, 1) := by decide +kernel
theorem dX6_seldom_25 : decode cX6_seldom 25 = .ok (.getfield 48, 3) := by decide +kernel
theorem dX6_seldom_28 : decode cX6_seldom 28 = .ok (.iload_n 1, 1) := by decide +kernel
theorem dX6_seldom_29 : decode cX6_seldom 29 = .ok (.iload_n 2, 1) := by decide +kernel
theorem dX6_seldom_30 : decode cX6_seldom 30 = .ok (.invokevirtual 222, 3) := by decide +kernel
theorem dX6_seldom_33 : decode cX6_seldom 33 = .ok (.ireturn, 1) := by decide +kernel
theorem dX6_round_0 : decode cX6_round 0 = .ok (.aload_n 0, 1) := by decide +kernel
theorem dX6_round_1 : decode cX6_round 1 = .ok (.getfield 26, 3) := by decide +kernel
theorem dX6_round_4 : decode cX6_round 4 = .ok (.getfield 123, 3) := by decide +kernel
theorem dX6_round_7 : decode cX6_round 7 = .ok (.ifCond .ne 8, 3) := by decide +kernel
theorem dX6_round_10 : decode cX6_round 10 = .ok (.ldc 132, 2) := by decide +kernel
theorem dX6_round_12 : decode cX6_round 12 = .ok (.goto 10, 3) := by decide +kernel
theorem dX6_round_15 : decode cX6_round 15 = .ok (.aload_n 0, 1) := by decide +kernel
theorem dX6_round_16 : decode cX6_round 16 = .ok (.getfield 48, 3) := by decide +kernel
theorem dX6_round_19 : decode cX6_round 19 = .ok (.invokevirtual 225, 3) := by decide +kernel
theorem dX6_round_22 : decode cX6_round 22 = .ok (.ireturn, 1) := by decide +kernel
theorem dX6_stealth_0 : decode cX6_stealth 0 = .ok (.aload_n 0, 1) := by decide +kernel
theorem dX6_stealth_1 : decode cX6_stealth 1 = .ok (.getfield 26, 3) := by decide +kernel
theorem dX6_stealth_4 : decode cX6_stealth 4 = .ok (.getfield 123, 3) := by decide +kernel
theorem dX6_stealth_7 : decode cX6_stealth 7 = .ok (.ifCond .ne 6, 3) := by decide +kernel
theorem dX6_stealth_10 : decode cX6_stealth 10 = .ok (.ldc 132, 2) := by decide +kernel
theorem dX6_stealth_12 : decode cX6_stealth 12 = .ok (.ireturn, 1) := by decide +kernel
theorem dX6_stealth_13 : decode cX6_stealth 13 = .ok (.iload_n 1, 1) := by decide +kernel
theorem dX6_stealth_14 : decode cX6_stealth 14 = .ok (.invokestatic 63, 3) := by decide +kernel
theorem dX6_stealth_17 : decode cX6_stealth 17 = .ok (.ifCond .eq 13, 3) := by decide +kernel
theorem dX6_stealth_20 : decode cX6_stealth 20 = .ok (.iload_n 3, 1) := by decide +kernel
theorem dX6_stealth_21 : decode cX6_stealth 21 = .ok (.iconst 1, 1) := by decide +kernel
theorem dX6_stealth_22 : decode cX6_stealth 22 = .ok (.bipush 12, 2) := by decide +kernel
theorem dX6_stealth_24 : decode cX6_stealth 24 = .ok (.invokestatic 67, 3) := by decide +kernel
theorem dX6_stealth_27 : decode cX6_stealth 27 = .ok (.ifCond .ne 6, 3) := by decide +kernel
theorem dX6_stealth_30 : decode cX6_stealth 30 = .ok (.ldc 71, 2) := by decide +kernel
theorem dX6_stealth_32 : decode cX6_stealth 32 = .ok (.ireturn, 1) := by decide +kernel
theorem dX6_stealth_33 : decode cX6_stealth 33 = .ok (.aload_n 0, 1) := by decide +kernel
theorem dX6_stealth_34 : decode cX6_stealth 34 = .ok (.getfield 10, 3) := by decide +kernel
theorem dX6_stealth_37 : decode cX6_stealth 37 = .ok (.iload_n 1, 1) := by decide +kernel
theorem dX6_stealth_38 : decode cX6_stealth 38 = .ok (.iload_n 2, 1) := by decide +kernel
theorem dX6_stealth_39 : decode cX6_stealth 39 = .ok (.iload_n 3, 1) := by decide +kernel
theorem dX6_stealth_40 : decode cX6_stealth 40 = .ok (.invokevirtual 83, 3) := by decide +kernel
theorem dX6_stealth_43 : decode cX6_stealth 43 = .ok (.istore 4, 2) := by decide +kernel
theorem dX6_stealth_45 : decode cX6_stealth 45 = .ok (.iload 4, 2) := by decide +kernel
theorem dX6_stealth_47 : decode cX6_stealth 47 = .ok (.ifCond .eq 12, 3) := by decide +kernel
theorem dX6_stealth_50 : decode cX6_stealth 50 = .ok (.aload_n 0, 1) := by decide +kernel
theorem dX6_stealth_51 : decode cX6_stealth 51 = .ok (.iload 4, 2) := by decide +kernel
theorem dX6_stealth_53 : decode cX6_stealth 53 = .ok (.invokevirtual 72, 3) := by decide +kernel
theorem dX6_stealth_56 : decode cX6_stealth 56 = .ok (.goto 21, 3) := by decide +kernel
theorem dX6_stealth_59 : decode cX6_stealth 59 = .ok (.aload_n 0, 1) := by decide +kernel
theorem dX6_stealth_60 : decode cX6_stealth 60 = .ok (.aload_n 0, 1) := by decide +kernel
theorem dX6_stealth_61 : decode cX6_stealth 61 = .ok (.getfield 48, 3) := by decide +kernel
theorem dX6_stealth_64 : decode cX6_stealth 64 = .ok (.aload_n 0, 1) := by decide +kernel
theorem dX6_stealth_65 : decode cX6_stealth 65 = .ok (.getfield 10, 3) := by decide +kernel
theorem dX6_stealth_68 : decode cX6_stealth 68 = .ok (.iload_n 1, 1) := by decide +kernel
theorem dX6_stealth_69 : decode cX6_stealth 69 = .ok (.iload_n 2, 1) := by decide +kernel
theorem dX6_stealth_70 : decode cX6_stealth 70 = .ok (.iload_n 3, 1) := by decide +kernel
theorem dX6_stealth_71 : decode cX6_stealth 71 = .ok (.invokevirtual 228, 3) := by decide +kernel
theorem dX6_stealth_74 : decode cX6_stealth 74 = .ok (.invokevirtual 80, 3) := by decide +kernel
theorem dX6_stealth_77 : decode cX6_stealth 77 = .ok (.ireturn, 1) := by decide +kernel
theorem dX6_who_0 : decode cX6_who 0 = .ok (.aload_n 0, 1) := by decide +kernel
theorem dX6_who_1 : decode cX6_who 1 = .ok (.getfield 26, 3) := by decide +kernel
theorem dX6_who_4 : decode cX6_who 4 = .ok (.iload_n 1, 1) := by decide +kernel
theorem dX6_who_5 : decode cX6_who 5 = .ok (.invokevirtual 149, 3) := by decide +kernel
theorem dX6_who_8 : decode cX6_who 8 = .ok (.ifCond .eq 21, 3) := by decide +kernel
theorem dX6_who_11 : decode cX6_who 11 = .ok (.iload_n 2, 1) := by decide +kernel
theorem dX6_who_12 : decode cX6_who 12 = .ok (.invokestatic 63, 3) := by decide +kernel
theorem dX6_who_15 : decode cX6_who 15 = .ok (.ifCond .eq 14, 3) := by decide +kernel
theorem dX6_who_18 : decode cX6_who 18 = .ok (.iload 4, 2) := by decide +kernel
theorem dX6_who_20 : decode cX6_who 20 = .ok (.iconst 1, 1) := by decide +kernel
theorem dX6_who_21 : decode cX6_who 21 = .ok (.bipush 12, 2) := by decide +kernel
theorem dX6_who_23 : decode cX6_who 23 = .ok (.invokestatic 67, 3) := by decide +kernel
theorem dX6_who_26 : decode cX6_who 26 = .ok (.ifCond .ne 6, 3) := by decide +kernel
theorem dX6_who_29 : decode cX6_who 29 = .ok (.ldc 71, 2) := by decide +kernel
theorem dX6_who_31 : decode cX6_who 31 = .ok (.ireturn, 1) := by decide +kernel
theorem dX6_who_32 : decode cX6_who 32 = .ok (.aload_n 0, 1) := by decide +kernel
theorem dX6_who_33 : decode cX6_who 33 = .ok (.getfield 10, 3) := by decide +kernel
theorem dX6_who_36 : decode cX6_who 36 = .ok (.iload_n 2, 1) := by decide +kernel
theorem dX6_who_37 : decode cX6_who 37 = .ok (.iload_n 3, 1) := by decide +kernel
theorem dX6_who_38 : decode cX6_who 38 = .ok (.iload 4, 2) := by decide +kernel
theorem dX6_who_40 : decode cX6_who 40 = .ok (.invokevirtual 83, 3) := by decide +kernel
theorem dX6_who_43 : decode cX6_who 43 = .ok (.istore 5, 2) := by decide +kernel
theorem dX6_who_45 : decode cX6_who 45 = .ok (.iload 5, 2) := by decide +kernel
theorem dX6_who_47 : decode cX6_who 47 = .ok (.ifCond .eq 12, 3) := by decide +kernel
theorem dX6_who_50 : decode cX6_who 50 = .ok (.aload_n 0, 1) := by decide +kernel
theorem dX6_who_51 : decode cX6_who 51 = .ok (.iload 5, 2) := by decide +kernel
theorem dX6_who_53 : decode cX6_who 53 = .ok (.invokevirtual 72, 3) := by decide +kernel
theorem dX6_who_56 : decode cX6_who 56 = .ok (.goto 23, 3) := by decide +kernel
theorem dX6_who_59 : decode cX6_who 59 = .ok (.aload_n 0, 1) := by decide +kernel
theorem dX6_who_60 : decode cX6_who 60 = .ok (.aload_n 0, 1) := by decide +kernel
theorem dX6_who_61 : decode cX6_who 61 = .ok (.getfield 48, 3) := by decide +kernel
theorem dX6_who_64 : decode cX6_who 64 = .ok (.iload_n 1, 1) := by decide +kernel
theorem dX6_who_65 : decode cX6_who 65 = .ok (.aload_n 0, 1) := by decide +kernel
theorem dX6_who_66 : decode cX6_who 66 = .ok (.getfield 10, 3) := by decide +kernel
theorem dX6_who_69 : decode cX6_who 69 = .ok (.iload_n 2, 1) := by decide +kernel
theorem dX6_who_70 : decode cX6_who 70 = .ok (.iload_n 3, 1) := by decide +kernel
theorem dX6_who_71 : decode cX6_who 71 = .ok (.iload 4, 2) := by decide +kernel
theorem dX6_who_73 : decode cX6_who 73 = .ok (.invokevirtual 232, 3) := by decide +kernel
theorem dX6_who_76 : decode cX6_who 76 = .ok (.invokevirtual 80, 3) := by decide +kernel
theorem dX6_who_79 : decode cX6_who 79 = .ok (.ireturn, 1) := by decide +kernel
theorem dX6_leastMay_0 : decode cX6_leastMay 0 = .ok (.aload_n 0, 1) := by decide +kernel
theorem dX6_leastMay_1 : decode cX6_leastMay 1 = .ok (.getfield 26, 3) := by decide +kernel
theorem dX6_leastMay_4 : decode cX6_leastMay 4 = .ok (.getfield 123, 3) := by decide +kernel
theorem dX6_leastMay_7 : decode cX6_leastMay 7 = .ok (.ifCond .ne 6, 3) := by decide +kernel
theorem dX6_leastMay_10 : decode cX6_leastMay 10 = .ok (.ldc 132, 2) := by decide +kernel
theorem dX6_leastMay_12 : decode cX6_leastMay 12 = .ok (.ireturn, 1) := by decide +kernel
theorem dX6_leastMay_13 : decode cX6_leastMay 13 = .ok (.iload_n 1, 1) := by decide +kernel
theorem dX6_leastMay_14 : decode cX6_leastMay 14 = .ok (.iconst 0, 1) := by decide +kernel
theorem dX6_leastMay_15 : decode cX6_leastMay 15 = .ok (.bipush 60, 2) := by decide +kernel
theorem dX6_leastMay_17 : decode cX6_leastMay 17 = .ok (.invokestatic 67, 3) := by decide +kernel
theorem dX6_leastMay_20 : decode cX6_leastMay 20 = .ok (.ifCond .eq 14, 3) := by decide +kernel
theorem dX6_leastMay_23 : decode cX6_leastMay 23 = .ok (.aload_n 0, 1) := by decide +kernel
theorem dX6_leastMay_24 : decode cX6_leastMay 24 = .ok (.getfield 48, 3) := by decide +kernel
theorem dX6_leastMay_27 : decode cX6_leastMay 27 = .ok (.iload_n 1, 1) := by decide +kernel
theorem dX6_leastMay_28 : decode cX6_leastMay 28 = .ok (.invokevirtual 236, 3) := by decide +kernel
theorem dX6_leastMay_31 : decode cX6_leastMay 31 = .ok (.goto 5, 3) := by decide +kernel
theorem dX6_leastMay_34 : decode cX6_leastMay 34 = .ok (.ldc 71, 2) := by decide +kernel
theorem dX6_leastMay_36 : decode cX6_leastMay 36 = .ok (.ireturn, 1) := by decide +kernel
theorem dX6_odds_0 : decode cX6_odds 0 = .ok (.aload_n 0, 1) := by decide +kernel
theorem dX6_odds_1 : decode cX6_odds 1 = .ok (.getfield 26, 3) := by decide +kernel
theorem dX6_odds_4 : decode cX6_odds 4 = .ok (.iload_n 1, 1) := by decide +kernel
theorem dX6_odds_5 : decode cX6_odds 5 = .ok (.invokevirtual 149, 3) := by decide +kernel
theorem dX6_odds_8 : decode cX6_odds 8 = .ok (.ifCond .eq 33, 3) := by decide +kernel
theorem dX6_odds_11 : decode cX6_odds 11 = .ok (.iload_n 2, 1) := by decide +kernel
theorem dX6_odds_12 : decode cX6_odds 12 = .ok (.iconst 0, 1) := by decide +kernel
theorem dX6_odds_13 : decode cX6_odds 13 = .ok (.bipush 10, 2) := by decide +kernel
theorem dX6_odds_15 : decode cX6_odds 15 = .ok (.invokestatic 67, 3) := by decide +kernel
theorem dX6_odds_18 : decode cX6_odds 18 = .ok (.ifCond .eq 23, 3) := by decide +kernel
theorem dX6_odds_21 : decode cX6_odds 21 = .ok (.iload_n 3, 1) := by decide +kernel
theorem dX6_odds_22 : decode cX6_odds 22 = .ok (.iconst 0, 1) := by decide +kernel
theorem dX6_odds_23 : decode cX6_odds 23 = .ok (.bipush 9, 2) := by decide +kernel
theorem dX6_odds_25 : decode cX6_odds 25 = .ok (.invokestatic 67, 3) := by decide +kernel
theorem dX6_odds_28 : decode cX6_odds 28 = .ok (.ifCond .eq 13, 3) := by decide +kernel
theorem dX6_odds_31 : decode cX6_odds 31 = .ok (.iload 4, 2) := by decide +kernel
theorem dX6_odds_33 : decode cX6_odds 33 = .ok (.iconst 0, 1) := by decide +kernel
theorem dX6_odds_34 : decode cX6_odds 34 = .ok (.iconst 1, 1) := by decide +kernel
theorem dX6_odds_35 : decode cX6_odds 35 = .ok (.invokestatic 67, 3) := by decide +kernel
theorem dX6_odds_38 : decode cX6_odds 38 = .ok (.ifCond .ne 7, 3) := by decide +kernel
theorem dX6_odds_41 : decode cX6_odds 41 = .ok (.ldc2_w 239, 3) := by decide +kernel
theorem dX6_odds_44 : decode cX6_odds 44 = .ok (.lreturn, 1) := by decide +kernel
theorem dX6_odds_45 : decode cX6_odds 45 = .ok (.aload_n 0, 1) := by decide +kernel
theorem dX6_odds_46 : decode cX6_odds 46 = .ok (.getfield 26, 3) := by decide +kernel
theorem dX6_odds_49 : decode cX6_odds 49 = .ok (.getfield 241, 3) := by decide +kernel
theorem dX6_odds_52 : decode cX6_odds 52 = .ok (.iload_n 1, 1) := by decide +kernel
theorem dX6_odds_53 : decode cX6_odds 53 = .ok (.iaload, 1) := by decide +kernel
theorem dX6_odds_54 : decode cX6_odds 54 = .ok (.iconst 1, 1) := by decide +kernel
theorem dX6_odds_55 : decode cX6_odds 55 = .ok (.if_icmp .eq 20, 3) := by decide +kernel
theorem dX6_odds_58 : decode cX6_odds 58 = .ok (.aload_n 0, 1) := by decide +kernel
theorem dX6_odds_59 : decode cX6_odds 59 = .ok (.getfield 26, 3) := by decide +kernel
theorem dX6_odds_62 : decode cX6_odds 62 = .ok (.getfield 241, 3) := by decide +kernel
theorem dX6_odds_65 : decode cX6_odds 65 = .ok (.iload_n 1, 1) := by decide +kernel
theorem dX6_odds_66 : decode cX6_odds 66 = .ok (.iaload, 1) := by decide +kernel
theorem dX6_odds_67 : decode cX6_odds 67 = .ok (.iconst 2, 1) := by decide +kernel
theorem dX6_odds_68 : decode cX6_odds 68 = .ok (.if_icmp .eq 7, 3) := by decide +kernel
theorem dX6_odds_71 : decode cX6_odds 71 = .ok (.ldc2_w 244, 3) := by decide +kernel
theorem dX6_odds_74 : decode cX6_odds 74 = .ok (.lreturn, 1) := by decide +kernel
theorem dX6_odds_75 : decode cX6_odds 75 = .ok (.aload_n 0, 1) := by decide +kernel
theorem dX6_odds_76 : decode cX6_odds 76 = .ok (.getfield 48, 3) := by decide +kernel
theorem dX6_odds_79 : decode cX6_odds 79 = .ok (.iload_n 1, 1) := by decide +kernel
theorem dX6_odds_80 : decode cX6_odds 80 = .ok (.iload_n 2, 1) := by decide +kernel
theorem dX6_odds_81 : decode cX6_odds 81 = .ok (.iload_n 3, 1) := by decide +kernel
theorem dX6_odds_82 : decode cX6_odds 82 = .ok (.iload 4, 2) := by decide +kernel
theorem dX6_odds_84 : decode cX6_odds 84 = .ok (.iconst 1, 1) := by decide +kernel
theorem dX6_odds_85 : decode cX6_odds 85 = .ok (.if_icmp .ne 7, 3) := by decide +kernel
theorem dX6_odds_88 : decode cX6_odds 88 = .ok (.iconst 1, 1) := by decide +kernel
theorem dX6_odds_89 : decode cX6_odds 89 = .ok (.goto 4, 3) := by decide +kernel
theorem dX6_odds_92 : decode cX6_odds 92 = .ok (.iconst 0, 1) := by decide +kernel
theorem dX6_odds_93 : decode cX6_odds 93 = .ok (.invokevirtual 246, 3) := by decide +kernel
theorem dX6_odds_96 : decode cX6_odds 96 = .ok (.lreturn, 1) := by decide +kernel
theorem dX6_store_0 : decode cX6_store 0 = .ok (.aload_n 0, 1) := by decide +kernel
theorem dX6_store_1 : decode cX6_store 1 = .ok (.getfield 26, 3) := by decide +kernel
theorem dX6_store_4 : decode cX6_store 4 = .ok (.getfield 123, 3) := by decide +kernel
theorem dX6_store_7 : decode cX6_store 7 = .ok (.ifCond .ne 6, 3) := by decide +kernel
theorem dX6_store_10 : decode cX6_store 10 = .ok (.ldc 132, 2) := by decide +kernel
theorem dX6_store_12 : decode cX6_store 12 = .ok (.ireturn, 1) := by decide +kernel
theorem dX6_store_13 : decode cX6_store 13 = .ok (.iload_n 1, 1) := by decide +kernel
theorem dX6_store_14 : decode cX6_store 14 = .ok (.iconst 1, 1) := by decide +kernel
theorem dX6_store_15 : decode cX6_store 15 = .ok (.bipush 60, 2) := by decide +kernel
theorem dX6_store_17 : decode cX6_store 17 = .ok (.invokestatic 67, 3) := by decide +kernel
theorem dX6_store_20 : decode cX6_store 20 = .ok (.ifCond .eq 14, 3) := by decide +kernel
theorem dX6_store_23 : decode cX6_store 23 = .ok (.aload_n 0, 1) := by decide +kernel
theorem dX6_store_24 : decode cX6_store 24 = .ok (.getfield 48, 3) := by decide +kernel
theorem dX6_store_27 : decode cX6_store 27 = .ok (.iload_n 1, 1) := by decide +kernel
theorem dX6_store_28 : decode cX6_store 28 = .ok (.invokevirtual 250, 3) := by decide +kernel
theorem dX6_store_31 : decode cX6_store 31 = .ok (.goto 5, 3) := by decide +kernel
theorem dX6_store_34 : decode cX6_store 34 = .ok (.ldc 71, 2) := by decide +kernel
theorem dX6_store_36 : decode cX6_store 36 = .ok (.ireturn, 1) := by decide +kernel
theorem dX6_drawn_0 : decode cX6_drawn 0 = .ok (.aload_n 0, 1) := by decide +kernel
theorem dX6_drawn_1 : decode cX6_drawn 1 = .ok (.getfield 26, 3) := by decide +kernel
theorem dX6_drawn_4 : decode cX6_drawn 4 = .ok (.getfield 123, 3) := by decide +kernel
theorem dX6_drawn_7 : decode cX6_drawn 7 = .ok (.ifCond .ne 6, 3) := by decide +kernel
theorem dX6_drawn_10 : decode cX6_drawn 10 = .ok (.ldc 132, 2) := by decide +kernel
theorem dX6_drawn_12 : decode cX6_drawn 12 = .ok (.ireturn, 1) := by decide +kernel
theorem dX6_drawn_13 : decode cX6_drawn 13 = .ok (.iload_n 1, 1) := by decide +kernel
theorem dX6_drawn_14 : decode cX6_drawn 14 = .ok (.iconst 0, 1) := by decide +kernel
theorem dX6_drawn_15 : decode cX6_drawn 15 = .ok (.bipush 60, 2) := by decide +kernel
theorem dX6_drawn_17 : decode cX6_drawn 17 = .ok (.invokestatic 67, 3) := by decide +kernel
theorem dX6_drawn_20 : decode cX6_drawn 20 = .ok (.ifCond .eq 22, 3) := by decide +kernel
theorem dX6_drawn_23 : decode cX6_drawn 23 = .ok (.iload_n 2, 1) := by decide +kernel
theorem dX6_drawn_24 : decode cX6_drawn 24 = .ok (.iconst 1, 1) := by decide +kernel
theorem dX6_drawn_25 : decode cX6_drawn 25 = .ok (.ldc 253, 2) := by decide +kernel
theorem dX6_drawn_27 : decode cX6_drawn 27 = .ok (.invokestatic 67, 3) := by decide +kernel
theorem dX6_drawn_30 : decode cX6_drawn 30 = .ok (.ifCond .eq 12, 3) := by decide +kernel
theorem dX6_drawn_33 : decode cX6_drawn 33 = .ok (.iload_n 3, 1) := by decide +kernel
theorem dX6_drawn_34 : decode cX6_drawn 34 = .ok (.iconst 0, 1) := by decide +kernel
theorem dX6_drawn_35 : decode cX6_drawn 35 = .ok (.iconst 1, 1) := by decide +kernel
theorem dX6_drawn_36 : decode cX6_drawn 36 = .ok (.invokestatic 67, 3) := by decide +kernel
theorem dX6_drawn_39 : decode cX6_drawn 39 = .ok (.ifCond .ne 6, 3) := by decide +kernel
theorem dX6_drawn_42 : decode cX6_drawn 42 = .ok (.ldc 71, 2) := by decide +kernel
theorem dX6_drawn_44 : decode cX6_drawn 44 = .ok (.ireturn, 1) := by decide +kernel
theorem dX6_drawn_45 : decode cX6_drawn 45 = .ok (.aload_n 0, 1) := by decide +kernel
theorem dX6_drawn_46 : decode cX6_drawn 46 = .ok (.getfield 48, 3) := by decide +kernel
theorem dX6_drawn_49 : decode cX6_drawn 49 = .ok (.iload_n 1, 1) := by decide +kernel
theorem dX6_drawn_50 : decode cX6_drawn 50 = .ok (.iload_n 2, 1) := by decide +kernel
theorem dX6_drawn_51 : decode cX6_drawn 51 = .ok (.invokevirtual 254, 3) := by decide +kernel
theorem dX6_drawn_54 : decode cX6_drawn 54 = .ok (.istore 4, 2) := by decide +kernel
theorem dX6_drawn_56 : decode cX6_drawn 56 = .ok (.iload_n 3, 1) := by decide +kernel
theorem dX6_drawn_57 : decode cX6_drawn 57 = .ok (.ifCond .ne 8, 3) := by decide +kernel
theorem dX6_drawn_60 : decode cX6_drawn 60 = .ok (.iload 4, 2) := by decide +kernel
theorem dX6_drawn_62 : decode cX6_drawn 62 = .ok (.goto 10, 3) := by decide +kernel
theorem dX6_drawn_65 : decode cX6_drawn 65 = .ok (.aload_n 0, 1) := by decide +kernel
theorem dX6_drawn_66 : decode cX6_drawn 66 = .ok (.getfield 48, 3) := by decide +kernel
theorem dX6_drawn_69 : decode cX6_drawn 69 = .ok (.invokevirtual 257, 3) := by decide +kernel
theorem dX6_drawn_72 : decode cX6_drawn 72 = .ok (.ireturn, 1) := by decide +kernel
theorem dX6_image_0 : decode cX6_image 0 = .ok (.iload_n 1, 1) := by decide +kernel
theorem dX6_image_1 : decode cX6_image 1 = .ok (.iconst 0, 1) := by decide +kernel
theorem dX6_image_2 : decode cX6_image 2 = .ok (.iconst 1, 1) := by decide +kernel
theorem dX6_image_3 : decode cX6_image 3 = .ok (.invokestatic 67, 3) := by decide +kernel
theorem dX6_image_6 : decode cX6_image 6 = .ok (.ifCond .ne 6, 3) := by decide +kernel
theorem dX6_image_9 : decode cX6_image 9 = .ok (.ldc 71, 2) := by decide +kernel
theorem dX6_image_11 : decode cX6_image 11 = .ok (.ireturn, 1) := by decide +kernel
theorem dX6_image_12 : decode cX6_image 12 = .ok (.aload_n 0, 1) := by decide +kernel
theorem dX6_image_13 : decode cX6_image 13 = .ok (.getfield 26, 3) := by decide +kernel
theorem dX6_image_16 : decode cX6_image 16 = .ok (.getfield 123, 3) := by decide +kernel
theorem dX6_image_19 : decode cX6_image 19 = .ok (.ifCond .ne 6, 3) := by decide +kernel
theorem dX6_image_22 : decode cX6_image 22 = .ok (.ldc 132, 2) := by decide +kernel
theorem dX6_image_24 : decode cX6_image 24 = .ok (.ireturn, 1) := by decide +kernel
theorem dX6_image_25 : decode cX6_image 25 = .ok (.aload_n 0, 1) := by decide +kernel
theorem dX6_image_26 : decode cX6_image 26 = .ok (.iload_n 1, 1) := by decide +kernel
theorem dX6_image_27 : decode cX6_image 27 = .ok (.invokevirtual 258, 3) := by decide +kernel
theorem dX6_image_30 : decode cX6_image 30 = .ok (.aload_n 0, 1) := by decide +kernel
theorem dX6_image_31 : decode cX6_image 31 = .ok (.getfield 26, 3) := by decide +kernel
theorem dX6_image_34 : decode cX6_image 34 = .ok (.invokevirtual 262, 3) := by decide +kernel
theorem dX6_image_37 : decode cX6_image 37 = .ok (.iconst 1, 1) := by decide +kernel
theorem dX6_image_38 : decode cX6_image 38 = .ok (.ireturn, 1) := by decide +kernel
theorem dX6_restore_0 : decode cX6_restore 0 = .ok (.iload_n 1, 1) := by decide +kernel
theorem dX6_restore_1 : decode cX6_restore 1 = .ok (.iconst 0, 1) := by decide +kernel
theorem dX6_restore_2 : decode cX6_restore 2 = .ok (.iconst 1, 1) := by decide +kernel
theorem dX6_restore_3 : decode cX6_restore 3 = .ok (.invokestatic 67, 3) := by decide +kernel
theorem dX6_restore_6 : decode cX6_restore 6 = .ok (.ifCond .ne 6, 3) := by decide +kernel
theorem dX6_restore_9 : decode cX6_restore 9 = .ok (.ldc 71, 2) := by decide +kernel
theorem dX6_restore_11 : decode cX6_restore 11 = .ok (.ireturn, 1) := by decide +kernel
theorem dX6_restore_12 : decode cX6_restore 12 = .ok (.aload_n 0, 1) := by decide +kernel
theorem dX6_restore_13 : decode cX6_restore 13 = .ok (.iload_n 1, 1) := by decide +kernel
theorem dX6_restore_14 : decode cX6_restore 14 = .ok (.invokevirtual 258, 3) := by decide +kernel
theorem dX6_restore_17 : decode cX6_restore 17 = .ok (.getfield 123, 3) := by decide +kernel
theorem dX6_restore_20 : decode cX6_restore 20 = .ok (.ifCond .ne 6, 3) := by decide +kernel
theorem dX6_restore_23 : decode cX6_restore 23 = .ok (.ldc 132, 2) := by decide +kernel
theorem dX6_restore_25 : decode cX6_restore 25 = .ok (.ireturn, 1) := by decide +kernel
theorem dX6_restore_26 : decode cX6_restore 26 = .ok (.aload_n 0, 1) := by decide +kernel
theorem dX6_restore_27 : decode cX6_restore 27 = .ok (.getfield 26, 3) := by decide +kernel
theorem dX6_restore_30 : decode cX6_restore 30 = .ok (.aload_n 0, 1) := by decide +kernel
theorem dX6_restore_31 : decode cX6_restore 31 = .ok (.iload_n 1, 1) := by decide +kernel
theorem dX6_restore_32 : decode cX6_restore 32 = .ok (.invokevirtual 258, 3) := by decide +kernel
theorem dX6_restore_35 : decode cX6_restore 35 = .ok (.invokevirtual 262, 3) := by decide +kernel
theorem dX6_restore_38 : decode cX6_restore 38 = .ok (.aload_n 0, 1) := by decide +kernel
theorem dX6_restore_39 : decode cX6_restore 39 = .ok (.getfield 39, 3) := by decide +kernel
theorem dX6_restore_42 : decode cX6_restore 42 = .ok (.invokevirtual 120, 3) := by decide +kernel
theorem dX6_restore_45 : decode cX6_restore 45 = .ok (.iconst 1, 1) := by decide +kernel
theorem dX6_restore_46 : decode cX6_restore 46 = .ok (.ireturn, 1) := by decide +kernel
theorem dX6_kind_0 : decode cX6_kind 0 = .ok (.aload_n 0, 1) := by decide +kernel
theorem dX6_kind_1 : decode cX6_kind 1 = .ok (.getfield 26, 3) := by decide +kernel
theorem dX6_kind_4 : decode cX6_kind 4 = .ok (.iload_n 1, 1) := by decide +kernel
theorem dX6_kind_5 : decode cX6_kind 5 = .ok (.invokevirtual 149, 3) := by decide +kernel
theorem dX6_kind_8 : decode cX6_kind 8 = .ok (.ifCond .eq 15, 3) := by decide +kernel
theorem dX6_kind_11 : decode cX6_kind 11 = .ok (.aload_n 0, 1) := by decide +kernel
theorem dX6_kind_12 : decode cX6_kind 12 = .ok (.getfield 26, 3) := by decide +kernel
theorem dX6_kind_15 : decode cX6_kind 15 = .ok (.getfield 241, 3) := by decide +kernel
theorem dX6_kind_18 : decode cX6_kind 18 = .ok (.iload_n 1, 1) := by decide +kernel
theorem dX6_kind_19 : decode cX6_kind 19 = .ok (.iaload, 1) := by decide +kernel
theorem dX6_kind_20 : decode cX6_kind 20 = .ok (.goto 5, 3) := by decide +kernel
theorem dX6_kind_23 : decode cX6_kind 23 = .ok (.ldc 71, 2) := by decide +kernel
theorem dX6_kind_25 : decode cX6_kind 25 = .ok (.ireturn, 1) := by decide +kernel
theorem dX6_as_0 : decode cX6_as 0 = .ok (.aload_n 0, 1) := by decide +kernel
theorem dX6_as_1 : decode cX6_as 1 = .ok (.getfield 26, 3) := by decide +kernel
theorem dX6_as_4 : decode cX6_as 4 = .ok (.iload_n 1, 1) := by decide +kernel
theorem dX6_as_5 : decode cX6_as 5 = .ok (.invokevirtual 149, 3) := by decide +kernel
theorem dX6_as_8 : decode cX6_as 8 = .ok (.ifCond .eq 12, 3) := by decide +kernel
theorem dX6_as_11 : decode cX6_as 11 = .ok (.iload_n 2, 1) := by decide +kernel
theorem dX6_as_12 : decode cX6_as 12 = .ok (.iconst 0, 1) := by decide +kernel
theorem dX6_as_13 : decode cX6_as 13 = .ok (.iconst 5, 1) := by decide +kernel
theorem dX6_as_14 : decode cX6_as 14 = .ok (.invokestatic 67, 3) := by decide +kernel
theorem dX6_as_17 : decode cX6_as 17 = .ok (.ifCond .ne 6, 3) := by decide +kernel
theorem dX6_as_20 : decode cX6_as 20 = .ok (.ldc 71, 2) := by decide +kernel
theorem dX6_as_22 : decode cX6_as 22 = .ok (.ireturn, 1) := by decide +kernel
theorem dX6_as_23 : decode cX6_as 23 = .ok (.aload_n 0, 1) := by decide +kernel
theorem dX6_as_24 : decode cX6_as 24 = .ok (.getfield 26, 3) := by decide +kernel
theorem dX6_as_27 : decode cX6_as 27 = .ok (.getfield 241, 3) := by decide +kernel
theorem dX6_as_30 : decode cX6_as 30 = .ok (.iload_n 1, 1) := by decide +kernel
theorem dX6_as_31 : decode cX6_as 31 = .ok (.iaload, 1) := by decide +kernel
theorem dX6_as_32 : decode cX6_as 32 = .ok (.iload_n 2, 1) := by decide +kernel
theorem dX6_as_33 : decode cX6_as 33 = .ok (.invokestatic 265, 3) := by decide +kernel
theorem dX6_as_36 : decode cX6_as 36 = .ok (.ifCond .eq 11, 3) := by decide +kernel
theorem dX6_as_39 : decode cX6_as 39 = .ok (.aload_n 0, 1) := by decide +kernel
theorem dX6_as_40 : decode cX6_as 40 = .ok (.iload_n 1, 1) := by decide +kernel
theorem dX6_as_41 : decode cX6_as 41 = .ok (.invokevirtual 80, 3) := by decide +kernel
theorem dX6_as_44 : decode cX6_as 44 = .ok (.goto 8, 3) := by decide +kernel
theorem dX6_as_47 : decode cX6_as 47 = .ok (.aload_n 0, 1) := by decide +kernel
theorem dX6_as_48 : decode cX6_as 48 = .ok (.iconst 3, 1) := by decide +kernel
theorem dX6_as_49 : decode cX6_as 49 = .ok (.invokevirtual 72, 3) := by decide +kernel
theorem dX6_as_52 : decode cX6_as 52 = .ok (.ireturn, 1) := by decide +kernel
theorem dX6_ask_0 : decode cX6_ask 0 = .ok (.aload_n 0, 1) := by decide +kernel
theorem dX6_ask_1 : decode cX6_ask 1 = .ok (.getfield 26, 3) := by decide +kernel
theorem dX6_ask_4 : decode cX6_ask 4 = .ok (.iload_n 1, 1) := by decide +kernel
theorem dX6_ask_5 : decode cX6_ask 5 = .ok (.invokevirtual 149, 3) := by decide +kernel
theorem dX6_ask_8 : decode cX6_ask 8 = .ok (.ifCond .eq 12, 3) := by decide +kernel
theorem dX6_ask_11 : decode cX6_ask 11 = .ok (.iload_n 2, 1) := by decide +kernel
theorem dX6_ask_12 : decode cX6_ask 12 = .ok (.iconst 0, 1) := by decide +kernel
theorem dX6_ask_13 : decode cX6_ask 13 = .ok (.iconst 1, 1) := by decide +kernel
theorem dX6_ask_14 : decode cX6_ask 14 = .ok (.invokestatic 67, 3) := by decide +kernel
theorem dX6_ask_17 : decode cX6_ask 17 = .ok (.ifCond .ne 6, 3) := by decide +kernel
theorem dX6_ask_20 : decode cX6_ask 20 = .ok (.ldc 71, 2) := by decide +kernel
theorem dX6_ask_22 : decode cX6_ask 22 = .ok (.ireturn, 1) := by decide +kernel
theorem dX6_ask_23 : decode cX6_ask 23 = .ok (.aload_n 0, 1) := by decide +kernel
theorem dX6_ask_24 : decode cX6_ask 24 = .ok (.getfield 55, 3) := by decide +kernel
theorem dX6_ask_27 : decode cX6_ask 27 = .ok (.iload_n 1, 1) := by decide +kernel
theorem dX6_ask_28 : decode cX6_ask 28 = .ok (.iload_n 2, 1) := by decide +kernel
theorem dX6_ask_29 : decode cX6_ask 29 = .ok (.invokevirtual 269, 3) := by decide +kernel
theorem dX6_ask_32 : decode cX6_ask 32 = .ok (.ireturn, 1) := by decide +kernel
theorem dX6_trace_0 : decode cX6_trace 0 = .ok (.aload_n 0, 1) := by decide +kernel
theorem dX6_trace_1 : decode cX6_trace 1 = .ok (.getfield 55, 3) := by decide +kernel
theorem dX6_trace_4 : decode cX6_trace 4 = .ok (.iload_n 1, 1) := by decide +kernel
theorem dX6_trace_5 : decode cX6_trace 5 = .ok (.invokevirtual 272, 3) := by decide +kernel
theorem dX6_trace_8 : decode cX6_trace 8 = .ok (.ireturn, 1) := by decide +kernel
theorem dX6_count_0 : decode cX6_count 0 = .ok (.iload_n 1, 1) := by decide +kernel
theorem dX6_count_1 : decode cX6_count 1 = .ok (.tableswitch 87 0 5 #[39, 47, 55, 63, 71, 79], 39) := by decide +kernel
theorem dX6_count_40 : decode cX6_count 40 = .ok (.aload_n 0, 1) := by decide +kernel
theorem dX6_count_41 : decode cX6_count 41 = .ok (.getfield 10, 3) := by decide +kernel
theorem dX6_count_44 : decode cX6_count 44 = .ok (.invokevirtual 275, 3) := by decide +kernel
theorem dX6_count_47 : decode cX6_count 47 = .ok (.ireturn, 1) := by decide +kernel
theorem dX6_count_48 : decode cX6_count 48 = .ok (.aload_n 0, 1) := by decide +kernel
theorem dX6_count_49 : decode cX6_count 49 = .ok (.getfield 26, 3) := by decide +kernel
theorem dX6_count_52 : decode cX6_count 52 = .ok (.getfield 123, 3) := by decide +kernel
theorem dX6_count_55 : decode cX6_count 55 = .ok (.ireturn, 1) := by decide +kernel
theorem dX6_count_56 : decode cX6_count 56 = .ok (.aload_n 0, 1) := by decide +kernel
theorem dX6_count_57 : decode cX6_count 57 = .ok (.getfield 26, 3) := by decide +kernel
theorem dX6_count_60 : decode cX6_count 60 = .ok (.getfield 136, 3) := by decide +kernel
theorem dX6_count_63 : decode cX6_count 63 = .ok (.ireturn, 1) := by decide +kernel
theorem dX6_count_64 : decode cX6_count 64 = .ok (.aload_n 0, 1) := by decide +kernel
theorem dX6_count_65 : decode cX6_count 65 = .ok (.getfield 26, 3) := by decide +kernel
theorem dX6_count_68 : decode cX6_count 68 = .ok (.getfield 169, 3) := by decide +kernel
theorem dX6_count_71 : decode cX6_count 71 = .ok (.ireturn, 1) := by decide +kernel
theorem dX6_count_72 : decode cX6_count 72 = .ok (.aload_n 0, 1) := by decide +kernel
theorem dX6_count_73 : decode cX6_count 73 = .ok (.getfield 39, 3) := by decide +kernel
theorem dX6_count_76 : decode cX6_count 76 = .ok (.getfield 129, 3) := by decide +kernel
theorem dX6_count_79 : decode cX6_count 79 = .ok (.ireturn, 1) := by decide +kernel
theorem dX6_count_80 : decode cX6_count 80 = .ok (.aload_n 0, 1) := by decide +kernel
theorem dX6_count_81 : decode cX6_count 81 = .ok (.getfield 19, 3) := by decide +kernel
theorem dX6_count_84 : decode cX6_count 84 = .ok (.getfield 278, 3) := by decide +kernel
theorem dX6_count_87 : decode cX6_count 87 = .ok (.ireturn, 1) := by decide +kernel
theorem dX6_count_88 : decode cX6_count 88 = .ok (.ldc 71, 2) := by decide +kernel
theorem dX6_count_90 : decode cX6_count 90 = .ok (.ireturn, 1) := by decide +kernel
theorem dX6_status_0 : decode cX6_status 0 = .ok (.aload_n 0, 1) := by decide +kernel
theorem dX6_status_1 : decode cX6_status 1 = .ok (.getfield 59, 3) := by decide +kernel
theorem dX6_status_4 : decode cX6_status 4 = .ok (.ireturn, 1) := by decide +kernel
theorem dX6_found_0 : decode cX6_found 0 = .ok (.aload_n 0, 1) := by decide +kernel
theorem dX6_found_1 : decode cX6_found 1 = .ok (.iload_n 1, 1) := by decide +kernel
theorem dX6_found_2 : decode cX6_found 2 = .ok (.putfield 59, 3) := by decide +kernel
theorem dX6_found_5 : decode cX6_found 5 = .ok (.ldc_w 281, 3) := by decide +kernel
theorem dX6_found_8 : decode cX6_found 8 = .ok (.iload_n 1, 1) := by decide +kernel
theorem dX6_found_9 : decode cX6_found 9 = .ok (.isub, 1) := by decide +kernel
theorem dX6_found_10 : decode cX6_found 10 = .ok (.ireturn, 1) := by decide +kernel
theorem dX6_foundNothing_0 : decode cX6_foundNothing 0 = .ok (.aload_n 0, 1) := by decide +kernel
theorem dX6_foundNothing_1 : decode cX6_foundNothing 1 = .ok (.iconst 0, 1) := by decide +kernel
theorem dX6_foundNothing_2 : decode cX6_foundNothing 2 = .ok (.putfield 59, 3) := by decide +kernel
theorem dX6_foundNothing_5 : decode cX6_foundNothing 5 = .ok (.iload_n 1, 1) := by decide +kernel
theorem dX6_foundNothing_6 : decode cX6_foundNothing 6 = .ok (.ireturn, 1) := by decide +kernel
theorem dX6_imageNumbered_0 : decode cX6_imageNumbered 0 = .ok (.iload_n 1, 1) := by decide +kernel
theorem dX6_imageNumbered_1 : decode cX6_imageNumbered 1 = .ok (.ifCond .ne 10, 3) := by decide +kernel
theorem dX6_imageNumbered_4 : decode cX6_imageNumbered 4 = .ok (.aload_n 0, 1) := by decide +kernel
theorem dX6_imageNumbered_5 : decode cX6_imageNumbered 5 = .ok (.getfield 30, 3) := by decide +kernel
theorem dX6_imageNumbered_8 : decode cX6_imageNumbered 8 = .ok (.goto 7, 3) := by decide +kernel
theorem dX6_imageNumbered_11 : decode cX6_imageNumbered 11 = .ok (.aload_n 0, 1) := by decide +kernel
theorem dX6_imageNumbered_12 : decode cX6_imageNumbered 12 = .ok (.getfield 33, 3) := by decide +kernel
theorem dX6_imageNumbered_15 : decode cX6_imageNumbered 15 = .ok (.areturn, 1) := by decide +kernel
theorem dX6_isWithin_0 : decode cX6_isWithin 0 = .ok (.iload_n 0, 1) := by decide +kernel
theorem dX6_isWithin_1 : decode cX6_isWithin 1 = .ok (.iload_n 1, 1) := by decide +kernel
theorem dX6_isWithin_2 : decode cX6_isWithin 2 = .ok (.if_icmp .lt 12, 3) := by decide +kernel
theorem dX6_isWithin_5 : decode cX6_isWithin 5 = .ok (.iload_n 0, 1) := by decide +kernel
theorem dX6_isWithin_6 : decode cX6_isWithin 6 = .ok (.iload_n 2, 1) := by decide +kernel
theorem dX6_isWithin_7 : decode cX6_isWithin 7 = .ok (.if_icmp .gt 7, 3) := by decide +kernel
theorem dX6_isWithin_10 : decode cX6_isWithin 10 = .ok (.iconst 1, 1) := by decide +kernel
theorem dX6_isWithin_11 : decode cX6_isWithin 11 = .ok (.goto 4, 3) := by decide +kernel
theorem dX6_isWithin_14 : decode cX6_isWithin 14 = .ok (.iconst 0, 1) := by decide +kernel
theorem dX6_isWithin_15 : decode cX6_isWithin 15 = .ok (.ireturn, 1) := by decide +kernel
theorem dX6_isRow_0 : decode cX6_isRow 0 = .ok (.iload_n 0, 1) := by decide +kernel
theorem dX6_isRow_1 : decode cX6_isRow 1 = .ok (.iconst 0, 1) := by decide +kernel
theorem dX6_isRow_2 : decode cX6_isRow 2 = .ok (.bipush 7, 2) := by decide +kernel
theorem dX6_isRow_4 : decode cX6_isRow 4 = .ok (.invokestatic 67, 3) := by decide +kernel
theorem dX6_isRow_7 : decode cX6_isRow 7 = .ok (.ireturn, 1) := by decide +kernel
