theorem dX7_init_0 : decode cX7_init 0 = .ok (.aload_n 0, 1) := by decide +kernel
theorem dX7_init_1 : decode cX7_init 1 = .ok (.invokespecial 1, 3) := by decide +kernel
theorem dX7_init_4 : decode cX7_init 4 = .ok (.aload_n 0, 1) := by decide +kernel
theorem dX7_init_5 : decode cX7_init 5 = .ok (.bipush 8, 2) := by decide +kernel
theorem dX7_init_7 : decode cX7_init 7 = .ok (.newarray .int, 2) := by decide +kernel
theorem dX7_init_9 : decode cX7_init 9 = .ok (.putfield 7, 3) := by decide +kernel
theorem dX7_init_12 : decode cX7_init 12 = .ok (.aload_n 0, 1) := by decide +kernel
theorem dX7_init_13 : decode cX7_init 13 = .ok (.bipush 8, 2) := by decide +kernel
theorem dX7_init_15 : decode cX7_init 15 = .ok (.newarray .int, 2) := by decide +kernel
theorem dX7_init_17 : decode cX7_init 17 = .ok (.putfield 13, 3) := by decide +kernel
theorem dX7_init_20 : decode cX7_init 20 = .ok (.aload_n 0, 1) := by decide +kernel
theorem dX7_init_21 : decode cX7_init 21 = .ok (.sipush 320, 3) := by decide +kernel
theorem dX7_init_24 : decode cX7_init 24 = .ok (.newarray .int, 2) := by decide +kernel
theorem dX7_init_26 : decode cX7_init 26 = .ok (.putfield 16, 3) := by decide +kernel
theorem dX7_init_29 : decode cX7_init 29 = .ok (.aload_n 0, 1) := by decide +kernel
theorem dX7_init_30 : decode cX7_init 30 = .ok (.bipush 41, 2) := by decide +kernel
theorem dX7_init_32 : decode cX7_init 32 = .ok (.newarray .int, 2) := by decide +kernel
theorem dX7_init_34 : decode cX7_init 34 = .ok (.putfield 19, 3) := by decide +kernel
theorem dX7_init_37 : decode cX7_init 37 = .ok (.aload_n 0, 1) := by decide +kernel
theorem dX7_init_38 : decode cX7_init 38 = .ok (.bipush 40, 2) := by decide +kernel
theorem dX7_init_40 : decode cX7_init 40 = .ok (.newarray .int, 2) := by decide +kernel
theorem dX7_init_42 : decode cX7_init 42 = .ok (.putfield 22, 3) := by decide +kernel
theorem dX7_init_45 : decode cX7_init 45 = .ok (.aload_n 0, 1) := by decide +kernel
theorem dX7_init_46 : decode cX7_init 46 = .ok (.bipush 100, 2) := by decide +kernel
theorem dX7_init_48 : decode cX7_init 48 = .ok (.newarray .int, 2) := by decide +kernel
theorem dX7_init_50 : decode cX7_init 50 = .ok (.putfield 25, 3) := by decide +kernel
theorem dX7_init_53 : decode cX7_init 53 = .ok (.aload_n 0, 1) := by decide +kernel
theorem dX7_init_54 : decode cX7_init 54 = .ok (.bipush 41, 2) := by decide +kernel
theorem dX7_init_56 : decode cX7_init 56 = .ok (.newarray .int, 2) := by decide +kernel
theorem dX7_init_58 : decode cX7_init 58 = .ok (.putfield 28, 3) := by decide +kernel
theorem dX7_init_61 : decode cX7_init 61 = .ok (.aload_n 0, 1) := by decide +kernel
theorem dX7_init_62 : decode cX7_init 62 = .ok (.sipush 984, 3) := by decide +kernel
theorem dX7_init_65 : decode cX7_init 65 = .ok (.newarray .int, 2) := by decide +kernel
theorem dX7_init_67 : decode cX7_init 67 = .ok (.putfield 31, 3) := by decide +kernel
theorem dX7_init_70 : decode cX7_init 70 = .ok (.aload_n 0, 1) := by decide +kernel
theorem dX7_init_71 : decode cX7_init 71 = .ok (.bipush 41, 2) := by decide +kernel
theorem dX7_init_73 : decode cX7_init 73 = .ok (.newarray .int, 2) := by decide +kernel
theorem dX7_init_75 : decode cX7_init 75 = .ok (.putfield 34, 3) := by decide +kernel
theorem dX7_init_78 : decode cX7_init 78 = .ok (.aload_n 0, 1) := by decide +kernel
theorem dX7_init_79 : decode cX7_init 79 = .ok (.bipush 100, 2) := by decide +kernel
theorem dX7_init_81 : decode cX7_init 81 = .ok (.newarray .int, 2) := by decide +kernel
theorem dX7_init_83 : decode cX7_init 83 = .ok (.putfield 37, 3) := by decide +kernel
theorem dX7_init_86 : decode cX7_init 86 = .ok (.aload_n 0, 1) := by decide +kernel
theorem dX7_init_87 : decode cX7_init 87 = .ok (.bipush 100, 2) := by decide +kernel
theorem dX7_init_89 : decode cX7_init 89 = .ok (.newarray .int, 2) := by decide +kernel
theorem dX7_init_91 : decode cX7_init 91 = .ok (.putfield 40, 3) := by decide +kernel
theorem dX7_init_94 : decode cX7_init 94 = .ok (.aload_n 0, 1) := by decide +kernel
theorem dX7_init_95 : decode cX7_init 95 = .ok (.bipush 100, 2) := by decide +kernel
theorem dX7_init_97 : decode cX7_init 97 = .ok (.newarray .int, 2) := by decide +kernel
theorem dX7_init_99 : decode cX7_init 99 = .ok (.putfield 43, 3) := by decide +kernel
theorem dX7_init_102 : decode cX7_init 102 = .ok (.aload_n 0, 1) := by decide +kernel
theorem dX7_init_103 : decode cX7_init 103 = .ok (.bipush 100, 2) := by decide +kernel
theorem dX7_init_105 : decode cX7_init 105 = .ok (.newarray .int, 2) := by decide +kernel
theorem dX7_init_107 : decode cX7_init 107 = .ok (.putfield 46, 3) := by decide +kernel
theorem dX7_init_110 : decode cX7_init 110 = .ok (.aload_n 0, 1) := by decide +kernel
theorem dX7_init_111 : decode cX7_init 111 = .ok (.bipush 6, 2) := by decide +kernel
theorem dX7_init_113 : decode cX7_init 113 = .ok (.newarray .int, 2) := by decide +kernel
theorem dX7_init_115 : decode cX7_init 115 = .ok (.putfield 49, 3) := by decide +kernel
theorem dX7_init_118 : decode cX7_init 118 = .ok (.aload_n 0, 1) := by decide +kernel
theorem dX7_init_119 : decode cX7_init 119 = .ok (.iconst 2, 1) := by decide +kernel
theorem dX7_init_120 : decode cX7_init 120 = .ok (.newarray .boolean, 2) := by decide +kernel
theorem dX7_init_122 : decode cX7_init 122 = .ok (.putfield 52, 3) := by decide +kernel
theorem dX7_init_125 : decode cX7_init 125 = .ok (.aload_n 0, 1) := by decide +kernel
theorem dX7_init_126 : decode cX7_init 126 = .ok (.bipush 82, 2) := by decide +kernel
theorem dX7_init_128 : decode cX7_init 128 = .ok (.newarray .int, 2) := by decide +kernel
theorem dX7_init_130 : decode cX7_init 130 = .ok (.putfield 56, 3) := by decide +kernel
theorem dX7_init_133 : decode cX7_init 133 = .ok (.aload_n 0, 1) := by decide +kernel
theorem dX7_init_134 : decode cX7_init 134 = .ok (.bipush 16, 2) := by decide +kernel
theorem dX7_init_136 : decode cX7_init 136 = .ok (.newarray .int, 2) := by decide +kernel
theorem dX7_init_138 : decode cX7_init 138 = .ok (.putfield 59, 3) := by decide +kernel
theorem dX7_init_141 : decode cX7_init 141 = .ok (.iconst 0, 1) := by decide +kernel
theorem dX7_init_142 : decode cX7_init 142 = .ok (.istore_n 1, 1) := by decide +kernel
theorem dX7_init_143 : decode cX7_init 143 = .ok (.iload_n 1, 1) := by decide +kernel
theorem dX7_init_144 : decode cX7_init 144 = .ok (.bipush 8, 2) := by decide +kernel
theorem dX7_init_146 : decode cX7_init 146 = .ok (.if_icmp .ge 16, 3) := by decide +kernel
theorem dX7_init_149 : decode cX7_init 149 = .ok (.aload_n 0, 1) := by decide +kernel
theorem dX7_init_150 : decode cX7_init 150 = .ok (.getfield 13, 3) := by decide +kernel
theorem dX7_init_153 : decode cX7_init 153 = .ok (.iload_n 1, 1) := by decide +kernel
theorem dX7_init_154 : decode cX7_init 154 = .ok (.iconst (-1), 1) := by decide +kernel
theorem dX7_init_155 : decode cX7_init 155 = .ok (.iastore, 1) := by decide +kernel
theorem dX7_init_156 : decode cX7_init 156 = .ok (.iinc 1 1, 3) := by decide +kernel
theorem dX7_init_159 : decode cX7_init 159 = .ok (.goto (-16), 3) := by decide +kernel
theorem dX7_init_162 : decode cX7_init 162 = .ok (.return_, 1) := by decide +kernel
theorem dX7_in_0 : decode cX7_in 0 = .ok (.lload_n 0, 1) := by decide +kernel
theorem dX7_in_1 : decode cX7_in 1 = .ok (.lload_n 2, 1) := by decide +kernel
theorem dX7_in_2 : decode cX7_in 2 = .ok (.lcmp, 1) := by decide +kernel
theorem dX7_in_3 : decode cX7_in 3 = .ok (.ifCond .lt 14, 3) := by decide +kernel
theorem dX7_in_6 : decode cX7_in 6 = .ok (.lload_n 0, 1) := by decide +kernel
theorem dX7_in_7 : decode cX7_in 7 = .ok (.lload 4, 2) := by decide +kernel
theorem dX7_in_9 : decode cX7_in 9 = .ok (.lcmp, 1) := by decide +kernel
theorem dX7_in_10 : decode cX7_in 10 = .ok (.ifCond .gt 7, 3) := by decide +kernel
theorem dX7_in_13 : decode cX7_in 13 = .ok (.iconst 1, 1) := by decide +kernel
theorem dX7_in_14 : decode cX7_in 14 = .ok (.goto 4, 3) := by decide +kernel
theorem dX7_in_17 : decode cX7_in 17 = .ok (.iconst 0, 1) := by decide +kernel
theorem dX7_in_18 : decode cX7_in 18 = .ok (.ireturn, 1) := by decide +kernel
theorem dX7_has_0 : decode cX7_has 0 = .ok (.iload_n 0, 1) := by decide +kernel
theorem dX7_has_1 : decode cX7_has 1 = .ok (.iload_n 1, 1) := by decide +kernel
theorem dX7_has_2 : decode cX7_has 2 = .ok (.ishr, 1) := by decide +kernel
theorem dX7_has_3 : decode cX7_has 3 = .ok (.iconst 1, 1) := by decide +kernel
theorem dX7_has_4 : decode cX7_has 4 = .ok (.iand, 1) := by decide +kernel
theorem dX7_has_5 : decode cX7_has 5 = .ok (.iconst 1, 1) := by decide +kernel
theorem dX7_has_6 : decode cX7_has 6 = .ok (.if_icmp .ne 7, 3) := by decide +kernel
theorem dX7_has_9 : decode cX7_has 9 = .ok (.iconst 1, 1) := by decide +kernel
theorem dX7_has_10 : decode cX7_has 10 = .ok (.goto 4, 3) := by decide +kernel
theorem dX7_has_13 : decode cX7_has 13 = .ok (.iconst 0, 1) := by decide +kernel
theorem dX7_has_14 : decode cX7_has 14 = .ok (.ireturn, 1) := by decide +kernel
theorem dX7_find_0 : decode cX7_find 0 = .ok (.aload_n 0, 1) := by decide +kernel
theorem dX7_find_1 : decode cX7_find 1 = .ok (.iload_n 1, 1) := by decide +kernel
theorem dX7_find_2 : decode cX7_find 2 = .ok (.putfield 62, 3) := by decide +kernel
theorem dX7_find_5 : decode cX7_find 5 = .ok (.ldc 66, 2) := by decide +kernel
theorem dX7_find_7 : decode cX7_find 7 = .ok (.iload_n 1, 1) := by decide +kernel
theorem dX7_find_8 : decode cX7_find 8 = .ok (.isub, 1) := by decide +kernel
theorem dX7_find_9 : decode cX7_find 9 = .ok (.ireturn, 1) := by decide +kernel
theorem dX7_well_0 : decode cX7_well 0 = .ok (.aload_n 0, 1) := by decide +kernel
theorem dX7_well_1 : decode cX7_well 1 = .ok (.iconst 0, 1) := by decide +kernel
theorem dX7_well_2 : decode cX7_well 2 = .ok (.putfield 62, 3) := by decide +kernel
theorem dX7_well_5 : decode cX7_well 5 = .ok (.iload_n 1, 1) := by decide +kernel
theorem dX7_well_6 : decode cX7_well 6 = .ok (.ireturn, 1) := by decide +kernel
theorem dX7_isRow_0 : decode cX7_isRow 0 = .ok (.iload_n 0, 1) := by decide +kernel
theorem dX7_isRow_1 : decode cX7_isRow 1 = .ok (.i2l, 1) := by decide +kernel
theorem dX7_isRow_2 : decode cX7_isRow 2 = .ok (.lconst 0, 1) := by decide +kernel
theorem dX7_isRow_3 : decode cX7_isRow 3 = .ok (.ldc2_w 67, 3) := by decide +kernel
theorem dX7_isRow_6 : decode cX7_isRow 6 = .ok (.invokestatic 69, 3) := by decide +kernel
theorem dX7_isRow_9 : decode cX7_isRow 9 = .ok (.ireturn, 1) := by decide +kernel
theorem dX7_row_0 : decode cX7_row 0 = .ok (.iload_n 1, 1) := by decide +kernel
theorem dX7_row_1 : decode cX7_row 1 = .ok (.invokestatic 73, 3) := by decide +kernel
theorem dX7_row_4 : decode cX7_row 4 = .ok (.ifCond .eq 21, 3) := by decide +kernel
theorem dX7_row_7 : decode cX7_row 7 = .ok (.iload_n 2, 1) := by decide +kernel
theorem dX7_row_8 : decode cX7_row 8 = .ok (.i2l, 1) := by decide +kernel
theorem dX7_row_9 : decode cX7_row 9 = .ok (.lconst 0, 1) := by decide +kernel
theorem dX7_row_10 : decode cX7_row 10 = .ok (.ldc2_w 77, 3) := by decide +kernel
theorem dX7_row_13 : decode cX7_row 13 = .ok (.invokestatic 69, 3) := by decide +kernel
theorem dX7_row_16 : decode cX7_row 16 = .ok (.ifCond .eq 9, 3) := by decide +kernel
theorem dX7_row_19 : decode cX7_row 19 = .ok (.iload_n 3, 1) := by decide +kernel
theorem dX7_row_20 : decode cX7_row 20 = .ok (.bipush 40, 2) := by decide +kernel
theorem dX7_row_22 : decode cX7_row 22 = .ok (.if_icmp .le 6, 3) := by decide +kernel
theorem dX7_row_25 : decode cX7_row 25 = .ok (.ldc 79, 2) := by decide +kernel
theorem dX7_row_27 : decode cX7_row 27 = .ok (.ireturn, 1) := by decide +kernel
theorem dX7_row_28 : decode cX7_row 28 = .ok (.iload_n 3, 1) := by decide +kernel
theorem dX7_row_29 : decode cX7_row 29 = .ok (.ifCond .ge 9, 3) := by decide +kernel
theorem dX7_row_32 : decode cX7_row 32 = .ok (.aload_n 0, 1) := by decide +kernel
theorem dX7_row_33 : decode cX7_row 33 = .ok (.iconst 4, 1) := by decide +kernel
theorem dX7_row_34 : decode cX7_row 34 = .ok (.invokevirtual 80, 3) := by decide +kernel
theorem dX7_row_37 : decode cX7_row 37 = .ok (.ireturn, 1) := by decide +kernel
theorem dX7_row_38 : decode cX7_row 38 = .ok (.aload_n 0, 1) := by decide +kernel
theorem dX7_row_39 : decode cX7_row 39 = .ok (.getfield 7, 3) := by decide +kernel
theorem dX7_row_42 : decode cX7_row 42 = .ok (.iload_n 1, 1) := by decide +kernel
theorem dX7_row_43 : decode cX7_row 43 = .ok (.iload_n 2, 1) := by decide +kernel
theorem dX7_row_44 : decode cX7_row 44 = .ok (.iastore, 1) := by decide +kernel
theorem dX7_row_45 : decode cX7_row 45 = .ok (.aload_n 0, 1) := by decide +kernel
theorem dX7_row_46 : decode cX7_row 46 = .ok (.getfield 13, 3) := by decide +kernel
theorem dX7_row_49 : decode cX7_row 49 = .ok (.iload_n 1, 1) := by decide +kernel
theorem dX7_row_50 : decode cX7_row 50 = .ok (.iload_n 3, 1) := by decide +kernel
theorem dX7_row_51 : decode cX7_row 51 = .ok (.iastore, 1) := by decide +kernel
theorem dX7_row_52 : decode cX7_row 52 = .ok (.iconst 0, 1) := by decide +kernel
theorem dX7_row_53 : decode cX7_row 53 = .ok (.istore 4, 2) := by decide +kernel
theorem dX7_row_55 : decode cX7_row 55 = .ok (.iload 4, 2) := by decide +kernel
theorem dX7_row_57 : decode cX7_row 57 = .ok (.bipush 40, 2) := by decide +kernel
theorem dX7_row_59 : decode cX7_row 59 = .ok (.if_icmp .ge 22, 3) := by decide +kernel
theorem dX7_row_62 : decode cX7_row 62 = .ok (.aload_n 0, 1) := by decide +kernel
theorem dX7_row_63 : decode cX7_row 63 = .ok (.getfield 16, 3) := by decide +kernel
theorem dX7_row_66 : decode cX7_row 66 = .ok (.bipush 40, 2) := by decide +kernel
theorem dX7_row_68 : decode cX7_row 68 = .ok (.iload_n 1, 1) := by decide +kernel
theorem dX7_row_69 : decode cX7_row 69 = .ok (.imul, 1) := by decide +kernel
theorem dX7_row_70 : decode cX7_row 70 = .ok (.iload 4, 2) := by decide +kernel
theorem dX7_row_72 : decode cX7_row 72 = .ok (.iadd, 1) := by decide +kernel
theorem dX7_row_73 : decode cX7_row 73 = .ok (.iconst 0, 1) := by decide +kernel
theorem dX7_row_74 : decode cX7_row 74 = .ok (.iastore, 1) := by decide +kernel
theorem dX7_row_75 : decode cX7_row 75 = .ok (.iinc 4 1, 3) := by decide +kernel
theorem dX7_row_78 : decode cX7_row 78 = .ok (.goto (-23), 3) := by decide +kernel
theorem dX7_row_81 : decode cX7_row 81 = .ok (.aload_n 0, 1) := by decide +kernel
theorem dX7_row_82 : decode cX7_row 82 = .ok (.iload_n 3, 1) := by decide +kernel
theorem dX7_row_83 : decode cX7_row 83 = .ok (.invokevirtual 84, 3) := by decide +kernel
theorem dX7_row_86 : decode cX7_row 86 = .ok (.ireturn, 1) := by decide +kernel
theorem dX7_asLane_0 : decode cX7_asLane 0 = .ok (.iload_n 0, 1) := by decide +kernel
theorem dX7_asLane_1 : decode cX7_asLane 1 = .ok (.ifCond .ne 13, 3) := by decide +kernel
theorem dX7_asLane_4 : decode cX7_asLane 4 = .ok (.iload_n 1, 1) := by decide +kernel
theorem dX7_asLane_5 : decode cX7_asLane 5 = .ok (.bipush 24, 2) := by decide +kernel
theorem dX7_asLane_7 : decode cX7_asLane 7 = .ok (.ishl, 1) := by decide +kernel
theorem dX7_asLane_8 : decode cX7_asLane 8 = .ok (.bipush 24, 2) := by decide +kernel
theorem dX7_asLane_10 : decode cX7_asLane 10 = .ok (.ishr, 1) := by decide +kernel
theorem dX7_asLane_11 : decode cX7_asLane 11 = .ok (.goto 19, 3) := by decide +kernel
theorem dX7_asLane_14 : decode cX7_asLane 14 = .ok (.iload_n 0, 1) := by decide +kernel
theorem dX7_asLane_15 : decode cX7_asLane 15 = .ok (.iconst 1, 1) := by decide +kernel
theorem dX7_asLane_16 : decode cX7_asLane 16 = .ok (.if_icmp .ne 13, 3) := by decide +kernel
theorem dX7_asLane_19 : decode cX7_asLane 19 = .ok (.iload_n 1, 1) := by decide +kernel
theorem dX7_asLane_20 : decode cX7_asLane 20 = .ok (.bipush 16, 2) := by decide +kernel
theorem dX7_asLane_22 : decode cX7_asLane 22 = .ok (.ishl, 1) := by decide +kernel
theorem dX7_asLane_23 : decode cX7_asLane 23 = .ok (.bipush 16, 2) := by decide +kernel
theorem dX7_asLane_25 : decode cX7_asLane 25 = .ok (.ishr, 1) := by decide +kernel
theorem dX7_asLane_26 : decode cX7_asLane 26 = .ok (.goto 4, 3) := by decide +kernel
theorem dX7_asLane_29 : decode cX7_asLane 29 = .ok (.iload_n 1, 1) := by decide +kernel
theorem dX7_asLane_30 : decode cX7_asLane 30 = .ok (.ireturn, 1) := by decide +kernel
theorem dX7_set_0 : decode cX7_set 0 = .ok (.iload_n 1, 1) := by decide +kernel
theorem dX7_set_1 : decode cX7_set 1 = .ok (.invokestatic 73, 3) := by decide +kernel
theorem dX7_set_4 : decode cX7_set 4 = .ok (.ifCond .ne 6, 3) := by decide +kernel
theorem dX7_set_7 : decode cX7_set 7 = .ok (.ldc 79, 2) := by decide +kernel
theorem dX7_set_9 : decode cX7_set 9 = .ok (.ireturn, 1) := by decide +kernel
theorem dX7_set_10 : decode cX7_set 10 = .ok (.aload_n 0, 1) := by decide +kernel
theorem dX7_set_11 : decode cX7_set 11 = .ok (.getfield 13, 3) := by decide +kernel
theorem dX7_set_14 : decode cX7_set 14 = .ok (.iload_n 1, 1) := by decide +kernel
theorem dX7_set_15 : decode cX7_set 15 = .ok (.iaload, 1) := by decide +kernel
theorem dX7_set_16 : decode cX7_set 16 = .ok (.ifCond .ge 9, 3) := by decide +kernel
theorem dX7_set_19 : decode cX7_set 19 = .ok (.aload_n 0, 1) := by decide +kernel
theorem dX7_set_20 : decode cX7_set 20 = .ok (.iconst 1, 1) := by decide +kernel
theorem dX7_set_21 : decode cX7_set 21 = .ok (.invokevirtual 80, 3) := by decide +kernel
theorem dX7_set_24 : decode cX7_set 24 = .ok (.ireturn, 1) := by decide +kernel
theorem dX7_set_25 : decode cX7_set 25 = .ok (.iload_n 2, 1) := by decide +kernel
theorem dX7_set_26 : decode cX7_set 26 = .ok (.i2l, 1) := by decide +kernel
theorem dX7_set_27 : decode cX7_set 27 = .ok (.lconst 0, 1) := by decide +kernel
theorem dX7_set_28 : decode cX7_set 28 = .ok (.aload_n 0, 1) := by decide +kernel
theorem dX7_set_29 : decode cX7_set 29 = .ok (.getfield 13, 3) := by decide +kernel
theorem dX7_set_32 : decode cX7_set 32 = .ok (.iload_n 1, 1) := by decide +kernel
theorem dX7_set_33 : decode cX7_set 33 = .ok (.iaload, 1) := by decide +kernel
theorem dX7_set_34 : decode cX7_set 34 = .ok (.iconst 1, 1) := by decide +kernel
theorem dX7_set_35 : decode cX7_set 35 = .ok (.isub, 1) := by decide +kernel
theorem dX7_set_36 : decode cX7_set 36 = .ok (.i2l, 1) := by decide +kernel
theorem dX7_set_37 : decode cX7_set 37 = .ok (.invokestatic 69, 3) := by decide +kernel
theorem dX7_set_40 : decode cX7_set 40 = .ok (.ifCond .ne 9, 3) := by decide +kernel
theorem dX7_set_43 : decode cX7_set 43 = .ok (.aload_n 0, 1) := by decide +kernel
theorem dX7_set_44 : decode cX7_set 44 = .ok (.iconst 2, 1) := by decide +kernel
theorem dX7_set_45 : decode cX7_set 45 = .ok (.invokevirtual 80, 3) := by decide +kernel
theorem dX7_set_48 : decode cX7_set 48 = .ok (.ireturn, 1) := by decide +kernel
theorem dX7_set_49 : decode cX7_set 49 = .ok (.aload_n 0, 1) := by decide +kernel
theorem dX7_set_50 : decode cX7_set 50 = .ok (.getfield 16, 3) := by decide +kernel
theorem dX7_set_53 : decode cX7_set 53 = .ok (.bipush 40, 2) := by decide +kernel
theorem dX7_set_55 : decode cX7_set 55 = .ok (.iload_n 1, 1) := by decide +kernel
theorem dX7_set_56 : decode cX7_set 56 = .ok (.imul, 1) := by decide +kernel
theorem dX7_set_57 : decode cX7_set 57 = .ok (.iload_n 2, 1) := by decide +kernel
theorem dX7_set_58 : decode cX7_set 58 = .ok (.iadd, 1) := by decide +kernel
theorem dX7_set_59 : decode cX7_set 59 = .ok (.aload_n 0, 1) := by decide +kernel
theorem dX7_set_60 : decode cX7_set 60 = .ok (.getfield 7, 3) := by decide +kernel
theorem dX7_set_63 : decode cX7_set 63 = .ok (.iload_n 1, 1) := by decide +kernel
theorem dX7_set_64 : decode cX7_set 64 = .ok (.iaload, 1) := by decide +kernel
theorem dX7_set_65 : decode cX7_set 65 = .ok (.iload_n 3, 1) := by decide +kernel
theorem dX7_set_66 : decode cX7_set 66 = .ok (.invokestatic 87, 3) := by decide +kernel
theorem dX7_set_69 : decode cX7_set 69 = .ok (.iastore, 1) := by decide +kernel
theorem dX7_set_70 : decode cX7_set 70 = .ok (.aload_n 0, 1) := by decide +kernel
theorem dX7_set_71 : decode cX7_set 71 = .ok (.aload_n 0, 1) := by decide +kernel
theorem dX7_set_72 : decode cX7_set 72 = .ok (.getfield 16, 3) := by decide +kernel
theorem dX7_set_75 : decode cX7_set 75 = .ok (.bipush 40, 2) := by decide +kernel
theorem dX7_set_77 : decode cX7_set 77 = .ok (.iload_n 1, 1) := by decide +kernel
theorem dX7_set_78 : decode cX7_set 78 = .ok (.imul, 1) := by decide +kernel
theorem dX7_set_79 : decode cX7_set 79 = .ok (.iload_n 2, 1) := by decide +kernel
theorem dX7_set_80 : decode cX7_set 80 = .ok (.iadd, 1) := by decide +kernel
theorem dX7_set_81 : decode cX7_set 81 = .ok (.iaload, 1) := by decide +kernel
theorem dX7_set_82 : decode cX7_set 82 = .ok (.invokevirtual 84, 3) := by decide +kernel
theorem dX7_set_85 : decode cX7_set 85 = .ok (.ireturn, 1) := by decide +kernel
theorem dX7_copy_0 : decode cX7_copy 0 = .ok (.iload_n 1, 1) := by decide +kernel
theorem dX7_copy_1 : decode cX7_copy 1 = .ok (.invokestatic 73, 3) := by decide +kernel
theorem dX7_copy_4 : decode cX7_copy 4 = .ok (.ifCond .eq 10, 3) := by decide +kernel
theorem dX7_copy_7 : decode cX7_copy 7 = .ok (.iload_n 3, 1) := by decide +kernel
theorem dX7_copy_8 : decode cX7_copy 8 = .ok (.invokestatic 73, 3) := by decide +kernel
theorem dX7_copy_11 : decode cX7_copy 11 = .ok (.ifCond .ne 6, 3) := by decide +kernel
theorem dX7_copy_14 : decode cX7_copy 14 = .ok (.ldc 79, 2) := by decide +kernel
theorem dX7_copy_16 : decode cX7_copy 16 = .ok (.ireturn, 1) := by decide +kernel
theorem dX7_copy_17 : decode cX7_copy 17 = .ok (.aload_n 0, 1) := by decide +kernel
theorem dX7_copy_18 : decode cX7_copy 18 = .ok (.getfield 13, 3) := by decide +kernel
theorem dX7_copy_21 : decode cX7_copy 21 = .ok (.iload_n 1, 1) := by decide +kernel
theorem dX7_copy_22 : decode cX7_copy 22 = .ok (.iaload, 1) := by decide +kernel
theorem dX7_copy_23 : decode cX7_copy 23 = .ok (.ifCond .lt 12, 3) := by decide +kernel
theorem dX7_copy_26 : decode cX7_copy 26 = .ok (.aload_n 0, 1) := by decide +kernel
theorem dX7_copy_27 : decode cX7_copy 27 = .ok (.getfield 13, 3) := by decide +kernel
theorem dX7_copy_30 : decode cX7_copy 30 = .ok (.iload_n 3, 1) := by decide +kernel
theorem dX7_copy_31 : decode cX7_copy 31 = .ok (.iaload, 1) := by decide +kernel
theorem dX7_copy_32 : decode cX7_copy 32 = .ok (.ifCond .ge 9, 3) := by decide +kernel
theorem dX7_copy_35 : decode cX7_copy 35 = .ok (.aload_n 0, 1) := by decide +kernel
theorem dX7_copy_36 : decode cX7_copy 36 = .ok (.iconst 1, 1) := by decide +kernel
theorem dX7_copy_37 : decode cX7_copy 37 = .ok (.invokevirtual 80, 3) := by decide +kernel
theorem dX7_copy_40 : decode cX7_copy 40 = .ok (.ireturn, 1) := by decide +kernel
theorem dX7_copy_41 : decode cX7_copy 41 = .ok (.aload_n 0, 1) := by decide +kernel
theorem dX7_copy_42 : decode cX7_copy 42 = .ok (.getfield 7, 3) := by decide +kernel
theorem dX7_copy_45 : decode cX7_copy 45 = .ok (.iload_n 1, 1) := by decide +kernel
theorem dX7_copy_46 : decode cX7_copy 46 = .ok (.iaload, 1) := by decide +kernel
theorem dX7_copy_47 : decode cX7_copy 47 = .ok (.aload_n 0, 1) := by decide +kernel
theorem dX7_copy_48 : decode cX7_copy 48 = .ok (.getfield 7, 3) := by decide +kernel
theorem dX7_copy_51 : decode cX7_copy 51 = .ok (.iload_n 3, 1) := by decide +kernel
theorem dX7_copy_52 : decode cX7_copy 52 = .ok (.iaload, 1) := by decide +kernel
theorem dX7_copy_53 : decode cX7_copy 53 = .ok (.if_icmp .eq 9, 3) := by decide +kernel
theorem dX7_copy_56 : decode cX7_copy 56 = .ok (.aload_n 0, 1) := by decide +kernel
theorem dX7_copy_57 : decode cX7_copy 57 = .ok (.iconst 5, 1) := by decide +kernel
theorem dX7_copy_58 : decode cX7_copy 58 = .ok (.invokevirtual 80, 3) := by decide +kernel
theorem dX7_copy_61 : decode cX7_copy 61 = .ok (.ireturn, 1) := by decide +kernel
theorem dX7_copy_62 : decode cX7_copy 62 = .ok (.iload 5, 2) := by decide +kernel
theorem dX7_copy_64 : decode cX7_copy 64 = .ok (.ifCond .lt 44, 3) := by decide +kernel
theorem dX7_copy_67 : decode cX7_copy 67 = .ok (.iload_n 2, 1) := by decide +kernel
theorem dX7_copy_68 : decode cX7_copy 68 = .ok (.i2l, 1) := by decide +kernel
theorem dX7_copy_69 : decode cX7_copy 69 = .ok (.lconst 0, 1) := by decide +kernel
theorem dX7_copy_70 : decode cX7_copy 70 = .ok (.aload_n 0, 1) := by decide +kernel
theorem dX7_copy_71 : decode cX7_copy 71 = .ok (.getfield 13, 3) := by decide +kernel
theorem dX7_copy_74 : decode cX7_copy 74 = .ok (.iload_n 1, 1) := by decide +kernel
theorem dX7_copy_75 : decode cX7_copy 75 = .ok (.iaload, 1) := by decide +kernel
theorem dX7_copy_76 : decode cX7_copy 76 = .ok (.i2l, 1) := by decide +kernel
theorem dX7_copy_77 : decode cX7_copy 77 = .ok (.iload 5, 2) := by decide +kernel
theorem dX7_copy_79 : decode cX7_copy 79 = .ok (.i2l, 1) := by decide +kernel
theorem dX7_copy_80 : decode cX7_copy 80 = .ok (.lsub, 1) := by decide +kernel
theorem dX7_copy_81 : decode cX7_copy 81 = .ok (.invokestatic 69, 3) := by decide +kernel
theorem dX7_copy_84 : decode cX7_copy 84 = .ok (.ifCond .eq 24, 3) := by decide +kernel
theorem dX7_copy_87 : decode cX7_copy 87 = .ok (.iload 4, 2) := by decide +kernel
theorem dX7_copy_89 : decode cX7_copy 89 = .ok (.i2l, 1) := by decide +kernel
theorem dX7_copy_90 : decode cX7_copy 90 = .ok (.lconst 0, 1) := by decide +kernel
theorem dX7_copy_91 : decode cX7_copy 91 = .ok (.aload_n 0, 1) := by decide +kernel
theorem dX7_copy_92 : decode cX7_copy 92 = .ok (.getfield 13, 3) := by decide +kernel
theorem dX7_copy_95 : decode cX7_copy 95 = .ok (.iload_n 3, 1) := by decide +kernel
theorem dX7_copy_96 : decode cX7_copy 96 = .ok (.iaload, 1) := by decide +kernel
theorem dX7_copy_97 : decode cX7_copy 97 = .ok (.i2l, 1) := by decide +kernel
theorem dX7_copy_98 : decode cX7_copy 98 = .ok (.iload 5, 2) := by decide +kernel
theorem dX7_copy_100 : decode cX7_copy 100 = .ok (.i2l, 1) := by decide +kernel
theorem dX7_copy_101 : decode cX7_copy 101 = .ok (.lsub, 1) := by decide +kernel
theorem dX7_copy_102 : decode cX7_copy 102 = .ok (.invokestatic 69, 3) := by decide +kernel
theorem dX7_copy_105 : decode cX7_copy 105 = .ok (.ifCond .ne 9, 3) := by decide +kernel
theorem dX7_copy_108 : decode cX7_copy 108 = .ok (.aload_n 0, 1) := by decide +kernel
theorem dX7_copy_109 : decode cX7_copy 109 = .ok (.iconst 2, 1) := by decide +kernel
theorem dX7_copy_110 : decode cX7_copy 110 = .ok (.invokevirtual 80, 3) := by decide +kernel
theorem dX7_copy_113 : decode cX7_copy 113 = .ok (.ireturn, 1) := by decide +kernel
theorem dX7_copy_114 : decode cX7_copy 114 = .ok (.iconst 0, 1) := by decide +kernel
theorem dX7_copy_115 : decode cX7_copy 115 = .ok (.istore 6, 2) := by decide +kernel
theorem dX7_copy_117 : decode cX7_copy 117 = .ok (.iload 6, 2) := by decide +kernel
theorem dX7_copy_119 : decode cX7_copy 119 = .ok (.iload 5, 2) := by decide +kernel
theorem dX7_copy_121 : decode cX7_copy 121 = .ok (.if_icmp .ge 30, 3) := by decide +kernel
theorem dX7_copy_124 : decode cX7_copy 124 = .ok (.aload_n 0, 1) := by decide +kernel
theorem dX7_copy_125 : decode cX7_copy 125 = .ok (.getfield 22, 3) := by decide +kernel
theorem dX7_copy_128 : decode cX7_copy 128 = .ok (.iload 6, 2) := by decide +kernel
theorem dX7_copy_130 : decode cX7_copy 130 = .ok (.aload_n 0, 1) := by decide +kernel
theorem dX7_copy_131 : decode cX7_copy 131 = .ok (.getfield 16, 3) := by decide +kernel
theorem dX7_copy_134 : decode cX7_copy 134 = .ok (.bipush 40, 2) := by decide +kernel
theorem dX7_copy_136 : decode cX7_copy 136 = .ok (.iload_n 1, 1) := by decide +kernel
theorem dX7_copy_137 : decode cX7_copy 137 = .ok (.imul, 1) := by decide +kernel
theorem dX7_copy_138 : decode cX7_copy 138 = .ok (.iload_n 2, 1) := by decide +kernel
theorem dX7_copy_139 : decode cX7_copy 139 = .ok (.iadd, 1) := by decide +kernel
theorem dX7_copy_140 : decode cX7_copy 140 = .ok (.iload 6, 2) := by decide +kernel
theorem dX7_copy_142 : decode cX7_copy 142 = .ok (.iadd, 1) := by decide +kernel
theorem dX7_copy_143 : decode cX7_copy 143 = .ok (.iaload, 1) := by decide +kernel
theorem dX7_copy_144 : decode cX7_copy 144 = .ok (.iastore, 1) := by decide +kernel
theorem dX7_copy_145 : decode cX7_copy 145 = .ok (.iinc 6 1, 3) := by decide +kernel
theorem dX7_copy_148 : decode cX7_copy 148 = .ok (.goto (-31), 3) := by decide +kernel
theorem dX7_copy_151 : decode cX7_copy 151 = .ok (.iconst 0, 1) := by decide +kernel
theorem dX7_copy_152 : decode cX7_copy 152 = .ok (.istore 6, 2) := by decide +kernel
theorem dX7_copy_154 : decode cX7_copy 154 = .ok (.iload 6, 2) := by decide +kernel
theorem dX7_copy_156 : decode cX7_copy 156 = .ok (.iload 5, 2) := by decide +kernel
theorem dX7_copy_158 : decode cX7_copy 158 = .ok (.if_icmp .ge 31, 3) := by decide +kernel
theorem dX7_copy_161 : decode cX7_copy 161 = .ok (.aload_n 0, 1) := by decide +kernel
theorem dX7_copy_162 : decode cX7_copy 162 = .ok (.getfield 16, 3) := by decide +kernel
theorem dX7_copy_165 : decode cX7_copy 165 = .ok (.bipush 40, 2) := by decide +kernel
theorem dX7_copy_167 : decode cX7_copy 167 = .ok (.iload_n 3, 1) := by decide +kernel
theorem dX7_copy_168 : decode cX7_copy 168 = .ok (.imul, 1) := by decide +kernel
theorem dX7_copy_169 : decode cX7_copy 169 = .ok (.iload 4, 2) := by decide +kernel
theorem dX7_copy_171 : decode cX7_copy 171 = .ok (.iadd, 1) := by decide +kernel
theorem dX7_copy_172 : decode cX7_copy 172 = .ok (.iload 6, 2) := by decide +kernel
theorem dX7_copy_174 : decode cX7_copy 174 = .ok (.iadd, 1) := by decide +kernel
theorem dX7_copy_175 : decode cX7_copy 175 = .ok (.aload_n 0, 1) := by decide +kernel
theorem dX7_copy_176 : decode cX7_copy 176 = .ok (.getfield 22, 3) := by decide +kernel
theorem dX7_copy_179 : decode cX7_copy 179 = .ok (.iload 6, 2) := by decide +kernel
theorem dX7_copy_181 : decode cX7_copy 181 = .ok (.iaload, 1) := by decide +kernel
theorem dX7_copy_182 : decode cX7_copy 182 = .ok (.iastore, 1) := by decide +kernel
theorem dX7_copy_183 : decode cX7_copy 183 = .ok (.iinc 6 1, 3) := by decide +kernel
theorem dX7_copy_186 : decode cX7_copy 186 = .ok (.goto (-32), 3) := by decide +kernel
theorem dX7_copy_189 : decode cX7_copy 189 = .ok (.aload_n 0, 1) := by decide +kernel
theorem dX7_copy_190 : decode cX7_copy 190 = .ok (.iload 5, 2) := by decide +kernel
theorem dX7_copy_192 : decode cX7_copy 192 = .ok (.invokevirtual 84, 3) := by decide +kernel
theorem dX7_copy_195 : decode cX7_copy 195 = .ok (.ireturn, 1) := by decide +kernel
theorem dX7_drop_0 : decode cX7_drop 0 = .ok (.iload_n 1, 1) := by decide +kernel
theorem dX7_drop_1 : decode cX7_drop 1 = .ok (.invokestatic 73, 3) := by decide +kernel
theorem dX7_drop_4 : decode cX7_drop 4 = .ok (.ifCond .ne 6, 3) := by decide +kernel
theorem dX7_drop_7 : decode cX7_drop 7 = .ok (.ldc 79, 2) := by decide +kernel
theorem dX7_drop_9 : decode cX7_drop 9 = .ok (.ireturn, 1) := by decide +kernel
theorem dX7_drop_10 : decode cX7_drop 10 = .ok (.aload_n 0, 1) := by decide +kernel
theorem dX7_drop_11 : decode cX7_drop 11 = .ok (.getfield 13, 3) := by decide +kernel
theorem dX7_drop_14 : decode cX7_drop 14 = .ok (.iload_n 1, 1) := by decide +kernel
theorem dX7_drop_15 : decode cX7_drop 15 = .ok (.iaload, 1) := by decide +kernel
theorem dX7_drop_16 : decode cX7_drop 16 = .ok (.ifCond .ge 9, 3) := by decide +kernel
theorem dX7_drop_19 : decode cX7_drop 19 = .ok (.aload_n 0, 1) := by decide +kernel
theorem dX7_drop_20 : decode cX7_drop 20 = .ok (.iconst 1, 1) := by decide +kernel
theorem dX7_drop_21 : decode cX7_drop 21 = .ok (.invokevirtual 80, 3) := by decide +kernel
theorem dX7_drop_24 : decode cX7_drop 24 = .ok (.ireturn, 1) := by decide +kernel
theorem dX7_drop_25 : decode cX7_drop 25 = .ok (.aload_n 0, 1) := by decide +kernel
theorem dX7_drop_26 : decode cX7_drop 26 = .ok (.getfield 13, 3) := by decide +kernel
theorem dX7_drop_29 : decode cX7_drop 29 = .ok (.iload_n 1, 1) := by decide +kernel
theorem dX7_drop_30 : decode cX7_drop 30 = .ok (.iaload, 1) := by decide +kernel
theorem dX7_drop_31 : decode cX7_drop 31 = .ok (.istore_n 2, 1) := by decide +kernel
theorem dX7_drop_32 : decode cX7_drop 32 = .ok (.aload_n 0, 1) := by decide +kernel
theorem dX7_drop_33 : decode cX7_drop 33 = .ok (.getfield 13, 3) := by decide +kernel
theorem dX7_drop_36 : decode cX7_drop 36 = .ok (.iload_n 1, 1) := by decide +kernel
theorem dX7_drop_37 : decode cX7_drop 37 = .ok (.iconst (-1), 1) := by decide +kernel
theorem dX7_drop_38 : decode cX7_drop 38 = .ok (.iastore, 1) := by decide +kernel
theorem dX7_drop_39 : decode cX7_drop 39 = .ok (.aload_n 0, 1) := by decide +kernel
theorem dX7_drop_40 : decode cX7_drop 40 = .ok (.iload_n 2, 1) := by decide +kernel
theorem dX7_drop_41 : decode cX7_drop 41 = .ok (.invokevirtual 84, 3) := by decide +kernel
theorem dX7_drop_44 : decode cX7_drop 44 = .ok (.ireturn, 1) := by decide +kernel
theorem dX7_feed_0 : decode cX7_feed 0 = .ok (.iload_n 1, 1) := by decide +kernel
theorem dX7_feed_1 : decode cX7_feed 1 = .ok (.i2l, 1) := by decide +kernel
theorem dX7_feed_2 : decode cX7_feed 2 = .ok (.lconst 0, 1) := by decide +kernel
theorem dX7_feed_3 : decode cX7_feed 3 = .ok (.ldc2_w 91, 3) := by decide +kernel
theorem dX7_feed_6 : decode cX7_feed 6 = .ok (.invokestatic 69, 3) := by decide +kernel
theorem dX7_feed_9 : decode cX7_feed 9 = .ok (.ifCond .ne 6, 3) := by decide +kernel
theorem dX7_feed_12 : decode cX7_feed 12 = .ok (.ldc 79, 2) := by decide +kernel
theorem dX7_feed_14 : decode cX7_feed 14 = .ok (.ireturn, 1) := by decide +kernel
theorem dX7_feed_15 : decode cX7_feed 15 = .ok (.aload_n 0, 1) := by decide +kernel
theorem dX7_feed_16 : decode cX7_feed 16 = .ok (.getfield 93, 3) := by decide +kernel
theorem dX7_feed_19 : decode cX7_feed 19 = .ok (.bipush 100, 2) := by decide +kernel
theorem dX7_feed_21 : decode cX7_feed 21 = .ok (.if_icmp .ne 6, 3) := by decide +kernel
theorem dX7_feed_24 : decode cX7_feed 24 = .ok (.ldc 96, 2) := by decide +kernel
theorem dX7_feed_26 : decode cX7_feed 26 = .ok (.ireturn, 1) := by decide +kernel
theorem dX7_feed_27 : decode cX7_feed 27 = .ok (.aload_n 0, 1) := by decide +kernel
theorem dX7_feed_28 : decode cX7_feed 28 = .ok (.getfield 25, 3) := by decide +kernel
theorem dX7_feed_31 : decode cX7_feed 31 = .ok (.aload_n 0, 1) := by decide +kernel
theorem dX7_feed_32 : decode cX7_feed 32 = .ok (.getfield 93, 3) := by decide +kernel
theorem dX7_feed_35 : decode cX7_feed 35 = .ok (.iload_n 1, 1) := by decide +kernel
theorem dX7_feed_36 : decode cX7_feed 36 = .ok (.iastore, 1) := by decide +kernel
theorem dX7_feed_37 : decode cX7_feed 37 = .ok (.aload_n 0, 1) := by decide +kernel
theorem dX7_feed_38 : decode cX7_feed 38 = .ok (.dup, 1) := by decide +kernel
theorem dX7_feed_39 : decode cX7_feed 39 = .ok (.getfield 93, 3) := by decide +kernel
theorem dX7_feed_42 : decode cX7_feed 42 = .ok (.iconst 1, 1) := by decide +kernel
theorem dX7_feed_43 : decode cX7_feed 43 = .ok (.iadd, 1) := by decide +kernel
theorem dX7_feed_44 : decode cX7_feed 44 = .ok (.putfield 93, 3) := by decide +kernel
theorem dX7_feed_47 : decode cX7_feed 47 = .ok (.aload_n 0, 1) := by decide +kernel
theorem dX7_feed_48 : decode cX7_feed 48 = .ok (.getfield 93, 3) := by decide +kernel
theorem dX7_feed_51 : decode cX7_feed 51 = .ok (.ireturn, 1) := by decide +kernel
theorem dX7_nextToken_0 : decode cX7_nextToken 0 = .ok (.aload_n 0, 1) := by decide +kernel
theorem dX7_nextToken_1 : decode cX7_nextToken 1 = .ok (.aload_n 0, 1) := by decide +kernel
theorem dX7_nextToken_2 : decode cX7_nextToken 2 = .ok (.getfield 97, 3) := by decide +kernel
theorem dX7_nextToken_5 : decode cX7_nextToken 5 = .ok (.putfield 100, 3) := by decide +kernel
theorem dX7_nextToken_8 : decode cX7_nextToken 8 = .ok (.aload_n 0, 1) := by decide +kernel
theorem dX7_nextToken_9 : decode cX7_nextToken 9 = .ok (.aload_n 0, 1) := by decide +kernel
theorem dX7_nextToken_10 : decode cX7_nextToken 10 = .ok (.getfield 97, 3) := by decide +kernel
theorem dX7_nextToken_13 : decode cX7_nextToken 13 = .ok (.aload_n 0, 1) := by decide +kernel
theorem dX7_nextToken_14 : decode cX7_nextToken 14 = .ok (.getfield 93, 3) := by decide +kernel
theorem dX7_nextToken_17 : decode cX7_nextToken 17 = .ok (.if_icmp .ne 7, 3) := by decide +kernel
theorem dX7_nextToken_20 : decode cX7_nextToken 20 = .ok (.iconst 3, 1) := by decide +kernel
theorem dX7_nextToken_21 : decode cX7_nextToken 21 = .ok (.goto 4, 3) := by decide +kernel
theorem dX7_nextToken_24 : decode cX7_nextToken 24 = .ok (.iconst 0, 1) := by decide +kernel
theorem dX7_nextToken_25 : decode cX7_nextToken 25 = .ok (.putfield 103, 3) := by decide +kernel
theorem dX7_nextToken_28 : decode cX7_nextToken 28 = .ok (.aload_n 0, 1) := by decide +kernel
theorem dX7_nextToken_29 : decode cX7_nextToken 29 = .ok (.iconst 0, 1) := by decide +kernel
theorem dX7_nextToken_30 : decode cX7_nextToken 30 = .ok (.putfield 106, 3) := by decide +kernel
theorem dX7_nextToken_33 : decode cX7_nextToken 33 = .ok (.aload_n 0, 1) := by decide +kernel
theorem dX7_nextToken_34 : decode cX7_nextToken 34 = .ok (.getfield 97, 3) := by decide +kernel
theorem dX7_nextToken_37 : decode cX7_nextToken 37 = .ok (.aload_n 0, 1) := by decide +kernel
theorem dX7_nextToken_38 : decode cX7_nextToken 38 = .ok (.getfield 93, 3) := by decide +kernel
theorem dX7_nextToken_41 : decode cX7_nextToken 41 = .ok (.if_icmp .ge 78, 3) := by decide +kernel
theorem dX7_nextToken_44 : decode cX7_nextToken 44 = .ok (.aload_n 0, 1) := by decide +kernel
theorem dX7_nextToken_45 : decode cX7_nextToken 45 = .ok (.getfield 25, 3) := by decide +kernel
theorem dX7_nextToken_48 : decode cX7_nextToken 48 = .ok (.aload_n 0, 1) := by decide +kernel
theorem dX7_nextToken_49 : decode cX7_nextToken 49 = .ok (.getfield 97, 3) := by decide +kernel
theorem dX7_nextToken_52 : decode cX7_nextToken 52 = .ok (.iaload, 1) := by decide +kernel
theorem dX7_nextToken_53 : decode cX7_nextToken 53 = .ok (.i2l, 1) := by decide +kernel
theorem dX7_nextToken_54 : decode cX7_nextToken 54 = .ok (.ldc2_w 109, 3) := by decide +kernel
theorem dX7_nextToken_57 : decode cX7_nextToken 57 = .ok (.ldc2_w 111, 3) := by decide +kernel
theorem dX7_nextToken_60 : decode cX7_nextToken 60 = .ok (.invokestatic 69, 3) := by decide +kernel
theorem dX7_nextToken_63 : decode cX7_nextToken 63 = .ok (.ifCond .eq 56, 3) := by decide +kernel
theorem dX7_nextToken_66 : decode cX7_nextToken 66 = .ok (.aload_n 0, 1) := by decide +kernel
theorem dX7_nextToken_67 : decode cX7_nextToken 67 = .ok (.aload_n 0, 1) := by decide +kernel
theorem dX7_nextToken_68 : decode cX7_nextToken 68 = .ok (.getfield 106, 3) := by decide +kernel
theorem dX7_nextToken_71 : decode cX7_nextToken 71 = .ok (.bipush 99, 2) := by decide +kernel
theorem dX7_nextToken_73 : decode cX7_nextToken 73 = .ok (.if_icmp .le 10, 3) := by decide +kernel
theorem dX7_nextToken_76 : decode cX7_nextToken 76 = .ok (.aload_n 0, 1) := by decide +kernel
theorem dX7_nextToken_77 : decode cX7_nextToken 77 = .ok (.getfield 106, 3) := by decide +kernel
theorem dX7_nextToken_80 : decode cX7_nextToken 80 = .ok (.goto 23, 3) := by decide +kernel
theorem dX7_nextToken_83 : decode cX7_nextToken 83 = .ok (.bipush 10, 2) := by decide +kernel
theorem dX7_nextToken_85 : decode cX7_nextToken 85 = .ok (.aload_n 0, 1) := by decide +kernel
theorem dX7_nextToken_86 : decode cX7_nextToken 86 = .ok (.getfield 106, 3) := by decide +kernel
theorem dX7_nextToken_89 : decode cX7_nextToken 89 = .ok (.imul, 1) := by decide +kernel
theorem dX7_nextToken_90 : decode cX7_nextToken 90 = .ok (.aload_n 0, 1) := by decide +kernel
theorem dX7_nextToken_91 : decode cX7_nextToken 91 = .ok (.getfield 25, 3) := by decide +kernel
theorem dX7_nextToken_94 : decode cX7_nextToken 94 = .ok (.aload_n 0, 1) := by decide +kernel
theorem dX7_nextToken_95 : decode cX7_nextToken 95 = .ok (.getfield 97, 3) := by decide +kernel
theorem dX7_nextToken_98 : decode cX7_nextToken 98 = .ok (.iaload, 1) := by decide +kernel
theorem dX7_nextToken_99 : decode cX7_nextToken 99 = .ok (.iadd, 1) := by decide +kernel
theorem dX7_nextToken_100 : decode cX7_nextToken 100 = .ok (.bipush 48, 2) := by decide +kernel
theorem dX7_nextToken_102 : decode cX7_nextToken 102 = .ok (.isub, 1) := by decide +kernel
theorem dX7_nextToken_103 : decode cX7_nextToken 103 = .ok (.putfield 106, 3) := by decide +kernel
theorem dX7_nextToken_106 : decode cX7_nextToken 106 = .ok (.aload_n 0, 1) := by decide +kernel
theorem dX7_nextToken_107 : decode cX7_nextToken 107 = .ok (.dup, 1) := by decide +kernel
theorem dX7_nextToken_108 : decode cX7_nextToken 108 = .ok (.getfield 97, 3) := by decide +kernel
theorem dX7_nextToken_111 : decode cX7_nextToken 111 = .ok (.iconst 1, 1) := by decide +kernel
theorem dX7_nextToken_112 : decode cX7_nextToken 112 = .ok (.iadd, 1) := by decide +kernel
theorem dX7_nextToken_113 : decode cX7_nextToken 113 = .ok (.putfield 97, 3) := by decide +kernel
theorem dX7_nextToken_116 : decode cX7_nextToken 116 = .ok (.goto (-83), 3) := by decide +kernel
theorem dX7_nextToken_119 : decode cX7_nextToken 119 = .ok (.aload_n 0, 1) := by decide +kernel
theorem dX7_nextToken_120 : decode cX7_nextToken 120 = .ok (.getfield 97, 3) := by decide +kernel
theorem dX7_nextToken_123 : decode cX7_nextToken 123 = .ok (.aload_n 0, 1) := by decide +kernel
theorem dX7_nextToken_124 : decode cX7_nextToken 124 = .ok (.getfield 100, 3) := by decide +kernel
theorem dX7_nextToken_127 : decode cX7_nextToken 127 = .ok (.if_icmp .le 28, 3) := by decide +kernel
theorem dX7_nextToken_130 : decode cX7_nextToken 130 = .ok (.aload_n 0, 1) := by decide +kernel
theorem dX7_nextToken_131 : decode cX7_nextToken 131 = .ok (.aload_n 0, 1) := by decide +kernel
theorem dX7_nextToken_132 : decode cX7_nextToken 132 = .ok (.getfield 97, 3) := by decide +kernel
theorem dX7_nextToken_135 : decode cX7_nextToken 135 = .ok (.aload_n 0, 1) := by decide +kernel
theorem dX7_nextToken_136 : decode cX7_nextToken 136 = .ok (.getfield 100, 3) := by decide +kernel
theorem dX7_nextToken_139 : decode cX7_nextToken 139 = .ok (.isub, 1) := by decide +kernel
theorem dX7_nextToken_140 : decode cX7_nextToken 140 = .ok (.iconst 2, 1) := by decide +kernel
theorem dX7_nextToken_141 : decode cX7_nextToken 141 = .ok (.if_icmp .le 7, 3) := by decide +kernel
theorem dX7_nextToken_144 : decode cX7_nextToken 144 = .ok (.iconst 0, 1) := by decide +kernel
theorem dX7_nextToken_145 : decode cX7_nextToken 145 = .ok (.goto 4, 3) := by decide +kernel
theorem dX7_nextToken_148 : decode cX7_nextToken 148 = .ok (.iconst 2, 1) := by decide +kernel
theorem dX7_nextToken_149 : decode cX7_nextToken 149 = .ok (.putfield 103, 3) := by decide +kernel
theorem dX7_nextToken_152 : decode cX7_nextToken 152 = .ok (.goto 77, 3) := by decide +kernel
theorem dX7_nextToken_155 : decode cX7_nextToken 155 = .ok (.aload_n 0, 1) := by decide +kernel
theorem dX7_nextToken_156 : decode cX7_nextToken 156 = .ok (.getfield 103, 3) := by decide +kernel
theorem dX7_nextToken_159 : decode cX7_nextToken 159 = .ok (.ifCond .ne 70, 3) := by decide +kernel
theorem dX7_nextToken_162 : decode cX7_nextToken 162 = .ok (.aload_n 0, 1) := by decide +kernel
theorem dX7_nextToken_163 : decode cX7_nextToken 163 = .ok (.aload_n 0, 1) := by decide +kernel
theorem dX7_nextToken_164 : decode cX7_nextToken 164 = .ok (.getfield 25, 3) := by decide +kernel
theorem dX7_nextToken_167 : decode cX7_nextToken 167 = .ok (.aload_n 0, 1) := by decide +kernel
theorem dX7_nextToken_168 : decode cX7_nextToken 168 = .ok (.getfield 97, 3) := by decide +kernel
theorem dX7_nextToken_171 : decode cX7_nextToken 171 = .ok (.iaload, 1) := by decide +kernel
theorem dX7_nextToken_172 : decode cX7_nextToken 172 = .ok (.putfield 106, 3) := by decide +kernel
theorem dX7_nextToken_175 : decode cX7_nextToken 175 = .ok (.aload_n 0, 1) := by decide +kernel
theorem dX7_nextToken_176 : decode cX7_nextToken 176 = .ok (.aload_n 0, 1) := by decide +kernel
theorem dX7_nextToken_177 : decode cX7_nextToken 177 = .ok (.getfield 106, 3) := by decide +kernel
theorem dX7_nextToken_180 : decode cX7_nextToken 180 = .ok (.i2l, 1) := by decide +kernel
theorem dX7_nextToken_181 : decode cX7_nextToken 181 = .ok (.ldc2_w 113, 3) := by decide +kernel
theorem dX7_nextToken_184 : decode cX7_nextToken 184 = .ok (.ldc2_w 115, 3) := by decide +kernel
theorem dX7_nextToken_187 : decode cX7_nextToken 187 = .ok (.invokestatic 69, 3) := by decide +kernel
theorem dX7_nextToken_190 : decode cX7_nextToken 190 = .ok (.ifCond .ne 21, 3) := by decide +kernel
theorem dX7_nextToken_193 : decode cX7_nextToken 193 = .ok (.aload_n 0, 1) := by decide +kernel
theorem dX7_nextToken_194 : decode cX7_nextToken 194 = .ok (.getfield 106, 3) := by decide +kernel
theorem dX7_nextToken_197 : decode cX7_nextToken 197 = .ok (.bipush 44, 2) := by decide +kernel
theorem dX7_nextToken_199 : decode cX7_nextToken 199 = .ok (.if_icmp .eq 12, 3) := by decide +kernel
theorem dX7_nextToken_202 : decode cX7_nextToken 202 = .ok (.aload_n 0, 1) := by decide +kernel
theorem dX7_nextToken_203 : decode cX7_nextToken 203 = .ok (.getfield 106, 3) := by decide +kernel
theorem dX7_nextToken_206 : decode cX7_nextToken 206 = .ok (.bipush 59, 2) := by decide +kernel
theorem dX7_nextToken_208 : decode cX7_nextToken 208 = .ok (.if_icmp .ne 7, 3) := by decide +kernel
theorem dX7_nextToken_211 : decode cX7_nextToken 211 = .ok (.iconst 1, 1) := by decide +kernel
theorem dX7_nextToken_212 : decode cX7_nextToken 212 = .ok (.goto 4, 3) := by decide +kernel
theorem dX7_nextToken_215 : decode cX7_nextToken 215 = .ok (.iconst 0, 1) := by decide +kernel
theorem dX7_nextToken_216 : decode cX7_nextToken 216 = .ok (.putfield 103, 3) := by decide +kernel
theorem dX7_nextToken_219 : decode cX7_nextToken 219 = .ok (.aload_n 0, 1) := by decide +kernel
theorem dX7_nextToken_220 : decode cX7_nextToken 220 = .ok (.dup, 1) := by decide +kernel
theorem dX7_nextToken_221 : decode cX7_nextToken 221 = .ok (.getfield 97, 3) := by decide +kernel
theorem dX7_nextToken_224 : decode cX7_nextToken 224 = .ok (.iconst 1, 1) := by decide +kernel
theorem dX7_nextToken_225 : decode cX7_nextToken 225 = .ok (.iadd, 1) := by decide +kernel
theorem dX7_nextToken_226 : decode cX7_nextToken 226 = .ok (.putfield 97, 3) := by decide +kernel
theorem dX7_nextToken_229 : decode cX7_nextToken 229 = .ok (.return_, 1) := by decide +kernel
theorem dX7_faults_0 : decode cX7_faults 0 = .ok (.aload_n 0, 1) := by decide +kernel
theorem dX7_faults_1 : decode cX7_faults 1 = .ok (.iload_n 1, 1) := by decide +kernel
theorem dX7_faults_2 : decode cX7_faults 2 = .ok (.putfield 117, 3) := by decide +kernel
theorem dX7_faults_5 : decode cX7_faults 5 = .ok (.iconst 0, 1) := by decide +kernel
theorem dX7_faults_6 : decode cX7_faults 6 = .ok (.ireturn, 1) := by decide +kernel
theorem dX7_isLetter_0 : decode cX7_isLetter 0 = .ok (.aload_n 0, 1) := by decide +kernel
theorem dX7_isLetter_1 : decode cX7_isLetter 1 = .ok (.getfield 103, 3) := by decide +kernel
theorem dX7_isLetter_4 : decode cX7_isLetter 4 = .ok (.iconst 1, 1) := by decide +kernel
theorem dX7_isLetter_5 : decode cX7_isLetter 5 = .ok (.if_icmp .ne 15, 3) := by decide +kernel
theorem dX7_isLetter_8 : decode cX7_isLetter 8 = .ok (.aload_n 0, 1) := by decide +kernel
theorem dX7_isLetter_9 : decode cX7_isLetter 9 = .ok (.getfield 106, 3) := by decide +kernel
theorem dX7_isLetter_12 : decode cX7_isLetter 12 = .ok (.iload_n 1, 1) := by decide +kernel
theorem dX7_isLetter_13 : decode cX7_isLetter 13 = .ok (.if_icmp .ne 7, 3) := by decide +kernel
theorem dX7_isLetter_16 : decode cX7_isLetter 16 = .ok (.iconst 1, 1) := by decide +kernel
theorem dX7_isLetter_17 : decode cX7_isLetter 17 = .ok (.goto 4, 3) := by decide +kernel
theorem dX7_isLetter_20 : decode cX7_isLetter 20 = .ok (.iconst 0, 1) := by decide +kernel
theorem dX7_isLetter_21 : decode cX7_isLetter 21 = .ok (.ireturn, 1) := by decide +kernel
theorem dX7_takes_0 : decode cX7_takes 0 = .ok (.aload_n 0, 1) := by decide +kernel
theorem dX7_takes_1 : decode cX7_takes 1 = .ok (.iload_n 1, 1) := by decide +kernel
theorem dX7_takes_2 : decode cX7_takes 2 = .ok (.invokevirtual 120, 3) := by decide +kernel
theorem dX7_takes_5 : decode cX7_takes 5 = .ok (.ifCond .ne 9, 3) := by decide +kernel
theorem dX7_takes_8 : decode cX7_takes 8 = .ok (.aload_n 0, 1) := by decide +kernel
theorem dX7_takes_9 : decode cX7_takes 9 = .ok (.iconst 1, 1) := by decide +kernel
theorem dX7_takes_10 : decode cX7_takes 10 = .ok (.invokevirtual 123, 3) := by decide +kernel
theorem dX7_takes_13 : decode cX7_takes 13 = .ok (.ireturn, 1) := by decide +kernel
theorem dX7_takes_14 : decode cX7_takes 14 = .ok (.aload_n 0, 1) := by decide +kernel
theorem dX7_takes_15 : decode cX7_takes 15 = .ok (.invokevirtual 126, 3) := by decide +kernel
theorem dX7_takes_18 : decode cX7_takes 18 = .ok (.iconst 1, 1) := by decide +kernel
theorem dX7_takes_19 : decode cX7_takes 19 = .ok (.ireturn, 1) := by decide +kernel
theorem dX7_takesNumber_0 : decode cX7_takesNumber 0 = .ok (.aload_n 0, 1) := by decide +kernel
theorem dX7_takesNumber_1 : decode cX7_takesNumber 1 = .ok (.getfield 103, 3) := by decide +kernel
theorem dX7_takesNumber_4 : decode cX7_takesNumber 4 = .ok (.iconst 2, 1) := by decide +kernel
theorem dX7_takesNumber_5 : decode cX7_takesNumber 5 = .ok (.if_icmp .ne 18, 3) := by decide +kernel
theorem dX7_takesNumber_8 : decode cX7_takesNumber 8 = .ok (.aload_n 0, 1) := by decide +kernel
theorem dX7_takesNumber_9 : decode cX7_takesNumber 9 = .ok (.getfield 106, 3) := by decide +kernel
theorem dX7_takesNumber_12 : decode cX7_takesNumber 12 = .ok (.i2l, 1) := by decide +kernel
theorem dX7_takesNumber_13 : decode cX7_takesNumber 13 = .ok (.iload_n 1, 1) := by decide +kernel
theorem dX7_takesNumber_14 : decode cX7_takesNumber 14 = .ok (.i2l, 1) := by decide +kernel
theorem dX7_takesNumber_15 : decode cX7_takesNumber 15 = .ok (.iload_n 2, 1) := by decide +kernel
theorem dX7_takesNumber_16 : decode cX7_takesNumber 16 = .ok (.i2l, 1) := by decide +kernel
theorem dX7_takesNumber_17 : decode cX7_takesNumber 17 = .ok (.invokestatic 69, 3) := by decide +kernel
theorem dX7_takesNumber_20 : decode cX7_takesNumber 20 = .ok (.ifCond .ne 21, 3) := by decide +kernel
theorem dX7_takesNumber_23 : decode cX7_takesNumber 23 = .ok (.aload_n 0, 1) := by decide +kernel
theorem dX7_takesNumber_24 : decode cX7_takesNumber 24 = .ok (.aload_n 0, 1) := by decide +kernel
theorem dX7_takesNumber_25 : decode cX7_takesNumber 25 = .ok (.getfield 103, 3) := by decide +kernel
theorem dX7_takesNumber_28 : decode cX7_takesNumber 28 = .ok (.iconst 2, 1) := by decide +kernel
theorem dX7_takesNumber_29 : decode cX7_takesNumber 29 = .ok (.if_icmp .ne 7, 3) := by decide +kernel
theorem dX7_takesNumber_32 : decode cX7_takesNumber 32 = .ok (.iconst 2, 1) := by decide +kernel
theorem dX7_takesNumber_33 : decode cX7_takesNumber 33 = .ok (.goto 4, 3) := by decide +kernel
theorem dX7_takesNumber_36 : decode cX7_takesNumber 36 = .ok (.iconst 1, 1) := by decide +kernel
theorem dX7_takesNumber_37 : decode cX7_takesNumber 37 = .ok (.invokevirtual 123, 3) := by decide +kernel
theorem dX7_takesNumber_40 : decode cX7_takesNumber 40 = .ok (.ireturn, 1) := by decide +kernel
theorem dX7_takesNumber_41 : decode cX7_takesNumber 41 = .ok (.aload_n 0, 1) := by decide +kernel
theorem dX7_takesNumber_42 : decode cX7_takesNumber 42 = .ok (.getfield 28, 3) := by decide +kernel
theorem dX7_takesNumber_45 : decode cX7_takesNumber 45 = .ok (.iload_n 3, 1) := by decide +kernel
theorem dX7_takesNumber_46 : decode cX7_takesNumber 46 = .ok (.aload_n 0, 1) := by decide +kernel
theorem dX7_takesNumber_47 : decode cX7_takesNumber 47 = .ok (.getfield 106, 3) := by decide +kernel
theorem dX7_takesNumber_50 : decode cX7_takesNumber 50 = .ok (.iastore, 1) := by decide +kernel
theorem dX7_takesNumber_51 : decode cX7_takesNumber 51 = .ok (.aload_n 0, 1) := by decide +kernel
theorem dX7_takesNumber_52 : decode cX7_takesNumber 52 = .ok (.invokevirtual 126, 3) := by decide +kernel
theorem dX7_takesNumber_55 : decode cX7_takesNumber 55 = .ok (.aload_n 0, 1) := by decide +kernel
theorem dX7_takesNumber_56 : decode cX7_takesNumber 56 = .ok (.iload 4, 2) := by decide +kernel
theorem dX7_takesNumber_58 : decode cX7_takesNumber 58 = .ok (.invokevirtual 129, 3) := by decide +kernel
theorem dX7_takesNumber_61 : decode cX7_takesNumber 61 = .ok (.ireturn, 1) := by decide +kernel
theorem dX7_readThing_0 : decode cX7_readThing 0 = .ok (.aload_n 0, 1) := by decide +kernel
theorem dX7_readThing_1 : decode cX7_readThing 1 = .ok (.getfield 28, 3) := by decide +kernel
theorem dX7_readThing_4 : decode cX7_readThing 4 = .ok (.iconst 2, 1) := by decide +kernel
theorem dX7_readThing_5 : decode cX7_readThing 5 = .ok (.iaload, 1) := by decide +kernel
theorem dX7_readThing_6 : decode cX7_readThing 6 = .ok (.istore_n 2, 1) := by decide +kernel
theorem dX7_readThing_7 : decode cX7_readThing 7 = .ok (.iload_n 2, 1) := by decide +kernel
theorem dX7_readThing_8 : decode cX7_readThing 8 = .ok (.bipush 6, 2) := by decide +kernel
theorem dX7_readThing_10 : decode cX7_readThing 10 = .ok (.if_icmp .ne 9, 3) := by decide +kernel
theorem dX7_readThing_13 : decode cX7_readThing 13 = .ok (.aload_n 0, 1) := by decide +kernel
theorem dX7_readThing_14 : decode cX7_readThing 14 = .ok (.iconst 3, 1) := by decide +kernel
theorem dX7_readThing_15 : decode cX7_readThing 15 = .ok (.invokevirtual 123, 3) := by decide +kernel
theorem dX7_readThing_18 : decode cX7_readThing 18 = .ok (.ireturn, 1) := by decide +kernel
theorem dX7_readThing_19 : decode cX7_readThing 19 = .ok (.aload_n 0, 1) := by decide +kernel
theorem dX7_readThing_20 : decode cX7_readThing 20 = .ok (.invokevirtual 126, 3) := by decide +kernel
theorem dX7_readThing_23 : decode cX7_readThing 23 = .ok (.aload_n 0, 1) := by decide +kernel
theorem dX7_readThing_24 : decode cX7_readThing 24 = .ok (.getfield 28, 3) := by decide +kernel
theorem dX7_readThing_27 : decode cX7_readThing 27 = .ok (.iconst 5, 1) := by decide +kernel
theorem dX7_readThing_28 : decode cX7_readThing 28 = .ok (.iload_n 2, 1) := by decide +kernel
theorem dX7_readThing_29 : decode cX7_readThing 29 = .ok (.iadd, 1) := by decide +kernel
theorem dX7_readThing_30 : decode cX7_readThing 30 = .ok (.iload_n 1, 1) := by decide +kernel
theorem dX7_readThing_31 : decode cX7_readThing 31 = .ok (.iastore, 1) := by decide +kernel
theorem dX7_readThing_32 : decode cX7_readThing 32 = .ok (.aload_n 0, 1) := by decide +kernel
theorem dX7_readThing_33 : decode cX7_readThing 33 = .ok (.getfield 28, 3) := by decide +kernel
theorem dX7_readThing_36 : decode cX7_readThing 36 = .ok (.iconst 2, 1) := by decide +kernel
theorem dX7_readThing_37 : decode cX7_readThing 37 = .ok (.dup2, 1) := by decide +kernel
theorem dX7_readThing_38 : decode cX7_readThing 38 = .ok (.iaload, 1) := by decide +kernel
theorem dX7_readThing_39 : decode cX7_readThing 39 = .ok (.iconst 1, 1) := by decide +kernel
theorem dX7_readThing_40 : decode cX7_readThing 40 = .ok (.iadd, 1) := by decide +kernel
theorem dX7_readThing_41 : decode cX7_readThing 41 = .ok (.iastore, 1) := by decide +kernel
theorem dX7_readThing_42 : decode cX7_readThing 42 = .ok (.aload_n 0, 1) := by decide +kernel
theorem dX7_readThing_43 : decode cX7_readThing 43 = .ok (.iconst 0, 1) := by decide +kernel
theorem dX7_readThing_44 : decode cX7_readThing 44 = .ok (.bipush 60, 2) := by decide +kernel
theorem dX7_readThing_46 : decode cX7_readThing 46 = .ok (.bipush 11, 2) := by decide +kernel
theorem dX7_readThing_48 : decode cX7_readThing 48 = .ok (.iload_n 2, 1) := by decide +kernel
theorem dX7_readThing_49 : decode cX7_readThing 49 = .ok (.iadd, 1) := by decide +kernel
theorem dX7_readThing_50 : decode cX7_readThing 50 = .ok (.bipush 44, 2) := by decide +kernel
theorem dX7_readThing_52 : decode cX7_readThing 52 = .ok (.invokevirtual 132, 3) := by decide +kernel
theorem dX7_readThing_55 : decode cX7_readThing 55 = .ok (.ifCond .eq 54, 3) := by decide +kernel
theorem dX7_readThing_58 : decode cX7_readThing 58 = .ok (.aload_n 0, 1) := by decide +kernel
theorem dX7_readThing_59 : decode cX7_readThing 59 = .ok (.iconst 1, 1) := by decide +kernel
theorem dX7_readThing_60 : decode cX7_readThing 60 = .ok (.bipush 9, 2) := by decide +kernel
theorem dX7_readThing_62 : decode cX7_readThing 62 = .ok (.bipush 17, 2) := by decide +kernel
theorem dX7_readThing_64 : decode cX7_readThing 64 = .ok (.iload_n 2, 1) := by decide +kernel
theorem dX7_readThing_65 : decode cX7_readThing 65 = .ok (.iadd, 1) := by decide +kernel
theorem dX7_readThing_66 : decode cX7_readThing 66 = .ok (.bipush 44, 2) := by decide +kernel
theorem dX7_readThing_68 : decode cX7_readThing 68 = .ok (.invokevirtual 132, 3) := by decide +kernel
theorem dX7_readThing_71 : decode cX7_readThing 71 = .ok (.ifCond .eq 38, 3) := by decide +kernel
theorem dX7_readThing_74 : decode cX7_readThing 74 = .ok (.aload_n 0, 1) := by decide +kernel
theorem dX7_readThing_75 : decode cX7_readThing 75 = .ok (.iconst 1, 1) := by decide +kernel
theorem dX7_readThing_76 : decode cX7_readThing 76 = .ok (.bipush 9, 2) := by decide +kernel
theorem dX7_readThing_78 : decode cX7_readThing 78 = .ok (.bipush 23, 2) := by decide +kernel
theorem dX7_readThing_80 : decode cX7_readThing 80 = .ok (.iload_n 2, 1) := by decide +kernel
theorem dX7_readThing_81 : decode cX7_readThing 81 = .ok (.iadd, 1) := by decide +kernel
theorem dX7_readThing_82 : decode cX7_readThing 82 = .ok (.bipush 44, 2) := by decide +kernel
theorem dX7_readThing_84 : decode cX7_readThing 84 = .ok (.invokevirtual 132, 3) := by decide +kernel
theorem dX7_readThing_87 : decode cX7_readThing 87 = .ok (.ifCond .eq 22, 3) := by decide +kernel
theorem dX7_readThing_90 : decode cX7_readThing 90 = .ok (.aload_n 0, 1) := by decide +kernel
theorem dX7_readThing_91 : decode cX7_readThing 91 = .ok (.iconst 0, 1) := by decide +kernel
theorem dX7_readThing_92 : decode cX7_readThing 92 = .ok (.iconst 1, 1) := by decide +kernel
theorem dX7_readThing_93 : decode cX7_readThing 93 = .ok (.bipush 29, 2) := by decide +kernel
theorem dX7_readThing_95 : decode cX7_readThing 95 = .ok (.iload_n 2, 1) := by decide +kernel
theorem dX7_readThing_96 : decode cX7_readThing 96 = .ok (.iadd, 1) := by decide +kernel
theorem dX7_readThing_97 : decode cX7_readThing 97 = .ok (.bipush 59, 2) := by decide +kernel
theorem dX7_readThing_99 : decode cX7_readThing 99 = .ok (.invokevirtual 132, 3) := by decide +kernel
theorem dX7_readThing_102 : decode cX7_readThing 102 = .ok (.ifCond .eq 7, 3) := by decide +kernel
theorem dX7_readThing_105 : decode cX7_readThing 105 = .ok (.iconst 1, 1) := by decide +kernel
theorem dX7_readThing_106 : decode cX7_readThing 106 = .ok (.goto 4, 3) := by decide +kernel
theorem dX7_readThing_109 : decode cX7_readThing 109 = .ok (.iconst 0, 1) := by decide +kernel
theorem dX7_readThing_110 : decode cX7_readThing 110 = .ok (.istore_n 3, 1) := by decide +kernel
theorem dX7_readThing_111 : decode cX7_readThing 111 = .ok (.aload_n 0, 1) := by decide +kernel
theorem dX7_readThing_112 : decode cX7_readThing 112 = .ok (.getfield 28, 3) := by decide +kernel
theorem dX7_readThing_115 : decode cX7_readThing 115 = .ok (.bipush 35, 2) := by decide +kernel
theorem dX7_readThing_117 : decode cX7_readThing 117 = .ok (.iload_n 2, 1) := by decide +kernel
theorem dX7_readThing_118 : decode cX7_readThing 118 = .ok (.iadd, 1) := by decide +kernel
theorem dX7_readThing_119 : decode cX7_readThing 119 = .ok (.aload_n 0, 1) := by decide +kernel
theorem dX7_readThing_120 : decode cX7_readThing 120 = .ok (.getfield 28, 3) := by decide +kernel
theorem dX7_readThing_123 : decode cX7_readThing 123 = .ok (.bipush 11, 2) := by decide +kernel
theorem dX7_readThing_125 : decode cX7_readThing 125 = .ok (.iload_n 2, 1) := by decide +kernel
theorem dX7_readThing_126 : decode cX7_readThing 126 = .ok (.iadd, 1) := by decide +kernel
theorem dX7_readThing_127 : decode cX7_readThing 127 = .ok (.iaload, 1) := by decide +kernel
theorem dX7_readThing_128 : decode cX7_readThing 128 = .ok (.iastore, 1) := by decide +kernel
theorem dX7_readThing_129 : decode cX7_readThing 129 = .ok (.iload_n 3, 1) := by decide +kernel
theorem dX7_readThing_130 : decode cX7_readThing 130 = .ok (.ireturn, 1) := by decide +kernel
theorem dX7_readLand_0 : decode cX7_readLand 0 = .ok (.aload_n 0, 1) := by decide +kernel
theorem dX7_readLand_1 : decode cX7_readLand 1 = .ok (.iconst 0, 1) := by decide +kernel
theorem dX7_readLand_2 : decode cX7_readLand 2 = .ok (.putfield 97, 3) := by decide +kernel
theorem dX7_readLand_5 : decode cX7_readLand 5 = .ok (.iconst 0, 1) := by decide +kernel
theorem dX7_readLand_6 : decode cX7_readLand 6 = .ok (.istore_n 1, 1) := by decide +kernel
theorem dX7_readLand_7 : decode cX7_readLand 7 = .ok (.iload_n 1, 1) := by decide +kernel
theorem dX7_readLand_8 : decode cX7_readLand 8 = .ok (.bipush 41, 2) := by decide +kernel
theorem dX7_readLand_10 : decode cX7_readLand 10 = .ok (.if_icmp .ge 16, 3) := by decide +kernel
theorem dX7_readLand_13 : decode cX7_readLand 13 = .ok (.aload_n 0, 1) := by decide +kernel
theorem dX7_readLand_14 : decode cX7_readLand 14 = .ok (.getfield 28, 3) := by decide +kernel
theorem dX7_readLand_17 : decode cX7_readLand 17 = .ok (.iload_n 1, 1) := by decide +kernel
theorem dX7_readLand_18 : decode cX7_readLand 18 = .ok (.iconst 0, 1) := by decide +kernel
theorem dX7_readLand_19 : decode cX7_readLand 19 = .ok (.iastore, 1) := by decide +kernel
theorem dX7_readLand_20 : decode cX7_readLand 20 = .ok (.iinc 1 1, 3) := by decide +kernel
theorem dX7_readLand_23 : decode cX7_readLand 23 = .ok (.goto (-16), 3) := by decide +kernel
theorem dX7_readLand_26 : decode cX7_readLand 26 = .ok (.aload_n 0, 1) := by decide +kernel
theorem dX7_readLand_27 : decode cX7_readLand 27 = .ok (.invokevirtual 126, 3) := by decide +kernel
theorem dX7_readLand_30 : decode cX7_readLand 30 = .ok (.aload_n 0, 1) := by decide +kernel
theorem dX7_readLand_31 : decode cX7_readLand 31 = .ok (.bipush 101, 2) := by decide +kernel
theorem dX7_readLand_33 : decode cX7_readLand 33 = .ok (.invokevirtual 129, 3) := by decide +kernel
theorem dX7_readLand_36 : decode cX7_readLand 36 = .ok (.ifCond .eq 29, 3) := by decide +kernel
theorem dX7_readLand_39 : decode cX7_readLand 39 = .ok (.aload_n 0, 1) := by decide +kernel
theorem dX7_readLand_40 : decode cX7_readLand 40 = .ok (.iconst 0, 1) := by decide +kernel
theorem dX7_readLand_41 : decode cX7_readLand 41 = .ok (.bipush 9, 2) := by decide +kernel
theorem dX7_readLand_43 : decode cX7_readLand 43 = .ok (.iconst 0, 1) := by decide +kernel
theorem dX7_readLand_44 : decode cX7_readLand 44 = .ok (.bipush 44, 2) := by decide +kernel
theorem dX7_readLand_46 : decode cX7_readLand 46 = .ok (.invokevirtual 132, 3) := by decide +kernel
theorem dX7_readLand_49 : decode cX7_readLand 49 = .ok (.ifCond .eq 16, 3) := by decide +kernel
theorem dX7_readLand_52 : decode cX7_readLand 52 = .ok (.aload_n 0, 1) := by decide +kernel
theorem dX7_readLand_53 : decode cX7_readLand 53 = .ok (.iconst 0, 1) := by decide +kernel
theorem dX7_readLand_54 : decode cX7_readLand 54 = .ok (.bipush 20, 2) := by decide +kernel
theorem dX7_readLand_56 : decode cX7_readLand 56 = .ok (.iconst 1, 1) := by decide +kernel
theorem dX7_readLand_57 : decode cX7_readLand 57 = .ok (.bipush 59, 2) := by decide +kernel
theorem dX7_readLand_59 : decode cX7_readLand 59 = .ok (.invokevirtual 132, 3) := by decide +kernel
theorem dX7_readLand_62 : decode cX7_readLand 62 = .ok (.ifCond .ne 5, 3) := by decide +kernel
theorem dX7_readLand_65 : decode cX7_readLand 65 = .ok (.iconst 0, 1) := by decide +kernel
theorem dX7_readLand_66 : decode cX7_readLand 66 = .ok (.ireturn, 1) := by decide +kernel
theorem dX7_readLand_67 : decode cX7_readLand 67 = .ok (.iconst 1, 1) := by decide +kernel
theorem dX7_readLand_68 : decode cX7_readLand 68 = .ok (.istore_n 1, 1) := by decide +kernel
theorem dX7_readLand_69 : decode cX7_readLand 69 = .ok (.iload_n 1, 1) := by decide +kernel
theorem dX7_readLand_70 : decode cX7_readLand 70 = .ok (.ifCond .eq 108, 3) := by decide +kernel
theorem dX7_readLand_73 : decode cX7_readLand 73 = .ok (.aload_n 0, 1) := by decide +kernel
theorem dX7_readLand_74 : decode cX7_readLand 74 = .ok (.getfield 103, 3) := by decide +kernel
theorem dX7_readLand_77 : decode cX7_readLand 77 = .ok (.iconst 3, 1) := by decide +kernel
theorem dX7_readLand_78 : decode cX7_readLand 78 = .ok (.if_icmp .ne 12, 3) := by decide +kernel
theorem dX7_readLand_81 : decode cX7_readLand 81 = .ok (.aload_n 0, 1) := by decide +kernel
theorem dX7_readLand_82 : decode cX7_readLand 82 = .ok (.getfield 28, 3) := by decide +kernel
theorem dX7_readLand_85 : decode cX7_readLand 85 = .ok (.iconst 2, 1) := by decide +kernel
theorem dX7_readLand_86 : decode cX7_readLand 86 = .ok (.iaload, 1) := by decide +kernel
theorem dX7_readLand_87 : decode cX7_readLand 87 = .ok (.ifCond .ne 91, 3) := by decide +kernel
theorem dX7_readLand_90 : decode cX7_readLand 90 = .ok (.aload_n 0, 1) := by decide +kernel
theorem dX7_readLand_91 : decode cX7_readLand 91 = .ok (.bipush 103, 2) := by decide +kernel
theorem dX7_readLand_93 : decode cX7_readLand 93 = .ok (.invokevirtual 120, 3) := by decide +kernel
theorem dX7_readLand_96 : decode cX7_readLand 96 = .ok (.ifCond .eq 7, 3) := by decide +kernel
theorem dX7_readLand_99 : decode cX7_readLand 99 = .ok (.iconst 1, 1) := by decide +kernel
theorem dX7_readLand_100 : decode cX7_readLand 100 = .ok (.goto 56, 3) := by decide +kernel
theorem dX7_readLand_103 : decode cX7_readLand 103 = .ok (.aload_n 0, 1) := by decide +kernel
theorem dX7_readLand_104 : decode cX7_readLand 104 = .ok (.bipush 102, 2) := by decide +kernel
theorem dX7_readLand_106 : decode cX7_readLand 106 = .ok (.invokevirtual 120, 3) := by decide +kernel
theorem dX7_readLand_109 : decode cX7_readLand 109 = .ok (.ifCond .eq 7, 3) := by decide +kernel
theorem dX7_readLand_112 : decode cX7_readLand 112 = .ok (.iconst 2, 1) := by decide +kernel
theorem dX7_readLand_113 : decode cX7_readLand 113 = .ok (.goto 43, 3) := by decide +kernel
theorem dX7_readLand_116 : decode cX7_readLand 116 = .ok (.aload_n 0, 1) := by decide +kernel
theorem dX7_readLand_117 : decode cX7_readLand 117 = .ok (.bipush 115, 2) := by decide +kernel
theorem dX7_readLand_119 : decode cX7_readLand 119 = .ok (.invokevirtual 120, 3) := by decide +kernel
theorem dX7_readLand_122 : decode cX7_readLand 122 = .ok (.ifCond .eq 7, 3) := by decide +kernel
theorem dX7_readLand_125 : decode cX7_readLand 125 = .ok (.iconst 3, 1) := by decide +kernel
theorem dX7_readLand_126 : decode cX7_readLand 126 = .ok (.goto 30, 3) := by decide +kernel
theorem dX7_readLand_129 : decode cX7_readLand 129 = .ok (.aload_n 0, 1) := by decide +kernel
theorem dX7_readLand_130 : decode cX7_readLand 130 = .ok (.bipush 112, 2) := by decide +kernel
theorem dX7_readLand_132 : decode cX7_readLand 132 = .ok (.invokevirtual 120, 3) := by decide +kernel
theorem dX7_readLand_135 : decode cX7_readLand 135 = .ok (.ifCond .eq 7, 3) := by decide +kernel
theorem dX7_readLand_138 : decode cX7_readLand 138 = .ok (.iconst 4, 1) := by decide +kernel
theorem dX7_readLand_139 : decode cX7_readLand 139 = .ok (.goto 17, 3) := by decide +kernel
theorem dX7_readLand_142 : decode cX7_readLand 142 = .ok (.aload_n 0, 1) := by decide +kernel
theorem dX7_readLand_143 : decode cX7_readLand 143 = .ok (.bipush 119, 2) := by decide +kernel
theorem dX7_readLand_145 : decode cX7_readLand 145 = .ok (.invokevirtual 120, 3) := by decide +kernel
theorem dX7_readLand_148 : decode cX7_readLand 148 = .ok (.ifCond .eq 7, 3) := by decide +kernel
theorem dX7_readLand_151 : decode cX7_readLand 151 = .ok (.iconst 5, 1) := by decide +kernel
theorem dX7_readLand_152 : decode cX7_readLand 152 = .ok (.goto 4, 3) := by decide +kernel
theorem dX7_readLand_155 : decode cX7_readLand 155 = .ok (.iconst 0, 1) := by decide +kernel
theorem dX7_readLand_156 : decode cX7_readLand 156 = .ok (.istore_n 2, 1) := by decide +kernel
theorem dX7_readLand_157 : decode cX7_readLand 157 = .ok (.iload_n 2, 1) := by decide +kernel
theorem dX7_readLand_158 : decode cX7_readLand 158 = .ok (.ifCond .le 11, 3) := by decide +kernel
theorem dX7_readLand_161 : decode cX7_readLand 161 = .ok (.aload_n 0, 1) := by decide +kernel
theorem dX7_readLand_162 : decode cX7_readLand 162 = .ok (.iload_n 2, 1) := by decide +kernel
theorem dX7_readLand_163 : decode cX7_readLand 163 = .ok (.invokevirtual 136, 3) := by decide +kernel
theorem dX7_readLand_166 : decode cX7_readLand 166 = .ok (.goto 8, 3) := by decide +kernel
theorem dX7_readLand_169 : decode cX7_readLand 169 = .ok (.aload_n 0, 1) := by decide +kernel
theorem dX7_readLand_170 : decode cX7_readLand 170 = .ok (.iconst 1, 1) := by decide +kernel
theorem dX7_readLand_171 : decode cX7_readLand 171 = .ok (.invokevirtual 123, 3) := by decide +kernel
theorem dX7_readLand_174 : decode cX7_readLand 174 = .ok (.istore_n 1, 1) := by decide +kernel
theorem dX7_readLand_175 : decode cX7_readLand 175 = .ok (.goto (-106), 3) := by decide +kernel
theorem dX7_readLand_178 : decode cX7_readLand 178 = .ok (.iload_n 1, 1) := by decide +kernel
theorem dX7_readLand_179 : decode cX7_readLand 179 = .ok (.ireturn, 1) := by decide +kernel
theorem dX7_land_0 : decode cX7_land 0 = .ok (.aload_n 0, 1) := by decide +kernel
theorem dX7_land_1 : decode cX7_land 1 = .ok (.invokevirtual 139, 3) := by decide +kernel
theorem dX7_land_4 : decode cX7_land 4 = .ok (.istore_n 1, 1) := by decide +kernel
theorem dX7_land_5 : decode cX7_land 5 = .ok (.aload_n 0, 1) := by decide +kernel
theorem dX7_land_6 : decode cX7_land 6 = .ok (.iconst 0, 1) := by decide +kernel
theorem dX7_land_7 : decode cX7_land 7 = .ok (.putfield 93, 3) := by decide +kernel
theorem dX7_land_10 : decode cX7_land 10 = .ok (.iload_n 1, 1) := by decide +kernel
theorem dX7_land_11 : decode cX7_land 11 = .ok (.ifCond .ne 19, 3) := by decide +kernel
theorem dX7_land_14 : decode cX7_land 14 = .ok (.aload_n 0, 1) := by decide +kernel
theorem dX7_land_15 : decode cX7_land 15 = .ok (.aload_n 0, 1) := by decide +kernel
theorem dX7_land_16 : decode cX7_land 16 = .ok (.getfield 117, 3) := by decide +kernel
theorem dX7_land_19 : decode cX7_land 19 = .ok (.putfield 143, 3) := by decide +kernel
theorem dX7_land_22 : decode cX7_land 22 = .ok (.ldc 146, 2) := by decide +kernel
theorem dX7_land_24 : decode cX7_land 24 = .ok (.aload_n 0, 1) := by decide +kernel
theorem dX7_land_25 : decode cX7_land 25 = .ok (.getfield 100, 3) := by decide +kernel
theorem dX7_land_28 : decode cX7_land 28 = .ok (.isub, 1) := by decide +kernel
theorem dX7_land_29 : decode cX7_land 29 = .ok (.ireturn, 1) := by decide +kernel
theorem dX7_land_30 : decode cX7_land 30 = .ok (.iconst 0, 1) := by decide +kernel
theorem dX7_land_31 : decode cX7_land 31 = .ok (.istore_n 2, 1) := by decide +kernel
theorem dX7_land_32 : decode cX7_land 32 = .ok (.iload_n 2, 1) := by decide +kernel
theorem dX7_land_33 : decode cX7_land 33 = .ok (.bipush 41, 2) := by decide +kernel
theorem dX7_land_35 : decode cX7_land 35 = .ok (.if_icmp .ge 21, 3) := by decide +kernel
theorem dX7_land_38 : decode cX7_land 38 = .ok (.aload_n 0, 1) := by decide +kernel
theorem dX7_land_39 : decode cX7_land 39 = .ok (.getfield 19, 3) := by decide +kernel
theorem dX7_land_42 : decode cX7_land 42 = .ok (.iload_n 2, 1) := by decide +kernel
theorem dX7_land_43 : decode cX7_land 43 = .ok (.aload_n 0, 1) := by decide +kernel
theorem dX7_land_44 : decode cX7_land 44 = .ok (.getfield 28, 3) := by decide +kernel
theorem dX7_land_47 : decode cX7_land 47 = .ok (.iload_n 2, 1) := by decide +kernel
theorem dX7_land_48 : decode cX7_land 48 = .ok (.iaload, 1) := by decide +kernel
theorem dX7_land_49 : decode cX7_land 49 = .ok (.iastore, 1) := by decide +kernel
theorem dX7_land_50 : decode cX7_land 50 = .ok (.iinc 2 1, 3) := by decide +kernel
theorem dX7_land_53 : decode cX7_land 53 = .ok (.goto (-21), 3) := by decide +kernel
theorem dX7_land_56 : decode cX7_land 56 = .ok (.aload_n 0, 1) := by decide +kernel
theorem dX7_land_57 : decode cX7_land 57 = .ok (.iconst 1, 1) := by decide +kernel
theorem dX7_land_58 : decode cX7_land 58 = .ok (.putfield 147, 3) := by decide +kernel
theorem dX7_land_61 : decode cX7_land 61 = .ok (.aload_n 0, 1) := by decide +kernel
theorem dX7_land_62 : decode cX7_land 62 = .ok (.iconst 0, 1) := by decide +kernel
theorem dX7_land_63 : decode cX7_land 63 = .ok (.putfield 151, 3) := by decide +kernel
theorem dX7_land_66 : decode cX7_land 66 = .ok (.aload_n 0, 1) := by decide +kernel
theorem dX7_land_67 : decode cX7_land 67 = .ok (.getfield 19, 3) := by decide +kernel
theorem dX7_land_70 : decode cX7_land 70 = .ok (.iconst 2, 1) := by decide +kernel
theorem dX7_land_71 : decode cX7_land 71 = .ok (.iaload, 1) := by decide +kernel
theorem dX7_land_72 : decode cX7_land 72 = .ok (.ireturn, 1) := by decide +kernel
theorem dX7_fault_0 : decode cX7_fault 0 = .ok (.aload_n 0, 1) := by decide +kernel
theorem dX7_fault_1 : decode cX7_fault 1 = .ok (.getfield 143, 3) := by decide +kernel
theorem dX7_fault_4 : decode cX7_fault 4 = .ok (.ireturn, 1) := by decide +kernel
theorem dX7_isThing_0 : decode cX7_isThing 0 = .ok (.iload_n 1, 1) := by decide +kernel
theorem dX7_isThing_1 : decode cX7_isThing 1 = .ok (.i2l, 1) := by decide +kernel
theorem dX7_isThing_2 : decode cX7_isThing 2 = .ok (.lconst 0, 1) := by decide +kernel
theorem dX7_isThing_3 : decode cX7_isThing 3 = .ok (.aload_n 0, 1) := by decide +kernel
theorem dX7_isThing_4 : decode cX7_isThing 4 = .ok (.getfield 19, 3) := by decide +kernel
theorem dX7_isThing_7 : decode cX7_isThing 7 = .ok (.iconst 2, 1) := by decide +kernel
theorem dX7_isThing_8 : decode cX7_isThing 8 = .ok (.iaload, 1) := by decide +kernel
theorem dX7_isThing_9 : decode cX7_isThing 9 = .ok (.iconst 1, 1) := by decide +kernel
theorem dX7_isThing_10 : decode cX7_isThing 10 = .ok (.isub, 1) := by decide +kernel
theorem dX7_isThing_11 : decode cX7_isThing 11 = .ok (.i2l, 1) := by decide +kernel
theorem dX7_isThing_12 : decode cX7_isThing 12 = .ok (.invokestatic 69, 3) := by decide +kernel
theorem dX7_isThing_15 : decode cX7_isThing 15 = .ok (.ireturn, 1) := by decide +kernel
theorem dX7_isPeople_0 : decode cX7_isPeople 0 = .ok (.aload_n 0, 1) := by decide +kernel
theorem dX7_isPeople_1 : decode cX7_isPeople 1 = .ok (.getfield 19, 3) := by decide +kernel
theorem dX7_isPeople_4 : decode cX7_isPeople 4 = .ok (.iconst 5, 1) := by decide +kernel
theorem dX7_isPeople_5 : decode cX7_isPeople 5 = .ok (.iload_n 1, 1) := by decide +kernel
theorem dX7_isPeople_6 : decode cX7_isPeople 6 = .ok (.iadd, 1) := by decide +kernel
theorem dX7_isPeople_7 : decode cX7_isPeople 7 = .ok (.iaload, 1) := by decide +kernel
theorem dX7_isPeople_8 : decode cX7_isPeople 8 = .ok (.iconst 4, 1) := by decide +kernel
theorem dX7_isPeople_9 : decode cX7_isPeople 9 = .ok (.if_icmp .lt 7, 3) := by decide +kernel
theorem dX7_isPeople_12 : decode cX7_isPeople 12 = .ok (.iconst 1, 1) := by decide +kernel
theorem dX7_isPeople_13 : decode cX7_isPeople 13 = .ok (.goto 4, 3) := by decide +kernel
theorem dX7_isPeople_16 : decode cX7_isPeople 16 = .ok (.iconst 0, 1) := by decide +kernel
theorem dX7_isPeople_17 : decode cX7_isPeople 17 = .ok (.ireturn, 1) := by decide +kernel
theorem dX7_bounded_0 : decode cX7_bounded 0 = .ok (.iload_n 0, 1) := by decide +kernel
theorem dX7_bounded_1 : decode cX7_bounded 1 = .ok (.ifCond .ge 7, 3) := by decide +kernel
theorem dX7_bounded_4 : decode cX7_bounded 4 = .ok (.iconst 0, 1) := by decide +kernel
theorem dX7_bounded_5 : decode cX7_bounded 5 = .ok (.goto 15, 3) := by decide +kernel
theorem dX7_bounded_8 : decode cX7_bounded 8 = .ok (.iload_n 0, 1) := by decide +kernel
theorem dX7_bounded_9 : decode cX7_bounded 9 = .ok (.bipush 99, 2) := by decide +kernel
theorem dX7_bounded_11 : decode cX7_bounded 11 = .ok (.if_icmp .le 8, 3) := by decide +kernel
theorem dX7_bounded_14 : decode cX7_bounded 14 = .ok (.bipush 99, 2) := by decide +kernel
theorem dX7_bounded_16 : decode cX7_bounded 16 = .ok (.goto 4, 3) := by decide +kernel
theorem dX7_bounded_19 : decode cX7_bounded 19 = .ok (.iload_n 0, 1) := by decide +kernel
theorem dX7_bounded_20 : decode cX7_bounded 20 = .ok (.ireturn, 1) := by decide +kernel
theorem dX7_changed_0 : decode cX7_changed 0 = .ok (.aload_n 0, 1) := by decide +kernel
theorem dX7_changed_1 : decode cX7_changed 1 = .ok (.getfield 19, 3) := by decide +kernel
theorem dX7_changed_4 : decode cX7_changed 4 = .ok (.bipush 17, 2) := by decide +kernel
theorem dX7_changed_6 : decode cX7_changed 6 = .ok (.iload_n 1, 1) := by decide +kernel
theorem dX7_changed_7 : decode cX7_changed 7 = .ok (.iadd, 1) := by decide +kernel
theorem dX7_changed_8 : decode cX7_changed 8 = .ok (.iaload, 1) := by decide +kernel
theorem dX7_changed_9 : decode cX7_changed 9 = .ok (.istore 4, 2) := by decide +kernel
theorem dX7_changed_11 : decode cX7_changed 11 = .ok (.aload_n 0, 1) := by decide +kernel
theorem dX7_changed_12 : decode cX7_changed 12 = .ok (.getfield 19, 3) := by decide +kernel
theorem dX7_changed_15 : decode cX7_changed 15 = .ok (.iconst 5, 1) := by decide +kernel
theorem dX7_changed_16 : decode cX7_changed 16 = .ok (.iload_n 1, 1) := by decide +kernel
theorem dX7_changed_17 : decode cX7_changed 17 = .ok (.iadd, 1) := by decide +kernel
theorem dX7_changed_18 : decode cX7_changed 18 = .ok (.iaload, 1) := by decide +kernel
theorem dX7_changed_19 : decode cX7_changed 19 = .ok (.istore 5, 2) := by decide +kernel
theorem dX7_changed_21 : decode cX7_changed 21 = .ok (.iload 5, 2) := by decide +kernel
theorem dX7_changed_23 : decode cX7_changed 23 = .ok (.iconst 1, 1) := by decide +kernel
theorem dX7_changed_24 : decode cX7_changed 24 = .ok (.if_icmp .eq 15, 3) := by decide +kernel
theorem dX7_changed_27 : decode cX7_changed 27 = .ok (.iload 5, 2) := by decide +kernel
theorem dX7_changed_29 : decode cX7_changed 29 = .ok (.iconst 3, 1) := by decide +kernel
theorem dX7_changed_30 : decode cX7_changed 30 = .ok (.if_icmp .ne 17, 3) := by decide +kernel
theorem dX7_changed_33 : decode cX7_changed 33 = .ok (.iload_n 3, 1) := by decide +kernel
theorem dX7_changed_34 : decode cX7_changed 34 = .ok (.iconst 2, 1) := by decide +kernel
theorem dX7_changed_35 : decode cX7_changed 35 = .ok (.irem, 1) := by decide +kernel
theorem dX7_changed_36 : decode cX7_changed 36 = .ok (.ifCond .ne 11, 3) := by decide +kernel
theorem dX7_changed_39 : decode cX7_changed 39 = .ok (.iload_n 2, 1) := by decide +kernel
theorem dX7_changed_40 : decode cX7_changed 40 = .ok (.iload 4, 2) := by decide +kernel
theorem dX7_changed_42 : decode cX7_changed 42 = .ok (.iadd, 1) := by decide +kernel
theorem dX7_changed_43 : decode cX7_changed 43 = .ok (.invokestatic 154, 3) := by decide +kernel
theorem dX7_changed_46 : decode cX7_changed 46 = .ok (.ireturn, 1) := by decide +kernel
theorem dX7_changed_47 : decode cX7_changed 47 = .ok (.iload 5, 2) := by decide +kernel
theorem dX7_changed_49 : decode cX7_changed 49 = .ok (.iconst 2, 1) := by decide +kernel
theorem dX7_changed_50 : decode cX7_changed 50 = .ok (.if_icmp .eq 9, 3) := by decide +kernel
theorem dX7_changed_53 : decode cX7_changed 53 = .ok (.iload 5, 2) := by decide +kernel
theorem dX7_changed_55 : decode cX7_changed 55 = .ok (.iconst 3, 1) := by decide +kernel
theorem dX7_changed_56 : decode cX7_changed 56 = .ok (.if_icmp .ne 11, 3) := by decide +kernel
theorem dX7_changed_59 : decode cX7_changed 59 = .ok (.iload_n 2, 1) := by decide +kernel
theorem dX7_changed_60 : decode cX7_changed 60 = .ok (.iload 4, 2) := by decide +kernel
theorem dX7_changed_62 : decode cX7_changed 62 = .ok (.isub, 1) := by decide +kernel
theorem dX7_changed_63 : decode cX7_changed 63 = .ok (.invokestatic 154, 3) := by decide +kernel
theorem dX7_changed_66 : decode cX7_changed 66 = .ok (.ireturn, 1) := by decide +kernel
theorem dX7_changed_67 : decode cX7_changed 67 = .ok (.iload 5, 2) := by decide +kernel
theorem dX7_changed_69 : decode cX7_changed 69 = .ok (.iconst 5, 1) := by decide +kernel
theorem dX7_changed_70 : decode cX7_changed 70 = .ok (.if_icmp .ne 20, 3) := by decide +kernel
theorem dX7_changed_73 : decode cX7_changed 73 = .ok (.iload_n 3, 1) := by decide +kernel
theorem dX7_changed_74 : decode cX7_changed 74 = .ok (.iconst 1, 1) := by decide +kernel
theorem dX7_changed_75 : decode cX7_changed 75 = .ok (.iadd, 1) := by decide +kernel
theorem dX7_changed_76 : decode cX7_changed 76 = .ok (.bipush 7, 2) := by decide +kernel
theorem dX7_changed_78 : decode cX7_changed 78 = .ok (.irem, 1) := by decide +kernel
theorem dX7_changed_79 : decode cX7_changed 79 = .ok (.ifCond .ne 11, 3) := by decide +kernel
theorem dX7_changed_82 : decode cX7_changed 82 = .ok (.iload_n 2, 1) := by decide +kernel
theorem dX7_changed_83 : decode cX7_changed 83 = .ok (.iload 4, 2) := by decide +kernel
theorem dX7_changed_85 : decode cX7_changed 85 = .ok (.isub, 1) := by decide +kernel
theorem dX7_changed_86 : decode cX7_changed 86 = .ok (.invokestatic 154, 3) := by decide +kernel
theorem dX7_changed_89 : decode cX7_changed 89 = .ok (.ireturn, 1) := by decide +kernel
theorem dX7_changed_90 : decode cX7_changed 90 = .ok (.iload_n 3, 1) := by decide +kernel
theorem dX7_changed_91 : decode cX7_changed 91 = .ok (.iconst 1, 1) := by decide +kernel
theorem dX7_changed_92 : decode cX7_changed 92 = .ok (.iadd, 1) := by decide +kernel
theorem dX7_changed_93 : decode cX7_changed 93 = .ok (.iload 4, 2) := by decide +kernel
theorem dX7_changed_95 : decode cX7_changed 95 = .ok (.irem, 1) := by decide +kernel
theorem dX7_changed_96 : decode cX7_changed 96 = .ok (.ifCond .ne 12, 3) := by decide +kernel
theorem dX7_changed_99 : decode cX7_changed 99 = .ok (.iload_n 2, 1) := by decide +kernel
theorem dX7_changed_100 : decode cX7_changed 100 = .ok (.iconst 1, 1) := by decide +kernel
theorem dX7_changed_101 : decode cX7_changed 101 = .ok (.iadd, 1) := by decide +kernel
theorem dX7_changed_102 : decode cX7_changed 102 = .ok (.invokestatic 154, 3) := by decide +kernel
theorem dX7_changed_105 : decode cX7_changed 105 = .ok (.goto 4, 3) := by decide +kernel
theorem dX7_changed_108 : decode cX7_changed 108 = .ok (.iload_n 2, 1) := by decide +kernel
theorem dX7_changed_109 : decode cX7_changed 109 = .ok (.ireturn, 1) := by decide +kernel
theorem dX7_oneDay_0 : decode cX7_oneDay 0 = .ok (.iconst 0, 1) := by decide +kernel
theorem dX7_oneDay_1 : decode cX7_oneDay 1 = .ok (.istore_n 1, 1) := by decide +kernel
theorem dX7_oneDay_2 : decode cX7_oneDay 2 = .ok (.iload_n 1, 1) := by decide +kernel
theorem dX7_oneDay_3 : decode cX7_oneDay 3 = .ok (.aload_n 0, 1) := by decide +kernel
theorem dX7_oneDay_4 : decode cX7_oneDay 4 = .ok (.getfield 19, 3) := by decide +kernel
theorem dX7_oneDay_7 : decode cX7_oneDay 7 = .ok (.iconst 2, 1) := by decide +kernel
theorem dX7_oneDay_8 : decode cX7_oneDay 8 = .ok (.iaload, 1) := by decide +kernel
theorem dX7_oneDay_9 : decode cX7_oneDay 9 = .ok (.if_icmp .ge 38, 3) := by decide +kernel
theorem dX7_oneDay_12 : decode cX7_oneDay 12 = .ok (.aload_n 0, 1) := by decide +kernel
theorem dX7_oneDay_13 : decode cX7_oneDay 13 = .ok (.getfield 19, 3) := by decide +kernel
theorem dX7_oneDay_16 : decode cX7_oneDay 16 = .ok (.bipush 35, 2) := by decide +kernel
theorem dX7_oneDay_18 : decode cX7_oneDay 18 = .ok (.iload_n 1, 1) := by decide +kernel
theorem dX7_oneDay_19 : decode cX7_oneDay 19 = .ok (.iadd, 1) := by decide +kernel
theorem dX7_oneDay_20 : decode cX7_oneDay 20 = .ok (.aload_n 0, 1) := by decide +kernel
theorem dX7_oneDay_21 : decode cX7_oneDay 21 = .ok (.iload_n 1, 1) := by decide +kernel
theorem dX7_oneDay_22 : decode cX7_oneDay 22 = .ok (.aload_n 0, 1) := by decide +kernel
theorem dX7_oneDay_23 : decode cX7_oneDay 23 = .ok (.getfield 19, 3) := by decide +kernel
theorem dX7_oneDay_26 : decode cX7_oneDay 26 = .ok (.bipush 35, 2) := by decide +kernel
theorem dX7_oneDay_28 : decode cX7_oneDay 28 = .ok (.iload_n 1, 1) := by decide +kernel
theorem dX7_oneDay_29 : decode cX7_oneDay 29 = .ok (.iadd, 1) := by decide +kernel
theorem dX7_oneDay_30 : decode cX7_oneDay 30 = .ok (.iaload, 1) := by decide +kernel
theorem dX7_oneDay_31 : decode cX7_oneDay 31 = .ok (.aload_n 0, 1) := by decide +kernel
theorem dX7_oneDay_32 : decode cX7_oneDay 32 = .ok (.getfield 19, 3) := by decide +kernel
theorem dX7_oneDay_35 : decode cX7_oneDay 35 = .ok (.iconst 3, 1) := by decide +kernel
theorem dX7_oneDay_36 : decode cX7_oneDay 36 = .ok (.iaload, 1) := by decide +kernel
theorem dX7_oneDay_37 : decode cX7_oneDay 37 = .ok (.invokevirtual 157, 3) := by decide +kernel
theorem dX7_oneDay_40 : decode cX7_oneDay 40 = .ok (.iastore, 1) := by decide +kernel
theorem dX7_oneDay_41 : decode cX7_oneDay 41 = .ok (.iinc 1 1, 3) := by decide +kernel
theorem dX7_oneDay_44 : decode cX7_oneDay 44 = .ok (.goto (-42), 3) := by decide +kernel
theorem dX7_oneDay_47 : decode cX7_oneDay 47 = .ok (.aload_n 0, 1) := by decide +kernel
theorem dX7_oneDay_48 : decode cX7_oneDay 48 = .ok (.getfield 19, 3) := by decide +kernel
theorem dX7_oneDay_51 : decode cX7_oneDay 51 = .ok (.iconst 3, 1) := by decide +kernel
theorem dX7_oneDay_52 : decode cX7_oneDay 52 = .ok (.dup2, 1) := by decide +kernel
theorem dX7_oneDay_53 : decode cX7_oneDay 53 = .ok (.iaload, 1) := by decide +kernel
theorem dX7_oneDay_54 : decode cX7_oneDay 54 = .ok (.iconst 1, 1) := by decide +kernel
theorem dX7_oneDay_55 : decode cX7_oneDay 55 = .ok (.iadd, 1) := by decide +kernel
theorem dX7_oneDay_56 : decode cX7_oneDay 56 = .ok (.iastore, 1) := by decide +kernel
theorem dX7_oneDay_57 : decode cX7_oneDay 57 = .ok (.return_, 1) := by decide +kernel
theorem dX7_differ_0 : decode cX7_differ 0 = .ok (.iload_n 2, 1) := by decide +kernel
theorem dX7_differ_1 : decode cX7_differ 1 = .ok (.aload_n 0, 1) := by decide +kernel
theorem dX7_differ_2 : decode cX7_differ 2 = .ok (.getfield 19, 3) := by decide +kernel
theorem dX7_differ_5 : decode cX7_differ 5 = .ok (.bipush 11, 2) := by decide +kernel
theorem dX7_differ_7 : decode cX7_differ 7 = .ok (.iload_n 1, 1) := by decide +kernel
theorem dX7_differ_8 : decode cX7_differ 8 = .ok (.iadd, 1) := by decide +kernel
theorem dX7_differ_9 : decode cX7_differ 9 = .ok (.iaload, 1) := by decide +kernel
theorem dX7_differ_10 : decode cX7_differ 10 = .ok (.isub, 1) := by decide +kernel
theorem dX7_differ_11 : decode cX7_differ 11 = .ok (.istore_n 3, 1) := by decide +kernel
theorem dX7_differ_12 : decode cX7_differ 12 = .ok (.iload_n 3, 1) := by decide +kernel
theorem dX7_differ_13 : decode cX7_differ 13 = .ok (.ifCond .ge 8, 3) := by decide +kernel
theorem dX7_differ_16 : decode cX7_differ 16 = .ok (.iload_n 3, 1) := by decide +kernel
theorem dX7_differ_17 : decode cX7_differ 17 = .ok (.ineg, 1) := by decide +kernel
theorem dX7_differ_18 : decode cX7_differ 18 = .ok (.goto 4, 3) := by decide +kernel
theorem dX7_differ_21 : decode cX7_differ 21 = .ok (.iload_n 3, 1) := by decide +kernel
theorem dX7_differ_22 : decode cX7_differ 22 = .ok (.ireturn, 1) := by decide +kernel
theorem dX7_off_0 : decode cX7_off 0 = .ok (.aload_n 0, 1) := by decide +kernel
theorem dX7_off_1 : decode cX7_off 1 = .ok (.iload_n 1, 1) := by decide +kernel
theorem dX7_off_2 : decode cX7_off 2 = .ok (.aload_n 0, 1) := by decide +kernel
theorem dX7_off_3 : decode cX7_off 3 = .ok (.getfield 19, 3) := by decide +kernel
theorem dX7_off_6 : decode cX7_off 6 = .ok (.bipush 35, 2) := by decide +kernel
theorem dX7_off_8 : decode cX7_off 8 = .ok (.iload_n 1, 1) := by decide +kernel
theorem dX7_off_9 : decode cX7_off 9 = .ok (.iadd, 1) := by decide +kernel
theorem dX7_off_10 : decode cX7_off 10 = .ok (.iaload, 1) := by decide +kernel
theorem dX7_off_11 : decode cX7_off 11 = .ok (.invokevirtual 161, 3) := by decide +kernel
theorem dX7_off_14 : decode cX7_off 14 = .ok (.ireturn, 1) := by decide +kernel
theorem dX7_isAlike_0 : decode cX7_isAlike 0 = .ok (.aload_n 0, 1) := by decide +kernel
theorem dX7_isAlike_1 : decode cX7_isAlike 1 = .ok (.iload_n 1, 1) := by decide +kernel
theorem dX7_isAlike_2 : decode cX7_isAlike 2 = .ok (.invokevirtual 164, 3) := by decide +kernel
theorem dX7_isAlike_5 : decode cX7_isAlike 5 = .ok (.aload_n 0, 1) := by decide +kernel
theorem dX7_isAlike_6 : decode cX7_isAlike 6 = .ok (.getfield 19, 3) := by decide +kernel
theorem dX7_isAlike_9 : decode cX7_isAlike 9 = .ok (.iconst 0, 1) := by decide +kernel
theorem dX7_isAlike_10 : decode cX7_isAlike 10 = .ok (.iaload, 1) := by decide +kernel
theorem dX7_isAlike_11 : decode cX7_isAlike 11 = .ok (.if_icmp .gt 7, 3) := by decide +kernel
theorem dX7_isAlike_14 : decode cX7_isAlike 14 = .ok (.iconst 1, 1) := by decide +kernel
theorem dX7_isAlike_15 : decode cX7_isAlike 15 = .ok (.goto 4, 3) := by decide +kernel
theorem dX7_isAlike_18 : decode cX7_isAlike 18 = .ok (.iconst 0, 1) := by decide +kernel
theorem dX7_isAlike_19 : decode cX7_isAlike 19 = .ok (.ireturn, 1) := by decide +kernel
theorem dX7_allOff_0 : decode cX7_allOff 0 = .ok (.iconst 0, 1) := by decide +kernel
theorem dX7_allOff_1 : decode cX7_allOff 1 = .ok (.istore_n 1, 1) := by decide +kernel
theorem dX7_allOff_2 : decode cX7_allOff 2 = .ok (.iconst 0, 1) := by decide +kernel
theorem dX7_allOff_3 : decode cX7_allOff 3 = .ok (.istore_n 2, 1) := by decide +kernel
theorem dX7_allOff_4 : decode cX7_allOff 4 = .ok (.iload_n 2, 1) := by decide +kernel
theorem dX7_allOff_5 : decode cX7_allOff 5 = .ok (.aload_n 0, 1) := by decide +kernel
theorem dX7_allOff_6 : decode cX7_allOff 6 = .ok (.getfield 19, 3) := by decide +kernel
theorem dX7_allOff_9 : decode cX7_allOff 9 = .ok (.iconst 2, 1) := by decide +kernel
theorem dX7_allOff_10 : decode cX7_allOff 10 = .ok (.iaload, 1) := by decide +kernel
theorem dX7_allOff_11 : decode cX7_allOff 11 = .ok (.if_icmp .ge 17, 3) := by decide +kernel
theorem dX7_allOff_14 : decode cX7_allOff 14 = .ok (.iload_n 1, 1) := by decide +kernel
theorem dX7_allOff_15 : decode cX7_allOff 15 = .ok (.aload_n 0, 1) := by decide +kernel
theorem dX7_allOff_16 : decode cX7_allOff 16 = .ok (.iload_n 2, 1) := by decide +kernel
theorem dX7_allOff_17 : decode cX7_allOff 17 = .ok (.invokevirtual 164, 3) := by decide +kernel
theorem dX7_allOff_20 : decode cX7_allOff 20 = .ok (.iadd, 1) := by decide +kernel
theorem dX7_allOff_21 : decode cX7_allOff 21 = .ok (.istore_n 1, 1) := by decide +kernel
theorem dX7_allOff_22 : decode cX7_allOff 22 = .ok (.iinc 2 1, 3) := by decide +kernel
theorem dX7_allOff_25 : decode cX7_allOff 25 = .ok (.goto (-21), 3) := by decide +kernel
theorem dX7_allOff_28 : decode cX7_allOff 28 = .ok (.iload_n 1, 1) := by decide +kernel
theorem dX7_allOff_29 : decode cX7_allOff 29 = .ok (.ireturn, 1) := by decide +kernel
theorem dX7_price_0 : decode cX7_price 0 = .ok (.aload_n 0, 1) := by decide +kernel
theorem dX7_price_1 : decode cX7_price 1 = .ok (.getfield 19, 3) := by decide +kernel
theorem dX7_price_4 : decode cX7_price 4 = .ok (.bipush 23, 2) := by decide +kernel
theorem dX7_price_6 : decode cX7_price 6 = .ok (.iload_n 1, 1) := by decide +kernel
theorem dX7_price_7 : decode cX7_price 7 = .ok (.iadd, 1) := by decide +kernel
theorem dX7_price_8 : decode cX7_price 8 = .ok (.iaload, 1) := by decide +kernel
theorem dX7_price_9 : decode cX7_price 9 = .ok (.aload_n 0, 1) := by decide +kernel
theorem dX7_price_10 : decode cX7_price 10 = .ok (.iload_n 1, 1) := by decide +kernel
theorem dX7_price_11 : decode cX7_price 11 = .ok (.iload_n 2, 1) := by decide +kernel
theorem dX7_price_12 : decode cX7_price 12 = .ok (.invokevirtual 161, 3) := by decide +kernel
theorem dX7_price_15 : decode cX7_price 15 = .ok (.imul, 1) := by decide +kernel
theorem dX7_price_16 : decode cX7_price 16 = .ok (.aload_n 0, 1) := by decide +kernel
theorem dX7_price_17 : decode cX7_price 17 = .ok (.getfield 19, 3) := by decide +kernel
theorem dX7_price_20 : decode cX7_price 20 = .ok (.iconst 1, 1) := by decide +kernel
theorem dX7_price_21 : decode cX7_price 21 = .ok (.iaload, 1) := by decide +kernel
theorem dX7_price_22 : decode cX7_price 22 = .ok (.iadd, 1) := by decide +kernel
theorem dX7_price_23 : decode cX7_price 23 = .ok (.ireturn, 1) := by decide +kernel
theorem dX7_note_0 : decode cX7_note 0 = .ok (.aload_n 0, 1) := by decide +kernel
theorem dX7_note_1 : decode cX7_note 1 = .ok (.getfield 151, 3) := by decide +kernel
theorem dX7_note_4 : decode cX7_note 4 = .ok (.bipush 24, 2) := by decide +kernel
theorem dX7_note_6 : decode cX7_note 6 = .ok (.if_icmp .ne 43, 3) := by decide +kernel
theorem dX7_note_9 : decode cX7_note 9 = .ok (.iconst 0, 1) := by decide +kernel
theorem dX7_note_10 : decode cX7_note 10 = .ok (.istore_n 1, 1) := by decide +kernel
theorem dX7_note_11 : decode cX7_note 11 = .ok (.iload_n 1, 1) := by decide +kernel
theorem dX7_note_12 : decode cX7_note 12 = .ok (.sipush 943, 3) := by decide +kernel
theorem dX7_note_15 : decode cX7_note 15 = .ok (.if_icmp .ge 24, 3) := by decide +kernel
theorem dX7_note_18 : decode cX7_note 18 = .ok (.aload_n 0, 1) := by decide +kernel
theorem dX7_note_19 : decode cX7_note 19 = .ok (.getfield 31, 3) := by decide +kernel
theorem dX7_note_22 : decode cX7_note 22 = .ok (.iload_n 1, 1) := by decide +kernel
theorem dX7_note_23 : decode cX7_note 23 = .ok (.aload_n 0, 1) := by decide +kernel
theorem dX7_note_24 : decode cX7_note 24 = .ok (.getfield 31, 3) := by decide +kernel
theorem dX7_note_27 : decode cX7_note 27 = .ok (.iload_n 1, 1) := by decide +kernel
theorem dX7_note_28 : decode cX7_note 28 = .ok (.bipush 41, 2) := by decide +kernel
theorem dX7_note_30 : decode cX7_note 30 = .ok (.iadd, 1) := by decide +kernel
theorem dX7_note_31 : decode cX7_note 31 = .ok (.iaload, 1) := by decide +kernel
theorem dX7_note_32 : decode cX7_note 32 = .ok (.iastore, 1) := by decide +kernel
theorem dX7_note_33 : decode cX7_note 33 = .ok (.iinc 1 1, 3) := by decide +kernel
theorem dX7_note_36 : decode cX7_note 36 = .ok (.goto (-25), 3) := by decide +kernel
theorem dX7_note_39 : decode cX7_note 39 = .ok (.aload_n 0, 1) := by decide +kernel
theorem dX7_note_40 : decode cX7_note 40 = .ok (.dup, 1) := by decide +kernel
theorem dX7_note_41 : decode cX7_note 41 = .ok (.getfield 151, 3) := by decide +kernel
theorem dX7_note_44 : decode cX7_note 44 = .ok (.iconst 1, 1) := by decide +kernel
theorem dX7_note_45 : decode cX7_note 45 = .ok (.isub, 1) := by decide +kernel
theorem dX7_note_46 : decode cX7_note 46 = .ok (.putfield 151, 3) := by decide +kernel
theorem dX7_note_49 : decode cX7_note 49 = .ok (.iconst 0, 1) := by decide +kernel
theorem dX7_note_50 : decode cX7_note 50 = .ok (.istore_n 1, 1) := by decide +kernel
theorem dX7_note_51 : decode cX7_note 51 = .ok (.iload_n 1, 1) := by decide +kernel
theorem dX7_note_52 : decode cX7_note 52 = .ok (.bipush 41, 2) := by decide +kernel
theorem dX7_note_54 : decode cX7_note 54 = .ok (.if_icmp .ge 29, 3) := by decide +kernel
theorem dX7_note_57 : decode cX7_note 57 = .ok (.aload_n 0, 1) := by decide +kernel
theorem dX7_note_58 : decode cX7_note 58 = .ok (.getfield 31, 3) := by decide +kernel
theorem dX7_note_61 : decode cX7_note 61 = .ok (.bipush 41, 2) := by decide +kernel
theorem dX7_note_63 : decode cX7_note 63 = .ok (.aload_n 0, 1) := by decide +kernel
theorem dX7_note_64 : decode cX7_note 64 = .ok (.getfield 151, 3) := by decide +kernel
theorem dX7_note_67 : decode cX7_note 67 = .ok (.imul, 1) := by decide +kernel
theorem dX7_note_68 : decode cX7_note 68 = .ok (.iload_n 1, 1) := by decide +kernel
theorem dX7_note_69 : decode cX7_note 69 = .ok (.iadd, 1) := by decide +kernel
theorem dX7_note_70 : decode cX7_note 70 = .ok (.aload_n 0, 1) := by decide +kernel
theorem dX7_note_71 : decode cX7_note 71 = .ok (.getfield 19, 3) := by decide +kernel
theorem dX7_note_74 : decode cX7_note 74 = .ok (.iload_n 1, 1) := by decide +kernel
theorem dX7_note_75 : decode cX7_note 75 = .ok (.iaload, 1) := by decide +kernel
theorem dX7_note_76 : decode cX7_note 76 = .ok (.iastore, 1) := by decide +kernel
theorem dX7_note_77 : decode cX7_note 77 = .ok (.iinc 1 1, 3) := by decide +kernel
theorem dX7_note_80 : decode cX7_note 80 = .ok (.goto (-29), 3) := by decide +kernel
theorem dX7_note_83 : decode cX7_note 83 = .ok (.aload_n 0, 1) := by decide +kernel
theorem dX7_note_84 : decode cX7_note 84 = .ok (.dup, 1) := by decide +kernel
theorem dX7_note_85 : decode cX7_note 85 = .ok (.getfield 151, 3) := by decide +kernel
theorem dX7_note_88 : decode cX7_note 88 = .ok (.iconst 1, 1) := by decide +kernel
theorem dX7_note_89 : decode cX7_note 89 = .ok (.iadd, 1) := by decide +kernel
theorem dX7_note_90 : decode cX7_note 90 = .ok (.putfield 151, 3) := by decide +kernel
theorem dX7_note_93 : decode cX7_note 93 = .ok (.return_, 1) := by decide +kernel
theorem dX7_undo_0 : decode cX7_undo 0 = .ok (.aload_n 0, 1) := by decide +kernel
theorem dX7_undo_1 : decode cX7_undo 1 = .ok (.getfield 151, 3) := by decide +kernel
theorem dX7_undo_4 : decode cX7_undo 4 = .ok (.ifCond .ne 6, 3) := by decide +kernel
theorem dX7_undo_7 : decode cX7_undo 7 = .ok (.ldc 167, 2) := by decide +kernel
theorem dX7_undo_9 : decode cX7_undo 9 = .ok (.ireturn, 1) := by decide +kernel
theorem dX7_undo_10 : decode cX7_undo 10 = .ok (.aload_n 0, 1) := by decide +kernel
theorem dX7_undo_11 : decode cX7_undo 11 = .ok (.dup, 1) := by decide +kernel
theorem dX7_undo_12 : decode cX7_undo 12 = .ok (.getfield 151, 3) := by decide +kernel
theorem dX7_undo_15 : decode cX7_undo 15 = .ok (.iconst 1, 1) := by decide +kernel
theorem dX7_undo_16 : decode cX7_undo 16 = .ok (.isub, 1) := by decide +kernel
theorem dX7_undo_17 : decode cX7_undo 17 = .ok (.putfield 151, 3) := by decide +kernel
theorem dX7_undo_20 : decode cX7_undo 20 = .ok (.iconst 0, 1) := by decide +kernel
theorem dX7_undo_21 : decode cX7_undo 21 = .ok (.istore_n 1, 1) := by decide +kernel
theorem dX7_undo_22 : decode cX7_undo 22 = .ok (.iload_n 1, 1) := by decide +kernel
theorem dX7_undo_23 : decode cX7_undo 23 = .ok (.bipush 41, 2) := by decide +kernel
theorem dX7_undo_25 : decode cX7_undo 25 = .ok (.if_icmp .ge 29, 3) := by decide +kernel
theorem dX7_undo_28 : decode cX7_undo 28 = .ok (.aload_n 0, 1) := by decide +kernel
theorem dX7_undo_29 : decode cX7_undo 29 = .ok (.getfield 19, 3) := by decide +kernel
theorem dX7_undo_32 : decode cX7_undo 32 = .ok (.iload_n 1, 1) := by decide +kernel
theorem dX7_undo_33 : decode cX7_undo 33 = .ok (.aload_n 0, 1) := by decide +kernel
theorem dX7_undo_34 : decode cX7_undo 34 = .ok (.getfield 31, 3) := by decide +kernel
theorem dX7_undo_37 : decode cX7_undo 37 = .ok (.bipush 41, 2) := by decide +kernel
theorem dX7_undo_39 : decode cX7_undo 39 = .ok (.aload_n 0, 1) := by decide +kernel
theorem dX7_undo_40 : decode cX7_undo 40 = .ok (.getfield 151, 3) := by decide +kernel
theorem dX7_undo_43 : decode cX7_undo 43 = .ok (.imul, 1) := by decide +kernel
theorem dX7_undo_44 : decode cX7_undo 44 = .ok (.iload_n 1, 1) := by decide +kernel
theorem dX7_undo_45 : decode cX7_undo 45 = .ok (.iadd, 1) := by decide +kernel
theorem dX7_undo_46 : decode cX7_undo 46 = .ok (.iaload, 1) := by decide +kernel
theorem dX7_undo_47 : decode cX7_undo 47 = .ok (.iastore, 1) := by decide +kernel
theorem dX7_undo_48 : decode cX7_undo 48 = .ok (.iinc 1 1, 3) := by decide +kernel
theorem dX7_undo_51 : decode cX7_undo 51 = .ok (.goto (-29), 3) := by decide +kernel
theorem dX7_undo_54 : decode cX7_undo 54 = .ok (.aload_n 0, 1) := by decide +kernel
theorem dX7_undo_55 : decode cX7_undo 55 = .ok (.getfield 151, 3) := by decide +kernel
theorem dX7_undo_58 : decode cX7_undo 58 = .ok (.ireturn, 1) := by decide +kernel
theorem dX7_days_0 : decode cX7_days 0 = .ok (.aload_n 0, 1) := by decide +kernel
theorem dX7_days_1 : decode cX7_days 1 = .ok (.getfield 147, 3) := by decide +kernel
theorem dX7_days_4 : decode cX7_days 4 = .ok (.ifCond .ne 6, 3) := by decide +kernel
theorem dX7_days_7 : decode cX7_days 7 = .ok (.ldc 167, 2) := by decide +kernel
theorem dX7_days_9 : decode cX7_days 9 = .ok (.ireturn, 1) := by decide +kernel
theorem dX7_days_10 : decode cX7_days 10 = .ok (.iload_n 1, 1) := by decide +kernel
theorem dX7_days_11 : decode cX7_days 11 = .ok (.i2l, 1) := by decide +kernel
theorem dX7_days_12 : decode cX7_days 12 = .ok (.lconst 1, 1) := by decide +kernel
theorem dX7_days_13 : decode cX7_days 13 = .ok (.ldc2_w 168, 3) := by decide +kernel
theorem dX7_days_16 : decode cX7_days 16 = .ok (.invokestatic 69, 3) := by decide +kernel
theorem dX7_days_19 : decode cX7_days 19 = .ok (.ifCond .ne 6, 3) := by decide +kernel
theorem dX7_days_22 : decode cX7_days 22 = .ok (.ldc 79, 2) := by decide +kernel
theorem dX7_days_24 : decode cX7_days 24 = .ok (.ireturn, 1) := by decide +kernel
theorem dX7_days_25 : decode cX7_days 25 = .ok (.aload_n 0, 1) := by decide +kernel
theorem dX7_days_26 : decode cX7_days 26 = .ok (.getfield 19, 3) := by decide +kernel
theorem dX7_days_29 : decode cX7_days 29 = .ok (.iconst 3, 1) := by decide +kernel
theorem dX7_days_30 : decode cX7_days 30 = .ok (.iaload, 1) := by decide +kernel
theorem dX7_days_31 : decode cX7_days 31 = .ok (.iload_n 1, 1) := by decide +kernel
theorem dX7_days_32 : decode cX7_days 32 = .ok (.iadd, 1) := by decide +kernel
theorem dX7_days_33 : decode cX7_days 33 = .ok (.sipush 999, 3) := by decide +kernel
theorem dX7_days_36 : decode cX7_days 36 = .ok (.if_icmp .le 6, 3) := by decide +kernel
theorem dX7_days_39 : decode cX7_days 39 = .ok (.ldc 96, 2) := by decide +kernel
theorem dX7_days_41 : decode cX7_days 41 = .ok (.ireturn, 1) := by decide +kernel
theorem dX7_days_42 : decode cX7_days 42 = .ok (.iconst 0, 1) := by decide +kernel
theorem dX7_days_43 : decode cX7_days 43 = .ok (.istore_n 2, 1) := by decide +kernel
theorem dX7_days_44 : decode cX7_days 44 = .ok (.iload_n 2, 1) := by decide +kernel
theorem dX7_days_45 : decode cX7_days 45 = .ok (.iload_n 1, 1) := by decide +kernel
theorem dX7_days_46 : decode cX7_days 46 = .ok (.if_icmp .ge 17, 3) := by decide +kernel
theorem dX7_days_49 : decode cX7_days 49 = .ok (.aload_n 0, 1) := by decide +kernel
theorem dX7_days_50 : decode cX7_days 50 = .ok (.invokevirtual 170, 3) := by decide +kernel
theorem dX7_days_53 : decode cX7_days 53 = .ok (.aload_n 0, 1) := by decide +kernel
theorem dX7_days_54 : decode cX7_days 54 = .ok (.invokevirtual 173, 3) := by decide +kernel
theorem dX7_days_57 : decode cX7_days 57 = .ok (.iinc 2 1, 3) := by decide +kernel
theorem dX7_days_60 : decode cX7_days 60 = .ok (.goto (-16), 3) := by decide +kernel
theorem dX7_days_63 : decode cX7_days 63 = .ok (.aload_n 0, 1) := by decide +kernel
theorem dX7_days_64 : decode cX7_days 64 = .ok (.invokevirtual 176, 3) := by decide +kernel
theorem dX7_days_67 : decode cX7_days 67 = .ok (.ireturn, 1) := by decide +kernel
theorem dX7_putBack_0 : decode cX7_putBack 0 = .ok (.aload_n 0, 1) := by decide +kernel
theorem dX7_putBack_1 : decode cX7_putBack 1 = .ok (.iload_n 1, 1) := by decide +kernel
theorem dX7_putBack_2 : decode cX7_putBack 2 = .ok (.invokevirtual 180, 3) := by decide +kernel
theorem dX7_putBack_5 : decode cX7_putBack 5 = .ok (.ifCond .ne 6, 3) := by decide +kernel
theorem dX7_putBack_8 : decode cX7_putBack 8 = .ok (.ldc 79, 2) := by decide +kernel
theorem dX7_putBack_10 : decode cX7_putBack 10 = .ok (.ireturn, 1) := by decide +kernel
theorem dX7_putBack_11 : decode cX7_putBack 11 = .ok (.aload_n 0, 1) := by decide +kernel
theorem dX7_putBack_12 : decode cX7_putBack 12 = .ok (.iload_n 1, 1) := by decide +kernel
theorem dX7_putBack_13 : decode cX7_putBack 13 = .ok (.invokevirtual 183, 3) := by decide +kernel
theorem dX7_putBack_16 : decode cX7_putBack 16 = .ok (.ifCond .ne 11, 3) := by decide +kernel
theorem dX7_putBack_19 : decode cX7_putBack 19 = .ok (.aload_n 0, 1) := by decide +kernel
theorem dX7_putBack_20 : decode cX7_putBack 20 = .ok (.iload_n 1, 1) := by decide +kernel
theorem dX7_putBack_21 : decode cX7_putBack 21 = .ok (.invokevirtual 164, 3) := by decide +kernel
theorem dX7_putBack_24 : decode cX7_putBack 24 = .ok (.ifCond .ne 6, 3) := by decide +kernel
theorem dX7_putBack_27 : decode cX7_putBack 27 = .ok (.ldc 167, 2) := by decide +kernel
theorem dX7_putBack_29 : decode cX7_putBack 29 = .ok (.ireturn, 1) := by decide +kernel
theorem dX7_putBack_30 : decode cX7_putBack 30 = .ok (.aload_n 0, 1) := by decide +kernel
theorem dX7_putBack_31 : decode cX7_putBack 31 = .ok (.invokevirtual 170, 3) := by decide +kernel
theorem dX7_putBack_34 : decode cX7_putBack 34 = .ok (.aload_n 0, 1) := by decide +kernel
theorem dX7_putBack_35 : decode cX7_putBack 35 = .ok (.iload_n 1, 1) := by decide +kernel
theorem dX7_putBack_36 : decode cX7_putBack 36 = .ok (.aload_n 0, 1) := by decide +kernel
theorem dX7_putBack_37 : decode cX7_putBack 37 = .ok (.getfield 19, 3) := by decide +kernel
theorem dX7_putBack_40 : decode cX7_putBack 40 = .ok (.bipush 35, 2) := by decide +kernel
theorem dX7_putBack_42 : decode cX7_putBack 42 = .ok (.iload_n 1, 1) := by decide +kernel
theorem dX7_putBack_43 : decode cX7_putBack 43 = .ok (.iadd, 1) := by decide +kernel
theorem dX7_putBack_44 : decode cX7_putBack 44 = .ok (.iaload, 1) := by decide +kernel
theorem dX7_putBack_45 : decode cX7_putBack 45 = .ok (.invokevirtual 186, 3) := by decide +kernel
theorem dX7_putBack_48 : decode cX7_putBack 48 = .ok (.istore_n 2, 1) := by decide +kernel
theorem dX7_putBack_49 : decode cX7_putBack 49 = .ok (.aload_n 0, 1) := by decide +kernel
theorem dX7_putBack_50 : decode cX7_putBack 50 = .ok (.getfield 19, 3) := by decide +kernel
theorem dX7_putBack_53 : decode cX7_putBack 53 = .ok (.iconst 4, 1) := by decide +kernel
theorem dX7_putBack_54 : decode cX7_putBack 54 = .ok (.dup2, 1) := by decide +kernel
theorem dX7_putBack_55 : decode cX7_putBack 55 = .ok (.iaload, 1) := by decide +kernel
theorem dX7_putBack_56 : decode cX7_putBack 56 = .ok (.iload_n 2, 1) := by decide +kernel
theorem dX7_putBack_57 : decode cX7_putBack 57 = .ok (.iadd, 1) := by decide +kernel
theorem dX7_putBack_58 : decode cX7_putBack 58 = .ok (.iastore, 1) := by decide +kernel
theorem dX7_putBack_59 : decode cX7_putBack 59 = .ok (.aload_n 0, 1) := by decide +kernel
theorem dX7_putBack_60 : decode cX7_putBack 60 = .ok (.getfield 19, 3) := by decide +kernel
theorem dX7_putBack_63 : decode cX7_putBack 63 = .ok (.bipush 35, 2) := by decide +kernel
theorem dX7_putBack_65 : decode cX7_putBack 65 = .ok (.iload_n 1, 1) := by decide +kernel
theorem dX7_putBack_66 : decode cX7_putBack 66 = .ok (.iadd, 1) := by decide +kernel
theorem dX7_putBack_67 : decode cX7_putBack 67 = .ok (.aload_n 0, 1) := by decide +kernel
theorem dX7_putBack_68 : decode cX7_putBack 68 = .ok (.getfield 19, 3) := by decide +kernel
theorem dX7_putBack_71 : decode cX7_putBack 71 = .ok (.bipush 11, 2) := by decide +kernel
theorem dX7_putBack_73 : decode cX7_putBack 73 = .ok (.iload_n 1, 1) := by decide +kernel
theorem dX7_putBack_74 : decode cX7_putBack 74 = .ok (.iadd, 1) := by decide +kernel
theorem dX7_putBack_75 : decode cX7_putBack 75 = .ok (.iaload, 1) := by decide +kernel
theorem dX7_putBack_76 : decode cX7_putBack 76 = .ok (.iastore, 1) := by decide +kernel
theorem dX7_putBack_77 : decode cX7_putBack 77 = .ok (.iload_n 2, 1) := by decide +kernel
theorem dX7_putBack_78 : decode cX7_putBack 78 = .ok (.ireturn, 1) := by decide +kernel
theorem dX7_send_0 : decode cX7_send 0 = .ok (.aload_n 0, 1) := by decide +kernel
theorem dX7_send_1 : decode cX7_send 1 = .ok (.iload_n 1, 1) := by decide +kernel
theorem dX7_send_2 : decode cX7_send 2 = .ok (.invokevirtual 180, 3) := by decide +kernel
theorem dX7_send_5 : decode cX7_send 5 = .ok (.ifCond .eq 16, 3) := by decide +kernel
theorem dX7_send_8 : decode cX7_send 8 = .ok (.aload_n 0, 1) := by decide +kernel
theorem dX7_send_9 : decode cX7_send 9 = .ok (.iload_n 2, 1) := by decide +kernel
theorem dX7_send_10 : decode cX7_send 10 = .ok (.invokevirtual 180, 3) := by decide +kernel
theorem dX7_send_13 : decode cX7_send 13 = .ok (.ifCond .eq 8, 3) := by decide +kernel
theorem dX7_send_16 : decode cX7_send 16 = .ok (.iload_n 1, 1) := by decide +kernel
theorem dX7_send_17 : decode cX7_send 17 = .ok (.iload_n 2, 1) := by decide +kernel
theorem dX7_send_18 : decode cX7_send 18 = .ok (.if_icmp .ne 6, 3) := by decide +kernel
theorem dX7_send_21 : decode cX7_send 21 = .ok (.ldc 79, 2) := by decide +kernel
theorem dX7_send_23 : decode cX7_send 23 = .ok (.ireturn, 1) := by decide +kernel
theorem dX7_send_24 : decode cX7_send 24 = .ok (.aload_n 0, 1) := by decide +kernel
theorem dX7_send_25 : decode cX7_send 25 = .ok (.iload_n 1, 1) := by decide +kernel
theorem dX7_send_26 : decode cX7_send 26 = .ok (.invokevirtual 183, 3) := by decide +kernel
theorem dX7_send_29 : decode cX7_send 29 = .ok (.ifCond .eq 11, 3) := by decide +kernel
theorem dX7_send_32 : decode cX7_send 32 = .ok (.aload_n 0, 1) := by decide +kernel
theorem dX7_send_33 : decode cX7_send 33 = .ok (.iload_n 2, 1) := by decide +kernel
theorem dX7_send_34 : decode cX7_send 34 = .ok (.invokevirtual 183, 3) := by decide +kernel
theorem dX7_send_37 : decode cX7_send 37 = .ok (.ifCond .ne 6, 3) := by decide +kernel
theorem dX7_send_40 : decode cX7_send 40 = .ok (.ldc 167, 2) := by decide +kernel
theorem dX7_send_42 : decode cX7_send 42 = .ok (.ireturn, 1) := by decide +kernel
theorem dX7_send_43 : decode cX7_send 43 = .ok (.aload_n 0, 1) := by decide +kernel
theorem dX7_send_44 : decode cX7_send 44 = .ok (.invokevirtual 170, 3) := by decide +kernel
theorem dX7_send_47 : decode cX7_send 47 = .ok (.aload_n 0, 1) := by decide +kernel
theorem dX7_send_48 : decode cX7_send 48 = .ok (.getfield 19, 3) := by decide +kernel
theorem dX7_send_51 : decode cX7_send 51 = .ok (.bipush 35, 2) := by decide +kernel
theorem dX7_send_53 : decode cX7_send 53 = .ok (.iload_n 1, 1) := by decide +kernel
theorem dX7_send_54 : decode cX7_send 54 = .ok (.iadd, 1) := by decide +kernel
theorem dX7_send_55 : decode cX7_send 55 = .ok (.iaload, 1) := by decide +kernel
theorem dX7_send_56 : decode cX7_send 56 = .ok (.istore_n 3, 1) := by decide +kernel
theorem dX7_send_57 : decode cX7_send 57 = .ok (.aload_n 0, 1) := by decide +kernel
theorem dX7_send_58 : decode cX7_send 58 = .ok (.getfield 19, 3) := by decide +kernel
theorem dX7_send_61 : decode cX7_send 61 = .ok (.bipush 35, 2) := by decide +kernel
theorem dX7_send_63 : decode cX7_send 63 = .ok (.iload_n 1, 1) := by decide +kernel
theorem dX7_send_64 : decode cX7_send 64 = .ok (.iadd, 1) := by decide +kernel
theorem dX7_send_65 : decode cX7_send 65 = .ok (.aload_n 0, 1) := by decide +kernel
theorem dX7_send_66 : decode cX7_send 66 = .ok (.getfield 19, 3) := by decide +kernel
theorem dX7_send_69 : decode cX7_send 69 = .ok (.bipush 35, 2) := by decide +kernel
theorem dX7_send_71 : decode cX7_send 71 = .ok (.iload_n 2, 1) := by decide +kernel
theorem dX7_send_72 : decode cX7_send 72 = .ok (.iadd, 1) := by decide +kernel
theorem dX7_send_73 : decode cX7_send 73 = .ok (.iaload, 1) := by decide +kernel
theorem dX7_send_74 : decode cX7_send 74 = .ok (.iastore, 1) := by decide +kernel
theorem dX7_send_75 : decode cX7_send 75 = .ok (.aload_n 0, 1) := by decide +kernel
theorem dX7_send_76 : decode cX7_send 76 = .ok (.getfield 19, 3) := by decide +kernel
theorem dX7_send_79 : decode cX7_send 79 = .ok (.bipush 35, 2) := by decide +kernel
theorem dX7_send_81 : decode cX7_send 81 = .ok (.iload_n 2, 1) := by decide +kernel
theorem dX7_send_82 : decode cX7_send 82 = .ok (.iadd, 1) := by decide +kernel
theorem dX7_send_83 : decode cX7_send 83 = .ok (.iload_n 3, 1) := by decide +kernel
theorem dX7_send_84 : decode cX7_send 84 = .ok (.iastore, 1) := by decide +kernel
theorem dX7_send_85 : decode cX7_send 85 = .ok (.aload_n 0, 1) := by decide +kernel
theorem dX7_send_86 : decode cX7_send 86 = .ok (.getfield 19, 3) := by decide +kernel
theorem dX7_send_89 : decode cX7_send 89 = .ok (.iconst 4, 1) := by decide +kernel
theorem dX7_send_90 : decode cX7_send 90 = .ok (.dup2, 1) := by decide +kernel
theorem dX7_send_91 : decode cX7_send 91 = .ok (.iaload, 1) := by decide +kernel
theorem dX7_send_92 : decode cX7_send 92 = .ok (.aload_n 0, 1) := by decide +kernel
theorem dX7_send_93 : decode cX7_send 93 = .ok (.getfield 19, 3) := by decide +kernel
theorem dX7_send_96 : decode cX7_send 96 = .ok (.iconst 1, 1) := by decide +kernel
theorem dX7_send_97 : decode cX7_send 97 = .ok (.iaload, 1) := by decide +kernel
theorem dX7_send_98 : decode cX7_send 98 = .ok (.iadd, 1) := by decide +kernel
theorem dX7_send_99 : decode cX7_send 99 = .ok (.iastore, 1) := by decide +kernel
theorem dX7_send_100 : decode cX7_send 100 = .ok (.aload_n 0, 1) := by decide +kernel
theorem dX7_send_101 : decode cX7_send 101 = .ok (.iload_n 1, 1) := by decide +kernel
theorem dX7_send_102 : decode cX7_send 102 = .ok (.invokevirtual 164, 3) := by decide +kernel
theorem dX7_send_105 : decode cX7_send 105 = .ok (.aload_n 0, 1) := by decide +kernel
theorem dX7_send_106 : decode cX7_send 106 = .ok (.iload_n 2, 1) := by decide +kernel
theorem dX7_send_107 : decode cX7_send 107 = .ok (.invokevirtual 164, 3) := by decide +kernel
theorem dX7_send_110 : decode cX7_send 110 = .ok (.iadd, 1) := by decide +kernel
theorem dX7_send_111 : decode cX7_send 111 = .ok (.ireturn, 1) := by decide +kernel
theorem dX7_allow_0 : decode cX7_allow 0 = .ok (.aload_n 0, 1) := by decide +kernel
theorem dX7_allow_1 : decode cX7_allow 1 = .ok (.getfield 147, 3) := by decide +kernel
theorem dX7_allow_4 : decode cX7_allow 4 = .ok (.ifCond .ne 6, 3) := by decide +kernel
theorem dX7_allow_7 : decode cX7_allow 7 = .ok (.ldc 167, 2) := by decide +kernel
theorem dX7_allow_9 : decode cX7_allow 9 = .ok (.ireturn, 1) := by decide +kernel
theorem dX7_allow_10 : decode cX7_allow 10 = .ok (.iload_n 1, 1) := by decide +kernel
theorem dX7_allow_11 : decode cX7_allow 11 = .ok (.i2l, 1) := by decide +kernel
theorem dX7_allow_12 : decode cX7_allow 12 = .ok (.lconst 0, 1) := by decide +kernel
theorem dX7_allow_13 : decode cX7_allow 13 = .ok (.ldc2_w 189, 3) := by decide +kernel
theorem dX7_allow_16 : decode cX7_allow 16 = .ok (.invokestatic 69, 3) := by decide +kernel
theorem dX7_allow_19 : decode cX7_allow 19 = .ok (.ifCond .ne 6, 3) := by decide +kernel
theorem dX7_allow_22 : decode cX7_allow 22 = .ok (.ldc 79, 2) := by decide +kernel
theorem dX7_allow_24 : decode cX7_allow 24 = .ok (.ireturn, 1) := by decide +kernel
theorem dX7_allow_25 : decode cX7_allow 25 = .ok (.aload_n 0, 1) := by decide +kernel
theorem dX7_allow_26 : decode cX7_allow 26 = .ok (.invokevirtual 170, 3) := by decide +kernel
theorem dX7_allow_29 : decode cX7_allow 29 = .ok (.aload_n 0, 1) := by decide +kernel
theorem dX7_allow_30 : decode cX7_allow 30 = .ok (.getfield 19, 3) := by decide +kernel
theorem dX7_allow_33 : decode cX7_allow 33 = .ok (.iconst 0, 1) := by decide +kernel
theorem dX7_allow_34 : decode cX7_allow 34 = .ok (.iaload, 1) := by decide +kernel
theorem dX7_allow_35 : decode cX7_allow 35 = .ok (.istore_n 2, 1) := by decide +kernel
theorem dX7_allow_36 : decode cX7_allow 36 = .ok (.aload_n 0, 1) := by decide +kernel
theorem dX7_allow_37 : decode cX7_allow 37 = .ok (.getfield 19, 3) := by decide +kernel
theorem dX7_allow_40 : decode cX7_allow 40 = .ok (.iconst 0, 1) := by decide +kernel
theorem dX7_allow_41 : decode cX7_allow 41 = .ok (.iload_n 1, 1) := by decide +kernel
theorem dX7_allow_42 : decode cX7_allow 42 = .ok (.iastore, 1) := by decide +kernel
theorem dX7_allow_43 : decode cX7_allow 43 = .ok (.iload_n 2, 1) := by decide +kernel
theorem dX7_allow_44 : decode cX7_allow 44 = .ok (.ireturn, 1) := by decide +kernel
theorem dX7_thing_0 : decode cX7_thing 0 = .ok (.aload_n 0, 1) := by decide +kernel
theorem dX7_thing_1 : decode cX7_thing 1 = .ok (.iload_n 1, 1) := by decide +kernel
theorem dX7_thing_2 : decode cX7_thing 2 = .ok (.invokevirtual 180, 3) := by decide +kernel
theorem dX7_thing_5 : decode cX7_thing 5 = .ok (.ifCond .ne 6, 3) := by decide +kernel
theorem dX7_thing_8 : decode cX7_thing 8 = .ok (.ldc 79, 2) := by decide +kernel
theorem dX7_thing_10 : decode cX7_thing 10 = .ok (.ireturn, 1) := by decide +kernel
theorem dX7_thing_11 : decode cX7_thing 11 = .ok (.iload_n 2, 1) := by decide +kernel
theorem dX7_thing_12 : decode cX7_thing 12 = .ok (.tableswitch 146 0 7 #[48, 58, 68, 78, 88, 98, 104, 118], 48) := by decide +kernel
theorem dX7_thing_60 : decode cX7_thing 60 = .ok (.aload_n 0, 1) := by decide +kernel
theorem dX7_thing_61 : decode cX7_thing 61 = .ok (.getfield 19, 3) := by decide +kernel
theorem dX7_thing_64 : decode cX7_thing 64 = .ok (.bipush 35, 2) := by decide +kernel
theorem dX7_thing_66 : decode cX7_thing 66 = .ok (.iload_n 1, 1) := by decide +kernel
theorem dX7_thing_67 : decode cX7_thing 67 = .ok (.iadd, 1) := by decide +kernel
theorem dX7_thing_68 : decode cX7_thing 68 = .ok (.iaload, 1) := by decide +kernel
theorem dX7_thing_69 : decode cX7_thing 69 = .ok (.ireturn, 1) := by decide +kernel
theorem dX7_thing_70 : decode cX7_thing 70 = .ok (.aload_n 0, 1) := by decide +kernel
theorem dX7_thing_71 : decode cX7_thing 71 = .ok (.getfield 19, 3) := by decide +kernel
theorem dX7_thing_74 : decode cX7_thing 74 = .ok (.bipush 11, 2) := by decide +kernel
theorem dX7_thing_76 : decode cX7_thing 76 = .ok (.iload_n 1, 1) := by decide +kernel
theorem dX7_thing_77 : decode cX7_thing 77 = .ok (.iadd, 1) := by decide +kernel
theorem dX7_thing_78 : decode cX7_thing 78 = .ok (.iaload, 1) := by decide +kernel
theorem dX7_thing_79 : decode cX7_thing 79 = .ok (.ireturn, 1) := by decide +kernel
theorem dX7_thing_80 : decode cX7_thing 80 = .ok (.aload_n 0, 1) := by decide +kernel
theorem dX7_thing_81 : decode cX7_thing 81 = .ok (.getfield 19, 3) := by decide +kernel
theorem dX7_thing_84 : decode cX7_thing 84 = .ok (.bipush 17, 2) := by decide +kernel
theorem dX7_thing_86 : decode cX7_thing 86 = .ok (.iload_n 1, 1) := by decide +kernel
theorem dX7_thing_87 : decode cX7_thing 87 = .ok (.iadd, 1) := by decide +kernel
theorem dX7_thing_88 : decode cX7_thing 88 = .ok (.iaload, 1) := by decide +kernel
theorem dX7_thing_89 : decode cX7_thing 89 = .ok (.ireturn, 1) := by decide +kernel
theorem dX7_thing_90 : decode cX7_thing 90 = .ok (.aload_n 0, 1) := by decide +kernel
theorem dX7_thing_91 : decode cX7_thing 91 = .ok (.getfield 19, 3) := by decide +kernel
theorem dX7_thing_94 : decode cX7_thing 94 = .ok (.bipush 23, 2) := by decide +kernel
theorem dX7_thing_96 : decode cX7_thing 96 = .ok (.iload_n 1, 1) := by decide +kernel
theorem dX7_thing_97 : decode cX7_thing 97 = .ok (.iadd, 1) := by decide +kernel
theorem dX7_thing_98 : decode cX7_thing 98 = .ok (.iaload, 1) := by decide +kernel
theorem dX7_thing_99 : decode cX7_thing 99 = .ok (.ireturn, 1) := by decide +kernel
theorem dX7_thing_100 : decode cX7_thing 100 = .ok (.aload_n 0, 1) := by decide +kernel
theorem dX7_thing_101 : decode cX7_thing 101 = .ok (.getfield 19, 3) := by decide +kernel
theorem dX7_thing_104 : decode cX7_thing 104 = .ok (.bipush 29, 2) := by decide +kernel
theorem dX7_thing_106 : decode cX7_thing 106 = .ok (.iload_n 1, 1) := by decide +kernel
theorem dX7_thing_107 : decode cX7_thing 107 = .ok (.iadd, 1) := by decide +kernel
theorem dX7_thing_108 : decode cX7_thing 108 = .ok (.iaload, 1) := by decide +kernel
theorem dX7_thing_109 : decode cX7_thing 109 = .ok (.ireturn, 1) := by decide +kernel
theorem dX7_thing_110 : decode cX7_thing 110 = .ok (.aload_n 0, 1) := by decide +kernel
theorem dX7_thing_111 : decode cX7_thing 111 = .ok (.iload_n 1, 1) := by decide +kernel
theorem dX7_thing_112 : decode cX7_thing 112 = .ok (.invokevirtual 164, 3) := by decide +kernel
theorem dX7_thing_115 : decode cX7_thing 115 = .ok (.ireturn, 1) := by decide +kernel
theorem dX7_thing_116 : decode cX7_thing 116 = .ok (.aload_n 0, 1) := by decide +kernel
theorem dX7_thing_117 : decode cX7_thing 117 = .ok (.iload_n 1, 1) := by decide +kernel
theorem dX7_thing_118 : decode cX7_thing 118 = .ok (.invokevirtual 191, 3) := by decide +kernel
theorem dX7_thing_121 : decode cX7_thing 121 = .ok (.ifCond .eq 7, 3) := by decide +kernel
theorem dX7_thing_124 : decode cX7_thing 124 = .ok (.iconst 1, 1) := by decide +kernel
theorem dX7_thing_125 : decode cX7_thing 125 = .ok (.goto 4, 3) := by decide +kernel
theorem dX7_thing_128 : decode cX7_thing 128 = .ok (.iconst 0, 1) := by decide +kernel
theorem dX7_thing_129 : decode cX7_thing 129 = .ok (.ireturn, 1) := by decide +kernel
theorem dX7_thing_130 : decode cX7_thing 130 = .ok (.aload_n 0, 1) := by decide +kernel
theorem dX7_thing_131 : decode cX7_thing 131 = .ok (.iload_n 1, 1) := by decide +kernel
theorem dX7_thing_132 : decode cX7_thing 132 = .ok (.invokevirtual 183, 3) := by decide +kernel
theorem dX7_thing_135 : decode cX7_thing 135 = .ok (.ifCond .eq 8, 3) := by decide +kernel
theorem dX7_thing_138 : decode cX7_thing 138 = .ok (.ldc 194, 2) := by decide +kernel
theorem dX7_thing_140 : decode cX7_thing 140 = .ok (.goto 17, 3) := by decide +kernel
theorem dX7_thing_143 : decode cX7_thing 143 = .ok (.aload_n 0, 1) := by decide +kernel
theorem dX7_thing_144 : decode cX7_thing 144 = .ok (.iload_n 1, 1) := by decide +kernel
theorem dX7_thing_145 : decode cX7_thing 145 = .ok (.aload_n 0, 1) := by decide +kernel
theorem dX7_thing_146 : decode cX7_thing 146 = .ok (.getfield 19, 3) := by decide +kernel
theorem dX7_thing_149 : decode cX7_thing 149 = .ok (.bipush 35, 2) := by decide +kernel
theorem dX7_thing_151 : decode cX7_thing 151 = .ok (.iload_n 1, 1) := by decide +kernel
theorem dX7_thing_152 : decode cX7_thing 152 = .ok (.iadd, 1) := by decide +kernel
theorem dX7_thing_153 : decode cX7_thing 153 = .ok (.iaload, 1) := by decide +kernel
theorem dX7_thing_154 : decode cX7_thing 154 = .ok (.invokevirtual 186, 3) := by decide +kernel
theorem dX7_thing_157 : decode cX7_thing 157 = .ok (.ireturn, 1) := by decide +kernel
theorem dX7_thing_158 : decode cX7_thing 158 = .ok (.ldc 79, 2) := by decide +kernel
theorem dX7_thing_160 : decode cX7_thing 160 = .ok (.ireturn, 1) := by decide +kernel
theorem dX7_holds_0 : decode cX7_holds 0 = .ok (.aload_n 0, 1) := by decide +kernel
theorem dX7_holds_1 : decode cX7_holds 1 = .ok (.getfield 147, 3) := by decide +kernel
theorem dX7_holds_4 : decode cX7_holds 4 = .ok (.ifCond .ne 6, 3) := by decide +kernel
theorem dX7_holds_7 : decode cX7_holds 7 = .ok (.ldc 167, 2) := by decide +kernel
theorem dX7_holds_9 : decode cX7_holds 9 = .ok (.ireturn, 1) := by decide +kernel
theorem dX7_holds_10 : decode cX7_holds 10 = .ok (.iconst 0, 1) := by decide +kernel
theorem dX7_holds_11 : decode cX7_holds 11 = .ok (.istore_n 2, 1) := by decide +kernel
theorem dX7_holds_12 : decode cX7_holds 12 = .ok (.iconst 0, 1) := by decide +kernel
theorem dX7_holds_13 : decode cX7_holds 13 = .ok (.istore_n 3, 1) := by decide +kernel
theorem dX7_holds_14 : decode cX7_holds 14 = .ok (.iload_n 3, 1) := by decide +kernel
theorem dX7_holds_15 : decode cX7_holds 15 = .ok (.aload_n 0, 1) := by decide +kernel
theorem dX7_holds_16 : decode cX7_holds 16 = .ok (.getfield 19, 3) := by decide +kernel
theorem dX7_holds_19 : decode cX7_holds 19 = .ok (.iconst 2, 1) := by decide +kernel
theorem dX7_holds_20 : decode cX7_holds 20 = .ok (.iaload, 1) := by decide +kernel
theorem dX7_holds_21 : decode cX7_holds 21 = .ok (.if_icmp .ge 27, 3) := by decide +kernel
theorem dX7_holds_24 : decode cX7_holds 24 = .ok (.iload_n 2, 1) := by decide +kernel
theorem dX7_holds_25 : decode cX7_holds 25 = .ok (.aload_n 0, 1) := by decide +kernel
theorem dX7_holds_26 : decode cX7_holds 26 = .ok (.iload_n 3, 1) := by decide +kernel
theorem dX7_holds_27 : decode cX7_holds 27 = .ok (.invokevirtual 191, 3) := by decide +kernel
theorem dX7_holds_30 : decode cX7_holds 30 = .ok (.ifCond .eq 9, 3) := by decide +kernel
theorem dX7_holds_33 : decode cX7_holds 33 = .ok (.iconst 1, 1) := by decide +kernel
theorem dX7_holds_34 : decode cX7_holds 34 = .ok (.iload_n 3, 1) := by decide +kernel
theorem dX7_holds_35 : decode cX7_holds 35 = .ok (.ishl, 1) := by decide +kernel
theorem dX7_holds_36 : decode cX7_holds 36 = .ok (.goto 4, 3) := by decide +kernel
theorem dX7_holds_39 : decode cX7_holds 39 = .ok (.iconst 0, 1) := by decide +kernel
theorem dX7_holds_40 : decode cX7_holds 40 = .ok (.ior, 1) := by decide +kernel
theorem dX7_holds_41 : decode cX7_holds 41 = .ok (.istore_n 2, 1) := by decide +kernel
theorem dX7_holds_42 : decode cX7_holds 42 = .ok (.iinc 3 1, 3) := by decide +kernel
theorem dX7_holds_45 : decode cX7_holds 45 = .ok (.goto (-31), 3) := by decide +kernel
theorem dX7_holds_48 : decode cX7_holds 48 = .ok (.iload_n 1, 1) := by decide +kernel
theorem dX7_holds_49 : decode cX7_holds 49 = .ok (.tableswitch 63 0 4 #[35, 42, 49, 56, 61], 35) := by decide +kernel
theorem dX7_holds_84 : decode cX7_holds 84 = .ok (.aload_n 0, 1) := by decide +kernel
theorem dX7_holds_85 : decode cX7_holds 85 = .ok (.getfield 19, 3) := by decide +kernel
theorem dX7_holds_88 : decode cX7_holds 88 = .ok (.iconst 4, 1) := by decide +kernel
theorem dX7_holds_89 : decode cX7_holds 89 = .ok (.iaload, 1) := by decide +kernel
theorem dX7_holds_90 : decode cX7_holds 90 = .ok (.ireturn, 1) := by decide +kernel
theorem dX7_holds_91 : decode cX7_holds 91 = .ok (.aload_n 0, 1) := by decide +kernel
theorem dX7_holds_92 : decode cX7_holds 92 = .ok (.getfield 19, 3) := by decide +kernel
theorem dX7_holds_95 : decode cX7_holds 95 = .ok (.iconst 0, 1) := by decide +kernel
theorem dX7_holds_96 : decode cX7_holds 96 = .ok (.iaload, 1) := by decide +kernel
theorem dX7_holds_97 : decode cX7_holds 97 = .ok (.ireturn, 1) := by decide +kernel
theorem dX7_holds_98 : decode cX7_holds 98 = .ok (.aload_n 0, 1) := by decide +kernel
theorem dX7_holds_99 : decode cX7_holds 99 = .ok (.getfield 19, 3) := by decide +kernel
theorem dX7_holds_102 : decode cX7_holds 102 = .ok (.iconst 1, 1) := by decide +kernel
theorem dX7_holds_103 : decode cX7_holds 103 = .ok (.iaload, 1) := by decide +kernel
theorem dX7_holds_104 : decode cX7_holds 104 = .ok (.ireturn, 1) := by decide +kernel
theorem dX7_holds_105 : decode cX7_holds 105 = .ok (.aload_n 0, 1) := by decide +kernel
theorem dX7_holds_106 : decode cX7_holds 106 = .ok (.invokevirtual 176, 3) := by decide +kernel
theorem dX7_holds_109 : decode cX7_holds 109 = .ok (.ireturn, 1) := by decide +kernel
theorem dX7_holds_110 : decode cX7_holds 110 = .ok (.iload_n 2, 1) := by decide +kernel
theorem dX7_holds_111 : decode cX7_holds 111 = .ok (.ireturn, 1) := by decide +kernel
theorem dX7_holds_112 : decode cX7_holds 112 = .ok (.ldc 79, 2) := by decide +kernel
theorem dX7_holds_114 : decode cX7_holds 114 = .ok (.ireturn, 1) := by decide +kernel
theorem dX7_putAside_0 : decode cX7_putAside 0 = .ok (.iconst 0, 1) := by decide +kernel
theorem dX7_putAside_1 : decode cX7_putAside 1 = .ok (.istore_n 1, 1) := by decide +kernel
theorem dX7_putAside_2 : decode cX7_putAside 2 = .ok (.iload_n 1, 1) := by decide +kernel
theorem dX7_putAside_3 : decode cX7_putAside 3 = .ok (.bipush 41, 2) := by decide +kernel
theorem dX7_putAside_5 : decode cX7_putAside 5 = .ok (.if_icmp .ge 21, 3) := by decide +kernel
theorem dX7_putAside_8 : decode cX7_putAside 8 = .ok (.aload_n 0, 1) := by decide +kernel
theorem dX7_putAside_9 : decode cX7_putAside 9 = .ok (.getfield 34, 3) := by decide +kernel
theorem dX7_putAside_12 : decode cX7_putAside 12 = .ok (.iload_n 1, 1) := by decide +kernel
theorem dX7_putAside_13 : decode cX7_putAside 13 = .ok (.aload_n 0, 1) := by decide +kernel
theorem dX7_putAside_14 : decode cX7_putAside 14 = .ok (.getfield 19, 3) := by decide +kernel
theorem dX7_putAside_17 : decode cX7_putAside 17 = .ok (.iload_n 1, 1) := by decide +kernel
theorem dX7_putAside_18 : decode cX7_putAside 18 = .ok (.iaload, 1) := by decide +kernel
theorem dX7_putAside_19 : decode cX7_putAside 19 = .ok (.iastore, 1) := by decide +kernel
theorem dX7_putAside_20 : decode cX7_putAside 20 = .ok (.iinc 1 1, 3) := by decide +kernel
theorem dX7_putAside_23 : decode cX7_putAside 23 = .ok (.goto (-21), 3) := by decide +kernel
theorem dX7_putAside_26 : decode cX7_putAside 26 = .ok (.return_, 1) := by decide +kernel
theorem dX7_takeBack_0 : decode cX7_takeBack 0 = .ok (.iconst 0, 1) := by decide +kernel
theorem dX7_takeBack_1 : decode cX7_takeBack 1 = .ok (.istore_n 1, 1) := by decide +kernel
theorem dX7_takeBack_2 : decode cX7_takeBack 2 = .ok (.iload_n 1, 1) := by decide +kernel
theorem dX7_takeBack_3 : decode cX7_takeBack 3 = .ok (.bipush 41, 2) := by decide +kernel
theorem dX7_takeBack_5 : decode cX7_takeBack 5 = .ok (.if_icmp .ge 21, 3) := by decide +kernel
theorem dX7_takeBack_8 : decode cX7_takeBack 8 = .ok (.aload_n 0, 1) := by decide +kernel
theorem dX7_takeBack_9 : decode cX7_takeBack 9 = .ok (.getfield 19, 3) := by decide +kernel
theorem dX7_takeBack_12 : decode cX7_takeBack 12 = .ok (.iload_n 1, 1) := by decide +kernel
theorem dX7_takeBack_13 : decode cX7_takeBack 13 = .ok (.aload_n 0, 1) := by decide +kernel
theorem dX7_takeBack_14 : decode cX7_takeBack 14 = .ok (.getfield 34, 3) := by decide +kernel
theorem dX7_takeBack_17 : decode cX7_takeBack 17 = .ok (.iload_n 1, 1) := by decide +kernel
theorem dX7_takeBack_18 : decode cX7_takeBack 18 = .ok (.iaload, 1) := by decide +kernel
theorem dX7_takeBack_19 : decode cX7_takeBack 19 = .ok (.iastore, 1) := by decide +kernel
theorem dX7_takeBack_20 : decode cX7_takeBack 20 = .ok (.iinc 1 1, 3) := by decide +kernel
theorem dX7_takeBack_23 : decode cX7_takeBack 23 = .ok (.goto (-21), 3) := by decide +kernel
theorem dX7_takeBack_26 : decode cX7_takeBack 26 = .ok (.return_, 1) := by decide +kernel
theorem dX7_ahead_0 : decode cX7_ahead 0 = .ok (.aload_n 0, 1) := by decide +kernel
theorem dX7_ahead_1 : decode cX7_ahead 1 = .ok (.iload_n 1, 1) := by decide +kernel
theorem dX7_ahead_2 : decode cX7_ahead 2 = .ok (.invokevirtual 180, 3) := by decide +kernel
theorem dX7_ahead_5 : decode cX7_ahead 5 = .ok (.ifCond .eq 15, 3) := by decide +kernel
theorem dX7_ahead_8 : decode cX7_ahead 8 = .ok (.iload_n 2, 1) := by decide +kernel
theorem dX7_ahead_9 : decode cX7_ahead 9 = .ok (.i2l, 1) := by decide +kernel
theorem dX7_ahead_10 : decode cX7_ahead 10 = .ok (.lconst 0, 1) := by decide +kernel
theorem dX7_ahead_11 : decode cX7_ahead 11 = .ok (.ldc2_w 195, 3) := by decide +kernel
theorem dX7_ahead_14 : decode cX7_ahead 14 = .ok (.invokestatic 69, 3) := by decide +kernel
theorem dX7_ahead_17 : decode cX7_ahead 17 = .ok (.ifCond .ne 6, 3) := by decide +kernel
theorem dX7_ahead_20 : decode cX7_ahead 20 = .ok (.ldc 79, 2) := by decide +kernel
theorem dX7_ahead_22 : decode cX7_ahead 22 = .ok (.ireturn, 1) := by decide +kernel
theorem dX7_ahead_23 : decode cX7_ahead 23 = .ok (.aload_n 0, 1) := by decide +kernel
theorem dX7_ahead_24 : decode cX7_ahead 24 = .ok (.getfield 19, 3) := by decide +kernel
theorem dX7_ahead_27 : decode cX7_ahead 27 = .ok (.bipush 35, 2) := by decide +kernel
theorem dX7_ahead_29 : decode cX7_ahead 29 = .ok (.iload_n 1, 1) := by decide +kernel
theorem dX7_ahead_30 : decode cX7_ahead 30 = .ok (.iadd, 1) := by decide +kernel
theorem dX7_ahead_31 : decode cX7_ahead 31 = .ok (.iaload, 1) := by decide +kernel
theorem dX7_ahead_32 : decode cX7_ahead 32 = .ok (.istore_n 3, 1) := by decide +kernel
theorem dX7_ahead_33 : decode cX7_ahead 33 = .ok (.iconst 0, 1) := by decide +kernel
theorem dX7_ahead_34 : decode cX7_ahead 34 = .ok (.istore 4, 2) := by decide +kernel
theorem dX7_ahead_36 : decode cX7_ahead 36 = .ok (.iload 4, 2) := by decide +kernel
theorem dX7_ahead_38 : decode cX7_ahead 38 = .ok (.iload_n 2, 1) := by decide +kernel
theorem dX7_ahead_39 : decode cX7_ahead 39 = .ok (.if_icmp .ge 25, 3) := by decide +kernel
theorem dX7_ahead_42 : decode cX7_ahead 42 = .ok (.aload_n 0, 1) := by decide +kernel
theorem dX7_ahead_43 : decode cX7_ahead 43 = .ok (.iload_n 1, 1) := by decide +kernel
theorem dX7_ahead_44 : decode cX7_ahead 44 = .ok (.iload_n 3, 1) := by decide +kernel
theorem dX7_ahead_45 : decode cX7_ahead 45 = .ok (.aload_n 0, 1) := by decide +kernel
theorem dX7_ahead_46 : decode cX7_ahead 46 = .ok (.getfield 19, 3) := by decide +kernel
theorem dX7_ahead_49 : decode cX7_ahead 49 = .ok (.iconst 3, 1) := by decide +kernel
theorem dX7_ahead_50 : decode cX7_ahead 50 = .ok (.iaload, 1) := by decide +kernel
theorem dX7_ahead_51 : decode cX7_ahead 51 = .ok (.iload 4, 2) := by decide +kernel
theorem dX7_ahead_53 : decode cX7_ahead 53 = .ok (.iadd, 1) := by decide +kernel
theorem dX7_ahead_54 : decode cX7_ahead 54 = .ok (.invokevirtual 157, 3) := by decide +kernel
theorem dX7_ahead_57 : decode cX7_ahead 57 = .ok (.istore_n 3, 1) := by decide +kernel
theorem dX7_ahead_58 : decode cX7_ahead 58 = .ok (.iinc 4 1, 3) := by decide +kernel
theorem dX7_ahead_61 : decode cX7_ahead 61 = .ok (.goto (-25), 3) := by decide +kernel
theorem dX7_ahead_64 : decode cX7_ahead 64 = .ok (.iload_n 3, 1) := by decide +kernel
theorem dX7_ahead_65 : decode cX7_ahead 65 = .ok (.ireturn, 1) := by decide +kernel
theorem dX7_offAhead_0 : decode cX7_offAhead 0 = .ok (.aload_n 0, 1) := by decide +kernel
theorem dX7_offAhead_1 : decode cX7_offAhead 1 = .ok (.getfield 147, 3) := by decide +kernel
theorem dX7_offAhead_4 : decode cX7_offAhead 4 = .ok (.ifCond .ne 6, 3) := by decide +kernel
theorem dX7_offAhead_7 : decode cX7_offAhead 7 = .ok (.ldc 167, 2) := by decide +kernel
theorem dX7_offAhead_9 : decode cX7_offAhead 9 = .ok (.ireturn, 1) := by decide +kernel
theorem dX7_offAhead_10 : decode cX7_offAhead 10 = .ok (.iload_n 1, 1) := by decide +kernel
theorem dX7_offAhead_11 : decode cX7_offAhead 11 = .ok (.i2l, 1) := by decide +kernel
theorem dX7_offAhead_12 : decode cX7_offAhead 12 = .ok (.lconst 0, 1) := by decide +kernel
theorem dX7_offAhead_13 : decode cX7_offAhead 13 = .ok (.ldc2_w 195, 3) := by decide +kernel
theorem dX7_offAhead_16 : decode cX7_offAhead 16 = .ok (.invokestatic 69, 3) := by decide +kernel
theorem dX7_offAhead_19 : decode cX7_offAhead 19 = .ok (.ifCond .ne 6, 3) := by decide +kernel
theorem dX7_offAhead_22 : decode cX7_offAhead 22 = .ok (.ldc 79, 2) := by decide +kernel
theorem dX7_offAhead_24 : decode cX7_offAhead 24 = .ok (.ireturn, 1) := by decide +kernel
theorem dX7_offAhead_25 : decode cX7_offAhead 25 = .ok (.aload_n 0, 1) := by decide +kernel
theorem dX7_offAhead_26 : decode cX7_offAhead 26 = .ok (.invokevirtual 197, 3) := by decide +kernel
theorem dX7_offAhead_29 : decode cX7_offAhead 29 = .ok (.iconst 0, 1) := by decide +kernel
theorem dX7_offAhead_30 : decode cX7_offAhead 30 = .ok (.istore_n 2, 1) := by decide +kernel
theorem dX7_offAhead_31 : decode cX7_offAhead 31 = .ok (.iload_n 2, 1) := by decide +kernel
theorem dX7_offAhead_32 : decode cX7_offAhead 32 = .ok (.iload_n 1, 1) := by decide +kernel
theorem dX7_offAhead_33 : decode cX7_offAhead 33 = .ok (.if_icmp .ge 13, 3) := by decide +kernel
theorem dX7_offAhead_36 : decode cX7_offAhead 36 = .ok (.aload_n 0, 1) := by decide +kernel
theorem dX7_offAhead_37 : decode cX7_offAhead 37 = .ok (.invokevirtual 173, 3) := by decide +kernel
theorem dX7_offAhead_40 : decode cX7_offAhead 40 = .ok (.iinc 2 1, 3) := by decide +kernel
theorem dX7_offAhead_43 : decode cX7_offAhead 43 = .ok (.goto (-12), 3) := by decide +kernel
theorem dX7_offAhead_46 : decode cX7_offAhead 46 = .ok (.aload_n 0, 1) := by decide +kernel
theorem dX7_offAhead_47 : decode cX7_offAhead 47 = .ok (.invokevirtual 176, 3) := by decide +kernel
theorem dX7_offAhead_50 : decode cX7_offAhead 50 = .ok (.istore_n 2, 1) := by decide +kernel
theorem dX7_offAhead_51 : decode cX7_offAhead 51 = .ok (.aload_n 0, 1) := by decide +kernel
theorem dX7_offAhead_52 : decode cX7_offAhead 52 = .ok (.invokevirtual 200, 3) := by decide +kernel
theorem dX7_offAhead_55 : decode cX7_offAhead 55 = .ok (.iload_n 2, 1) := by decide +kernel
theorem dX7_offAhead_56 : decode cX7_offAhead 56 = .ok (.ireturn, 1) := by decide +kernel
theorem dX7_lost_0 : decode cX7_lost 0 = .ok (.aload_n 0, 1) := by decide +kernel
theorem dX7_lost_1 : decode cX7_lost 1 = .ok (.getfield 147, 3) := by decide +kernel
theorem dX7_lost_4 : decode cX7_lost 4 = .ok (.ifCond .ne 6, 3) := by decide +kernel
theorem dX7_lost_7 : decode cX7_lost 7 = .ok (.ldc 167, 2) := by decide +kernel
theorem dX7_lost_9 : decode cX7_lost 9 = .ok (.ireturn, 1) := by decide +kernel
theorem dX7_lost_10 : decode cX7_lost 10 = .ok (.iload_n 1, 1) := by decide +kernel
theorem dX7_lost_11 : decode cX7_lost 11 = .ok (.i2l, 1) := by decide +kernel
theorem dX7_lost_12 : decode cX7_lost 12 = .ok (.lconst 0, 1) := by decide +kernel
theorem dX7_lost_13 : decode cX7_lost 13 = .ok (.lconst 1, 1) := by decide +kernel
theorem dX7_lost_14 : decode cX7_lost 14 = .ok (.invokestatic 69, 3) := by decide +kernel
theorem dX7_lost_17 : decode cX7_lost 17 = .ok (.ifCond .ne 6, 3) := by decide +kernel
theorem dX7_lost_20 : decode cX7_lost 20 = .ok (.ldc 79, 2) := by decide +kernel
theorem dX7_lost_22 : decode cX7_lost 22 = .ok (.ireturn, 1) := by decide +kernel
theorem dX7_lost_23 : decode cX7_lost 23 = .ok (.aload_n 0, 1) := by decide +kernel
theorem dX7_lost_24 : decode cX7_lost 24 = .ok (.invokevirtual 197, 3) := by decide +kernel
theorem dX7_lost_27 : decode cX7_lost 27 = .ok (.ldc 194, 2) := by decide +kernel
theorem dX7_lost_29 : decode cX7_lost 29 = .ok (.istore_n 2, 1) := by decide +kernel
theorem dX7_lost_30 : decode cX7_lost 30 = .ok (.iconst 0, 1) := by decide +kernel
theorem dX7_lost_31 : decode cX7_lost 31 = .ok (.istore_n 3, 1) := by decide +kernel
theorem dX7_lost_32 : decode cX7_lost 32 = .ok (.iload_n 3, 1) := by decide +kernel
theorem dX7_lost_33 : decode cX7_lost 33 = .ok (.bipush 60, 2) := by decide +kernel
theorem dX7_lost_35 : decode cX7_lost 35 = .ok (.if_icmp .ge 63, 3) := by decide +kernel
theorem dX7_lost_38 : decode cX7_lost 38 = .ok (.iload_n 2, 1) := by decide +kernel
theorem dX7_lost_39 : decode cX7_lost 39 = .ok (.ifCond .ge 59, 3) := by decide +kernel
theorem dX7_lost_42 : decode cX7_lost 42 = .ok (.aload_n 0, 1) := by decide +kernel
theorem dX7_lost_43 : decode cX7_lost 43 = .ok (.invokevirtual 173, 3) := by decide +kernel
theorem dX7_lost_46 : decode cX7_lost 46 = .ok (.iinc 3 1, 3) := by decide +kernel
theorem dX7_lost_49 : decode cX7_lost 49 = .ok (.aload_n 0, 1) := by decide +kernel
theorem dX7_lost_50 : decode cX7_lost 50 = .ok (.getfield 19, 3) := by decide +kernel
theorem dX7_lost_53 : decode cX7_lost 53 = .ok (.iconst 2, 1) := by decide +kernel
theorem dX7_lost_54 : decode cX7_lost 54 = .ok (.iaload, 1) := by decide +kernel
theorem dX7_lost_55 : decode cX7_lost 55 = .ok (.iconst 1, 1) := by decide +kernel
theorem dX7_lost_56 : decode cX7_lost 56 = .ok (.isub, 1) := by decide +kernel
theorem dX7_lost_57 : decode cX7_lost 57 = .ok (.istore 4, 2) := by decide +kernel
theorem dX7_lost_59 : decode cX7_lost 59 = .ok (.iload 4, 2) := by decide +kernel
theorem dX7_lost_61 : decode cX7_lost 61 = .ok (.ifCond .lt 34, 3) := by decide +kernel
theorem dX7_lost_64 : decode cX7_lost 64 = .ok (.aload_n 0, 1) := by decide +kernel
theorem dX7_lost_65 : decode cX7_lost 65 = .ok (.iload 4, 2) := by decide +kernel
theorem dX7_lost_67 : decode cX7_lost 67 = .ok (.invokevirtual 183, 3) := by decide +kernel
theorem dX7_lost_70 : decode cX7_lost 70 = .ok (.ifCond .eq 17, 3) := by decide +kernel
theorem dX7_lost_73 : decode cX7_lost 73 = .ok (.aload_n 0, 1) := by decide +kernel
theorem dX7_lost_74 : decode cX7_lost 74 = .ok (.iload 4, 2) := by decide +kernel
theorem dX7_lost_76 : decode cX7_lost 76 = .ok (.invokevirtual 191, 3) := by decide +kernel
theorem dX7_lost_79 : decode cX7_lost 79 = .ok (.ifCond .ne 8, 3) := by decide +kernel
theorem dX7_lost_82 : decode cX7_lost 82 = .ok (.iload 4, 2) := by decide +kernel
theorem dX7_lost_84 : decode cX7_lost 84 = .ok (.goto 4, 3) := by decide +kernel
theorem dX7_lost_87 : decode cX7_lost 87 = .ok (.iload_n 2, 1) := by decide +kernel
theorem dX7_lost_88 : decode cX7_lost 88 = .ok (.istore_n 2, 1) := by decide +kernel
theorem dX7_lost_89 : decode cX7_lost 89 = .ok (.iinc 4 (-1), 3) := by decide +kernel
theorem dX7_lost_92 : decode cX7_lost 92 = .ok (.goto (-33), 3) := by decide +kernel
theorem dX7_lost_95 : decode cX7_lost 95 = .ok (.goto (-63), 3) := by decide +kernel
theorem dX7_lost_98 : decode cX7_lost 98 = .ok (.aload_n 0, 1) := by decide +kernel
theorem dX7_lost_99 : decode cX7_lost 99 = .ok (.invokevirtual 200, 3) := by decide +kernel
theorem dX7_lost_102 : decode cX7_lost 102 = .ok (.iload_n 2, 1) := by decide +kernel
theorem dX7_lost_103 : decode cX7_lost 103 = .ok (.ifCond .ge 8, 3) := by decide +kernel
theorem dX7_lost_106 : decode cX7_lost 106 = .ok (.ldc 194, 2) := by decide +kernel
theorem dX7_lost_108 : decode cX7_lost 108 = .ok (.goto 12, 3) := by decide +kernel
theorem dX7_lost_111 : decode cX7_lost 111 = .ok (.iload_n 1, 1) := by decide +kernel
theorem dX7_lost_112 : decode cX7_lost 112 = .ok (.ifCond .ne 7, 3) := by decide +kernel
theorem dX7_lost_115 : decode cX7_lost 115 = .ok (.iload_n 3, 1) := by decide +kernel
theorem dX7_lost_116 : decode cX7_lost 116 = .ok (.goto 4, 3) := by decide +kernel
theorem dX7_lost_119 : decode cX7_lost 119 = .ok (.iload_n 2, 1) := by decide +kernel
theorem dX7_lost_120 : decode cX7_lost 120 = .ok (.ireturn, 1) := by decide +kernel
theorem dX7_comes_0 : decode cX7_comes 0 = .ok (.iload_n 2, 1) := by decide +kernel
theorem dX7_comes_1 : decode cX7_comes 1 = .ok (.aload_n 0, 1) := by decide +kernel
theorem dX7_comes_2 : decode cX7_comes 2 = .ok (.getfield 43, 3) := by decide +kernel
theorem dX7_comes_5 : decode cX7_comes 5 = .ok (.iload_n 1, 1) := by decide +kernel
theorem dX7_comes_6 : decode cX7_comes 6 = .ok (.iaload, 1) := by decide +kernel
theorem dX7_comes_7 : decode cX7_comes 7 = .ok (.if_icmp .lt 23, 3) := by decide +kernel
theorem dX7_comes_10 : decode cX7_comes 10 = .ok (.iload_n 2, 1) := by decide +kernel
theorem dX7_comes_11 : decode cX7_comes 11 = .ok (.aload_n 0, 1) := by decide +kernel
theorem dX7_comes_12 : decode cX7_comes 12 = .ok (.getfield 43, 3) := by decide +kernel
theorem dX7_comes_15 : decode cX7_comes 15 = .ok (.iload_n 1, 1) := by decide +kernel
theorem dX7_comes_16 : decode cX7_comes 16 = .ok (.iaload, 1) := by decide +kernel
theorem dX7_comes_17 : decode cX7_comes 17 = .ok (.if_icmp .ne 27, 3) := by decide +kernel
theorem dX7_comes_20 : decode cX7_comes 20 = .ok (.iload_n 3, 1) := by decide +kernel
theorem dX7_comes_21 : decode cX7_comes 21 = .ok (.aload_n 0, 1) := by decide +kernel
theorem dX7_comes_22 : decode cX7_comes 22 = .ok (.getfield 46, 3) := by decide +kernel
theorem dX7_comes_25 : decode cX7_comes 25 = .ok (.iload_n 1, 1) := by decide +kernel
theorem dX7_comes_26 : decode cX7_comes 26 = .ok (.iaload, 1) := by decide +kernel
theorem dX7_comes_27 : decode cX7_comes 27 = .ok (.if_icmp .ge 17, 3) := by decide +kernel
theorem dX7_comes_30 : decode cX7_comes 30 = .ok (.aload_n 0, 1) := by decide +kernel
theorem dX7_comes_31 : decode cX7_comes 31 = .ok (.getfield 43, 3) := by decide +kernel
theorem dX7_comes_34 : decode cX7_comes 34 = .ok (.iload_n 1, 1) := by decide +kernel
theorem dX7_comes_35 : decode cX7_comes 35 = .ok (.iload_n 2, 1) := by decide +kernel
theorem dX7_comes_36 : decode cX7_comes 36 = .ok (.iastore, 1) := by decide +kernel
theorem dX7_comes_37 : decode cX7_comes 37 = .ok (.aload_n 0, 1) := by decide +kernel
theorem dX7_comes_38 : decode cX7_comes 38 = .ok (.getfield 46, 3) := by decide +kernel
theorem dX7_comes_41 : decode cX7_comes 41 = .ok (.iload_n 1, 1) := by decide +kernel
theorem dX7_comes_42 : decode cX7_comes 42 = .ok (.iload_n 3, 1) := by decide +kernel
theorem dX7_comes_43 : decode cX7_comes 43 = .ok (.iastore, 1) := by decide +kernel
theorem dX7_comes_44 : decode cX7_comes 44 = .ok (.return_, 1) := by decide +kernel
theorem dX7_nextDay_0 : decode cX7_nextDay 0 = .ok (.iconst 0, 1) := by decide +kernel
theorem dX7_nextDay_1 : decode cX7_nextDay 1 = .ok (.istore_n 3, 1) := by decide +kernel
theorem dX7_nextDay_2 : decode cX7_nextDay 2 = .ok (.iload_n 3, 1) := by decide +kernel
theorem dX7_nextDay_3 : decode cX7_nextDay 3 = .ok (.bipush 99, 2) := by decide +kernel
theorem dX7_nextDay_5 : decode cX7_nextDay 5 = .ok (.if_icmp .gt 24, 3) := by decide +kernel
theorem dX7_nextDay_8 : decode cX7_nextDay 8 = .ok (.aload_n 0, 1) := by decide +kernel
theorem dX7_nextDay_9 : decode cX7_nextDay 9 = .ok (.getfield 43, 3) := by decide +kernel
theorem dX7_nextDay_12 : decode cX7_nextDay 12 = .ok (.iload_n 3, 1) := by decide +kernel
theorem dX7_nextDay_13 : decode cX7_nextDay 13 = .ok (.ldc 203, 2) := by decide +kernel
theorem dX7_nextDay_15 : decode cX7_nextDay 15 = .ok (.iastore, 1) := by decide +kernel
theorem dX7_nextDay_16 : decode cX7_nextDay 16 = .ok (.aload_n 0, 1) := by decide +kernel
theorem dX7_nextDay_17 : decode cX7_nextDay 17 = .ok (.getfield 46, 3) := by decide +kernel
theorem dX7_nextDay_20 : decode cX7_nextDay 20 = .ok (.iload_n 3, 1) := by decide +kernel
theorem dX7_nextDay_21 : decode cX7_nextDay 21 = .ok (.iconst 0, 1) := by decide +kernel
theorem dX7_nextDay_22 : decode cX7_nextDay 22 = .ok (.iastore, 1) := by decide +kernel
theorem dX7_nextDay_23 : decode cX7_nextDay 23 = .ok (.iinc 3 1, 3) := by decide +kernel
theorem dX7_nextDay_26 : decode cX7_nextDay 26 = .ok (.goto (-24), 3) := by decide +kernel
theorem dX7_nextDay_29 : decode cX7_nextDay 29 = .ok (.iconst 0, 1) := by decide +kernel
theorem dX7_nextDay_30 : decode cX7_nextDay 30 = .ok (.istore_n 3, 1) := by decide +kernel
theorem dX7_nextDay_31 : decode cX7_nextDay 31 = .ok (.iload_n 3, 1) := by decide +kernel
theorem dX7_nextDay_32 : decode cX7_nextDay 32 = .ok (.bipush 99, 2) := by decide +kernel
theorem dX7_nextDay_34 : decode cX7_nextDay 34 = .ok (.if_icmp .gt 107, 3) := by decide +kernel
theorem dX7_nextDay_37 : decode cX7_nextDay 37 = .ok (.aload_n 0, 1) := by decide +kernel
theorem dX7_nextDay_38 : decode cX7_nextDay 38 = .ok (.getfield 37, 3) := by decide +kernel
theorem dX7_nextDay_41 : decode cX7_nextDay 41 = .ok (.iload_n 3, 1) := by decide +kernel
theorem dX7_nextDay_42 : decode cX7_nextDay 42 = .ok (.iaload, 1) := by decide +kernel
theorem dX7_nextDay_43 : decode cX7_nextDay 43 = .ok (.ldc 203, 2) := by decide +kernel
theorem dX7_nextDay_45 : decode cX7_nextDay 45 = .ok (.if_icmp .ge 90, 3) := by decide +kernel
theorem dX7_nextDay_48 : decode cX7_nextDay 48 = .ok (.aload_n 0, 1) := by decide +kernel
theorem dX7_nextDay_49 : decode cX7_nextDay 49 = .ok (.iload_n 1, 1) := by decide +kernel
theorem dX7_nextDay_50 : decode cX7_nextDay 50 = .ok (.iload_n 3, 1) := by decide +kernel
theorem dX7_nextDay_51 : decode cX7_nextDay 51 = .ok (.aload_n 0, 1) := by decide +kernel
theorem dX7_nextDay_52 : decode cX7_nextDay 52 = .ok (.getfield 19, 3) := by decide +kernel
theorem dX7_nextDay_55 : decode cX7_nextDay 55 = .ok (.iconst 3, 1) := by decide +kernel
theorem dX7_nextDay_56 : decode cX7_nextDay 56 = .ok (.iaload, 1) := by decide +kernel
theorem dX7_nextDay_57 : decode cX7_nextDay 57 = .ok (.iload_n 2, 1) := by decide +kernel
theorem dX7_nextDay_58 : decode cX7_nextDay 58 = .ok (.iadd, 1) := by decide +kernel
theorem dX7_nextDay_59 : decode cX7_nextDay 59 = .ok (.invokevirtual 157, 3) := by decide +kernel
theorem dX7_nextDay_62 : decode cX7_nextDay 62 = .ok (.istore 4, 2) := by decide +kernel
theorem dX7_nextDay_64 : decode cX7_nextDay 64 = .ok (.aload_n 0, 1) := by decide +kernel
theorem dX7_nextDay_65 : decode cX7_nextDay 65 = .ok (.iload_n 1, 1) := by decide +kernel
theorem dX7_nextDay_66 : decode cX7_nextDay 66 = .ok (.iload 4, 2) := by decide +kernel
theorem dX7_nextDay_68 : decode cX7_nextDay 68 = .ok (.invokevirtual 161, 3) := by decide +kernel
theorem dX7_nextDay_71 : decode cX7_nextDay 71 = .ok (.aload_n 0, 1) := by decide +kernel
theorem dX7_nextDay_72 : decode cX7_nextDay 72 = .ok (.getfield 19, 3) := by decide +kernel
theorem dX7_nextDay_75 : decode cX7_nextDay 75 = .ok (.iconst 0, 1) := by decide +kernel
theorem dX7_nextDay_76 : decode cX7_nextDay 76 = .ok (.iaload, 1) := by decide +kernel
theorem dX7_nextDay_77 : decode cX7_nextDay 77 = .ok (.if_icmp .gt 21, 3) := by decide +kernel
theorem dX7_nextDay_80 : decode cX7_nextDay 80 = .ok (.aload_n 0, 1) := by decide +kernel
theorem dX7_nextDay_81 : decode cX7_nextDay 81 = .ok (.iload 4, 2) := by decide +kernel
theorem dX7_nextDay_83 : decode cX7_nextDay 83 = .ok (.aload_n 0, 1) := by decide +kernel
theorem dX7_nextDay_84 : decode cX7_nextDay 84 = .ok (.getfield 37, 3) := by decide +kernel
theorem dX7_nextDay_87 : decode cX7_nextDay 87 = .ok (.iload_n 3, 1) := by decide +kernel
theorem dX7_nextDay_88 : decode cX7_nextDay 88 = .ok (.iaload, 1) := by decide +kernel
theorem dX7_nextDay_89 : decode cX7_nextDay 89 = .ok (.aload_n 0, 1) := by decide +kernel
theorem dX7_nextDay_90 : decode cX7_nextDay 90 = .ok (.getfield 40, 3) := by decide +kernel
theorem dX7_nextDay_93 : decode cX7_nextDay 93 = .ok (.iload_n 3, 1) := by decide +kernel
theorem dX7_nextDay_94 : decode cX7_nextDay 94 = .ok (.iaload, 1) := by decide +kernel
theorem dX7_nextDay_95 : decode cX7_nextDay 95 = .ok (.invokevirtual 204, 3) := by decide +kernel
theorem dX7_nextDay_98 : decode cX7_nextDay 98 = .ok (.aload_n 0, 1) := by decide +kernel
theorem dX7_nextDay_99 : decode cX7_nextDay 99 = .ok (.aload_n 0, 1) := by decide +kernel
theorem dX7_nextDay_100 : decode cX7_nextDay 100 = .ok (.getfield 19, 3) := by decide +kernel
theorem dX7_nextDay_103 : decode cX7_nextDay 103 = .ok (.bipush 11, 2) := by decide +kernel
theorem dX7_nextDay_105 : decode cX7_nextDay 105 = .ok (.iload_n 1, 1) := by decide +kernel
theorem dX7_nextDay_106 : decode cX7_nextDay 106 = .ok (.iadd, 1) := by decide +kernel
theorem dX7_nextDay_107 : decode cX7_nextDay 107 = .ok (.iaload, 1) := by decide +kernel
theorem dX7_nextDay_108 : decode cX7_nextDay 108 = .ok (.aload_n 0, 1) := by decide +kernel
theorem dX7_nextDay_109 : decode cX7_nextDay 109 = .ok (.getfield 37, 3) := by decide +kernel
theorem dX7_nextDay_112 : decode cX7_nextDay 112 = .ok (.iload_n 3, 1) := by decide +kernel
theorem dX7_nextDay_113 : decode cX7_nextDay 113 = .ok (.iaload, 1) := by decide +kernel
theorem dX7_nextDay_114 : decode cX7_nextDay 114 = .ok (.aload_n 0, 1) := by decide +kernel
theorem dX7_nextDay_115 : decode cX7_nextDay 115 = .ok (.iload_n 1, 1) := by decide +kernel
theorem dX7_nextDay_116 : decode cX7_nextDay 116 = .ok (.iload 4, 2) := by decide +kernel
theorem dX7_nextDay_118 : decode cX7_nextDay 118 = .ok (.invokevirtual 186, 3) := by decide +kernel
theorem dX7_nextDay_121 : decode cX7_nextDay 121 = .ok (.iadd, 1) := by decide +kernel
theorem dX7_nextDay_122 : decode cX7_nextDay 122 = .ok (.aload_n 0, 1) := by decide +kernel
theorem dX7_nextDay_123 : decode cX7_nextDay 123 = .ok (.getfield 40, 3) := by decide +kernel
theorem dX7_nextDay_126 : decode cX7_nextDay 126 = .ok (.iload_n 3, 1) := by decide +kernel
theorem dX7_nextDay_127 : decode cX7_nextDay 127 = .ok (.iaload, 1) := by decide +kernel
theorem dX7_nextDay_128 : decode cX7_nextDay 128 = .ok (.iconst 1, 1) := by decide +kernel
theorem dX7_nextDay_129 : decode cX7_nextDay 129 = .ok (.iload_n 2, 1) := by decide +kernel
theorem dX7_nextDay_130 : decode cX7_nextDay 130 = .ok (.ishl, 1) := by decide +kernel
theorem dX7_nextDay_131 : decode cX7_nextDay 131 = .ok (.ior, 1) := by decide +kernel
theorem dX7_nextDay_132 : decode cX7_nextDay 132 = .ok (.invokevirtual 204, 3) := by decide +kernel
theorem dX7_nextDay_135 : decode cX7_nextDay 135 = .ok (.iinc 3 1, 3) := by decide +kernel
theorem dX7_nextDay_138 : decode cX7_nextDay 138 = .ok (.goto (-107), 3) := by decide +kernel
theorem dX7_nextDay_141 : decode cX7_nextDay 141 = .ok (.iconst 0, 1) := by decide +kernel
theorem dX7_nextDay_142 : decode cX7_nextDay 142 = .ok (.istore_n 3, 1) := by decide +kernel
theorem dX7_nextDay_143 : decode cX7_nextDay 143 = .ok (.iload_n 3, 1) := by decide +kernel
theorem dX7_nextDay_144 : decode cX7_nextDay 144 = .ok (.bipush 99, 2) := by decide +kernel
theorem dX7_nextDay_146 : decode cX7_nextDay 146 = .ok (.if_icmp .gt 33, 3) := by decide +kernel
theorem dX7_nextDay_149 : decode cX7_nextDay 149 = .ok (.aload_n 0, 1) := by decide +kernel
theorem dX7_nextDay_150 : decode cX7_nextDay 150 = .ok (.getfield 37, 3) := by decide +kernel
theorem dX7_nextDay_153 : decode cX7_nextDay 153 = .ok (.iload_n 3, 1) := by decide +kernel
theorem dX7_nextDay_154 : decode cX7_nextDay 154 = .ok (.aload_n 0, 1) := by decide +kernel
theorem dX7_nextDay_155 : decode cX7_nextDay 155 = .ok (.getfield 43, 3) := by decide +kernel
theorem dX7_nextDay_158 : decode cX7_nextDay 158 = .ok (.iload_n 3, 1) := by decide +kernel
theorem dX7_nextDay_159 : decode cX7_nextDay 159 = .ok (.iaload, 1) := by decide +kernel
theorem dX7_nextDay_160 : decode cX7_nextDay 160 = .ok (.iastore, 1) := by decide +kernel
theorem dX7_nextDay_161 : decode cX7_nextDay 161 = .ok (.aload_n 0, 1) := by decide +kernel
theorem dX7_nextDay_162 : decode cX7_nextDay 162 = .ok (.getfield 40, 3) := by decide +kernel
theorem dX7_nextDay_165 : decode cX7_nextDay 165 = .ok (.iload_n 3, 1) := by decide +kernel
theorem dX7_nextDay_166 : decode cX7_nextDay 166 = .ok (.aload_n 0, 1) := by decide +kernel
theorem dX7_nextDay_167 : decode cX7_nextDay 167 = .ok (.getfield 46, 3) := by decide +kernel
theorem dX7_nextDay_170 : decode cX7_nextDay 170 = .ok (.iload_n 3, 1) := by decide +kernel
theorem dX7_nextDay_171 : decode cX7_nextDay 171 = .ok (.iaload, 1) := by decide +kernel
theorem dX7_nextDay_172 : decode cX7_nextDay 172 = .ok (.iastore, 1) := by decide +kernel
theorem dX7_nextDay_173 : decode cX7_nextDay 173 = .ok (.iinc 3 1, 3) := by decide +kernel
theorem dX7_nextDay_176 : decode cX7_nextDay 176 = .ok (.goto (-33), 3) := by decide +kernel
theorem dX7_nextDay_179 : decode cX7_nextDay 179 = .ok (.return_, 1) := by decide +kernel
theorem dX7_cheapest_0 : decode cX7_cheapest 0 = .ok (.aload_n 0, 1) := by decide +kernel
theorem dX7_cheapest_1 : decode cX7_cheapest 1 = .ok (.iload_n 1, 1) := by decide +kernel
theorem dX7_cheapest_2 : decode cX7_cheapest 2 = .ok (.invokevirtual 180, 3) := by decide +kernel
theorem dX7_cheapest_5 : decode cX7_cheapest 5 = .ok (.ifCond .eq 25, 3) := by decide +kernel
theorem dX7_cheapest_8 : decode cX7_cheapest 8 = .ok (.iload_n 2, 1) := by decide +kernel
theorem dX7_cheapest_9 : decode cX7_cheapest 9 = .ok (.i2l, 1) := by decide +kernel
theorem dX7_cheapest_10 : decode cX7_cheapest 10 = .ok (.lconst 1, 1) := by decide +kernel
theorem dX7_cheapest_11 : decode cX7_cheapest 11 = .ok (.ldc2_w 168, 3) := by decide +kernel
theorem dX7_cheapest_14 : decode cX7_cheapest 14 = .ok (.invokestatic 69, 3) := by decide +kernel
theorem dX7_cheapest_17 : decode cX7_cheapest 17 = .ok (.ifCond .eq 13, 3) := by decide +kernel
theorem dX7_cheapest_20 : decode cX7_cheapest 20 = .ok (.iload_n 3, 1) := by decide +kernel
theorem dX7_cheapest_21 : decode cX7_cheapest 21 = .ok (.i2l, 1) := by decide +kernel
theorem dX7_cheapest_22 : decode cX7_cheapest 22 = .ok (.lconst 0, 1) := by decide +kernel
theorem dX7_cheapest_23 : decode cX7_cheapest 23 = .ok (.lconst 1, 1) := by decide +kernel
theorem dX7_cheapest_24 : decode cX7_cheapest 24 = .ok (.invokestatic 69, 3) := by decide +kernel
theorem dX7_cheapest_27 : decode cX7_cheapest 27 = .ok (.ifCond .ne 6, 3) := by decide +kernel
theorem dX7_cheapest_30 : decode cX7_cheapest 30 = .ok (.ldc 79, 2) := by decide +kernel
theorem dX7_cheapest_32 : decode cX7_cheapest 32 = .ok (.ireturn, 1) := by decide +kernel
theorem dX7_cheapest_33 : decode cX7_cheapest 33 = .ok (.aload_n 0, 1) := by decide +kernel
theorem dX7_cheapest_34 : decode cX7_cheapest 34 = .ok (.iload_n 1, 1) := by decide +kernel
theorem dX7_cheapest_35 : decode cX7_cheapest 35 = .ok (.invokevirtual 183, 3) := by decide +kernel
theorem dX7_cheapest_38 : decode cX7_cheapest 38 = .ok (.ifCond .eq 6, 3) := by decide +kernel
theorem dX7_cheapest_41 : decode cX7_cheapest 41 = .ok (.ldc 167, 2) := by decide +kernel
theorem dX7_cheapest_43 : decode cX7_cheapest 43 = .ok (.ireturn, 1) := by decide +kernel
theorem dX7_cheapest_44 : decode cX7_cheapest 44 = .ok (.iconst 0, 1) := by decide +kernel
theorem dX7_cheapest_45 : decode cX7_cheapest 45 = .ok (.istore 4, 2) := by decide +kernel
theorem dX7_cheapest_47 : decode cX7_cheapest 47 = .ok (.iload 4, 2) := by decide +kernel
theorem dX7_cheapest_49 : decode cX7_cheapest 49 = .ok (.bipush 99, 2) := by decide +kernel
theorem dX7_cheapest_51 : decode cX7_cheapest 51 = .ok (.if_icmp .gt 44, 3) := by decide +kernel
theorem dX7_cheapest_54 : decode cX7_cheapest 54 = .ok (.aload_n 0, 1) := by decide +kernel
theorem dX7_cheapest_55 : decode cX7_cheapest 55 = .ok (.getfield 37, 3) := by decide +kernel
theorem dX7_cheapest_58 : decode cX7_cheapest 58 = .ok (.iload 4, 2) := by decide +kernel
theorem dX7_cheapest_60 : decode cX7_cheapest 60 = .ok (.iload 4, 2) := by decide +kernel
theorem dX7_cheapest_62 : decode cX7_cheapest 62 = .ok (.aload_n 0, 1) := by decide +kernel
theorem dX7_cheapest_63 : decode cX7_cheapest 63 = .ok (.getfield 19, 3) := by decide +kernel
theorem dX7_cheapest_66 : decode cX7_cheapest 66 = .ok (.bipush 35, 2) := by decide +kernel
theorem dX7_cheapest_68 : decode cX7_cheapest 68 = .ok (.iload_n 1, 1) := by decide +kernel
theorem dX7_cheapest_69 : decode cX7_cheapest 69 = .ok (.iadd, 1) := by decide +kernel
theorem dX7_cheapest_70 : decode cX7_cheapest 70 = .ok (.iaload, 1) := by decide +kernel
theorem dX7_cheapest_71 : decode cX7_cheapest 71 = .ok (.if_icmp .ne 7, 3) := by decide +kernel
theorem dX7_cheapest_74 : decode cX7_cheapest 74 = .ok (.iconst 0, 1) := by decide +kernel
theorem dX7_cheapest_75 : decode cX7_cheapest 75 = .ok (.goto 5, 3) := by decide +kernel
theorem dX7_cheapest_78 : decode cX7_cheapest 78 = .ok (.ldc 203, 2) := by decide +kernel
theorem dX7_cheapest_80 : decode cX7_cheapest 80 = .ok (.iastore, 1) := by decide +kernel
theorem dX7_cheapest_81 : decode cX7_cheapest 81 = .ok (.aload_n 0, 1) := by decide +kernel
theorem dX7_cheapest_82 : decode cX7_cheapest 82 = .ok (.getfield 40, 3) := by decide +kernel
theorem dX7_cheapest_85 : decode cX7_cheapest 85 = .ok (.iload 4, 2) := by decide +kernel
theorem dX7_cheapest_87 : decode cX7_cheapest 87 = .ok (.iconst 0, 1) := by decide +kernel
theorem dX7_cheapest_88 : decode cX7_cheapest 88 = .ok (.iastore, 1) := by decide +kernel
theorem dX7_cheapest_89 : decode cX7_cheapest 89 = .ok (.iinc 4 1, 3) := by decide +kernel
theorem dX7_cheapest_92 : decode cX7_cheapest 92 = .ok (.goto (-45), 3) := by decide +kernel
theorem dX7_cheapest_95 : decode cX7_cheapest 95 = .ok (.iconst 0, 1) := by decide +kernel
theorem dX7_cheapest_96 : decode cX7_cheapest 96 = .ok (.istore 4, 2) := by decide +kernel
theorem dX7_cheapest_98 : decode cX7_cheapest 98 = .ok (.iload 4, 2) := by decide +kernel
theorem dX7_cheapest_100 : decode cX7_cheapest 100 = .ok (.iload_n 2, 1) := by decide +kernel
theorem dX7_cheapest_101 : decode cX7_cheapest 101 = .ok (.if_icmp .ge 16, 3) := by decide +kernel
theorem dX7_cheapest_104 : decode cX7_cheapest 104 = .ok (.aload_n 0, 1) := by decide +kernel
theorem dX7_cheapest_105 : decode cX7_cheapest 105 = .ok (.iload_n 1, 1) := by decide +kernel
theorem dX7_cheapest_106 : decode cX7_cheapest 106 = .ok (.iload 4, 2) := by decide +kernel
theorem dX7_cheapest_108 : decode cX7_cheapest 108 = .ok (.invokevirtual 208, 3) := by decide +kernel
theorem dX7_cheapest_111 : decode cX7_cheapest 111 = .ok (.iinc 4 1, 3) := by decide +kernel
theorem dX7_cheapest_114 : decode cX7_cheapest 114 = .ok (.goto (-16), 3) := by decide +kernel
theorem dX7_cheapest_117 : decode cX7_cheapest 117 = .ok (.aload_n 0, 1) := by decide +kernel
theorem dX7_cheapest_118 : decode cX7_cheapest 118 = .ok (.getfield 19, 3) := by decide +kernel
theorem dX7_cheapest_121 : decode cX7_cheapest 121 = .ok (.bipush 11, 2) := by decide +kernel
theorem dX7_cheapest_123 : decode cX7_cheapest 123 = .ok (.iload_n 1, 1) := by decide +kernel
theorem dX7_cheapest_124 : decode cX7_cheapest 124 = .ok (.iadd, 1) := by decide +kernel
theorem dX7_cheapest_125 : decode cX7_cheapest 125 = .ok (.iaload, 1) := by decide +kernel
theorem dX7_cheapest_126 : decode cX7_cheapest 126 = .ok (.istore 4, 2) := by decide +kernel
theorem dX7_cheapest_128 : decode cX7_cheapest 128 = .ok (.iconst 0, 1) := by decide +kernel
theorem dX7_cheapest_129 : decode cX7_cheapest 129 = .ok (.istore 5, 2) := by decide +kernel
theorem dX7_cheapest_131 : decode cX7_cheapest 131 = .ok (.iload 5, 2) := by decide +kernel
theorem dX7_cheapest_133 : decode cX7_cheapest 133 = .ok (.bipush 99, 2) := by decide +kernel
theorem dX7_cheapest_135 : decode cX7_cheapest 135 = .ok (.if_icmp .gt 81, 3) := by decide +kernel
theorem dX7_cheapest_138 : decode cX7_cheapest 138 = .ok (.aload_n 0, 1) := by decide +kernel
theorem dX7_cheapest_139 : decode cX7_cheapest 139 = .ok (.getfield 37, 3) := by decide +kernel
theorem dX7_cheapest_142 : decode cX7_cheapest 142 = .ok (.iload 5, 2) := by decide +kernel
theorem dX7_cheapest_144 : decode cX7_cheapest 144 = .ok (.iaload, 1) := by decide +kernel
theorem dX7_cheapest_145 : decode cX7_cheapest 145 = .ok (.aload_n 0, 1) := by decide +kernel
theorem dX7_cheapest_146 : decode cX7_cheapest 146 = .ok (.getfield 37, 3) := by decide +kernel
theorem dX7_cheapest_149 : decode cX7_cheapest 149 = .ok (.iload 4, 2) := by decide +kernel
theorem dX7_cheapest_151 : decode cX7_cheapest 151 = .ok (.iaload, 1) := by decide +kernel
theorem dX7_cheapest_152 : decode cX7_cheapest 152 = .ok (.if_icmp .lt 37, 3) := by decide +kernel
theorem dX7_cheapest_155 : decode cX7_cheapest 155 = .ok (.aload_n 0, 1) := by decide +kernel
theorem dX7_cheapest_156 : decode cX7_cheapest 156 = .ok (.getfield 37, 3) := by decide +kernel
theorem dX7_cheapest_159 : decode cX7_cheapest 159 = .ok (.iload 5, 2) := by decide +kernel
theorem dX7_cheapest_161 : decode cX7_cheapest 161 = .ok (.iaload, 1) := by decide +kernel
theorem dX7_cheapest_162 : decode cX7_cheapest 162 = .ok (.aload_n 0, 1) := by decide +kernel
theorem dX7_cheapest_163 : decode cX7_cheapest 163 = .ok (.getfield 37, 3) := by decide +kernel
theorem dX7_cheapest_166 : decode cX7_cheapest 166 = .ok (.iload 4, 2) := by decide +kernel
theorem dX7_cheapest_168 : decode cX7_cheapest 168 = .ok (.iaload, 1) := by decide +kernel
theorem dX7_cheapest_169 : decode cX7_cheapest 169 = .ok (.if_icmp .ne 24, 3) := by decide +kernel
theorem dX7_cheapest_172 : decode cX7_cheapest 172 = .ok (.aload_n 0, 1) := by decide +kernel
theorem dX7_cheapest_173 : decode cX7_cheapest 173 = .ok (.getfield 40, 3) := by decide +kernel
theorem dX7_cheapest_176 : decode cX7_cheapest 176 = .ok (.iload 5, 2) := by decide +kernel
theorem dX7_cheapest_178 : decode cX7_cheapest 178 = .ok (.iaload, 1) := by decide +kernel
theorem dX7_cheapest_179 : decode cX7_cheapest 179 = .ok (.aload_n 0, 1) := by decide +kernel
theorem dX7_cheapest_180 : decode cX7_cheapest 180 = .ok (.getfield 40, 3) := by decide +kernel
theorem dX7_cheapest_183 : decode cX7_cheapest 183 = .ok (.iload 4, 2) := by decide +kernel
theorem dX7_cheapest_185 : decode cX7_cheapest 185 = .ok (.iaload, 1) := by decide +kernel
theorem dX7_cheapest_186 : decode cX7_cheapest 186 = .ok (.if_icmp .ge 7, 3) := by decide +kernel
theorem dX7_cheapest_189 : decode cX7_cheapest 189 = .ok (.iconst 1, 1) := by decide +kernel
theorem dX7_cheapest_190 : decode cX7_cheapest 190 = .ok (.goto 4, 3) := by decide +kernel
theorem dX7_cheapest_193 : decode cX7_cheapest 193 = .ok (.iconst 0, 1) := by decide +kernel
theorem dX7_cheapest_194 : decode cX7_cheapest 194 = .ok (.istore 6, 2) := by decide +kernel
theorem dX7_cheapest_196 : decode cX7_cheapest 196 = .ok (.iload 6, 2) := by decide +kernel
theorem dX7_cheapest_198 : decode cX7_cheapest 198 = .ok (.ifCond .eq 8, 3) := by decide +kernel
theorem dX7_cheapest_201 : decode cX7_cheapest 201 = .ok (.iload 5, 2) := by decide +kernel
theorem dX7_cheapest_203 : decode cX7_cheapest 203 = .ok (.goto 5, 3) := by decide +kernel
theorem dX7_cheapest_206 : decode cX7_cheapest 206 = .ok (.iload 4, 2) := by decide +kernel
theorem dX7_cheapest_208 : decode cX7_cheapest 208 = .ok (.istore 4, 2) := by decide +kernel
theorem dX7_cheapest_210 : decode cX7_cheapest 210 = .ok (.iinc 5 1, 3) := by decide +kernel
theorem dX7_cheapest_213 : decode cX7_cheapest 213 = .ok (.goto (-82), 3) := by decide +kernel
theorem dX7_cheapest_216 : decode cX7_cheapest 216 = .ok (.iload_n 3, 1) := by decide +kernel
theorem dX7_cheapest_217 : decode cX7_cheapest 217 = .ok (.ifCond .ne 13, 3) := by decide +kernel
theorem dX7_cheapest_220 : decode cX7_cheapest 220 = .ok (.aload_n 0, 1) := by decide +kernel
theorem dX7_cheapest_221 : decode cX7_cheapest 221 = .ok (.getfield 37, 3) := by decide +kernel
theorem dX7_cheapest_224 : decode cX7_cheapest 224 = .ok (.iload 4, 2) := by decide +kernel
theorem dX7_cheapest_226 : decode cX7_cheapest 226 = .ok (.iaload, 1) := by decide +kernel
theorem dX7_cheapest_227 : decode cX7_cheapest 227 = .ok (.goto 10, 3) := by decide +kernel
theorem dX7_cheapest_230 : decode cX7_cheapest 230 = .ok (.aload_n 0, 1) := by decide +kernel
theorem dX7_cheapest_231 : decode cX7_cheapest 231 = .ok (.getfield 40, 3) := by decide +kernel
theorem dX7_cheapest_234 : decode cX7_cheapest 234 = .ok (.iload 4, 2) := by decide +kernel
theorem dX7_cheapest_236 : decode cX7_cheapest 236 = .ok (.iaload, 1) := by decide +kernel
theorem dX7_cheapest_237 : decode cX7_cheapest 237 = .ok (.ireturn, 1) := by decide +kernel
theorem dX7_offBy_0 : decode cX7_offBy 0 = .ok (.iload_n 1, 1) := by decide +kernel
theorem dX7_offBy_1 : decode cX7_offBy 1 = .ok (.istore_n 2, 1) := by decide +kernel
theorem dX7_offBy_2 : decode cX7_offBy 2 = .ok (.iconst 0, 1) := by decide +kernel
theorem dX7_offBy_3 : decode cX7_offBy 3 = .ok (.istore_n 3, 1) := by decide +kernel
theorem dX7_offBy_4 : decode cX7_offBy 4 = .ok (.iconst 0, 1) := by decide +kernel
theorem dX7_offBy_5 : decode cX7_offBy 5 = .ok (.istore 4, 2) := by decide +kernel
theorem dX7_offBy_7 : decode cX7_offBy 7 = .ok (.iconst 1, 1) := by decide +kernel
theorem dX7_offBy_8 : decode cX7_offBy 8 = .ok (.istore 5, 2) := by decide +kernel
theorem dX7_offBy_10 : decode cX7_offBy 10 = .ok (.aload_n 0, 1) := by decide +kernel
theorem dX7_offBy_11 : decode cX7_offBy 11 = .ok (.getfield 19, 3) := by decide +kernel
theorem dX7_offBy_14 : decode cX7_offBy 14 = .ok (.iconst 2, 1) := by decide +kernel
theorem dX7_offBy_15 : decode cX7_offBy 15 = .ok (.iaload, 1) := by decide +kernel
theorem dX7_offBy_16 : decode cX7_offBy 16 = .ok (.iconst 1, 1) := by decide +kernel
theorem dX7_offBy_17 : decode cX7_offBy 17 = .ok (.isub, 1) := by decide +kernel
theorem dX7_offBy_18 : decode cX7_offBy 18 = .ok (.istore 6, 2) := by decide +kernel
theorem dX7_offBy_20 : decode cX7_offBy 20 = .ok (.iload 6, 2) := by decide +kernel
theorem dX7_offBy_22 : decode cX7_offBy 22 = .ok (.ifCond .lt 127, 3) := by decide +kernel
theorem dX7_offBy_25 : decode cX7_offBy 25 = .ok (.iload_n 2, 1) := by decide +kernel
theorem dX7_offBy_26 : decode cX7_offBy 26 = .ok (.aload_n 0, 1) := by decide +kernel
theorem dX7_offBy_27 : decode cX7_offBy 27 = .ok (.getfield 19, 3) := by decide +kernel
theorem dX7_offBy_30 : decode cX7_offBy 30 = .ok (.iconst 2, 1) := by decide +kernel
theorem dX7_offBy_31 : decode cX7_offBy 31 = .ok (.iaload, 1) := by decide +kernel
theorem dX7_offBy_32 : decode cX7_offBy 32 = .ok (.irem, 1) := by decide +kernel
theorem dX7_offBy_33 : decode cX7_offBy 33 = .ok (.istore 7, 2) := by decide +kernel
theorem dX7_offBy_35 : decode cX7_offBy 35 = .ok (.iload_n 2, 1) := by decide +kernel
theorem dX7_offBy_36 : decode cX7_offBy 36 = .ok (.aload_n 0, 1) := by decide +kernel
theorem dX7_offBy_37 : decode cX7_offBy 37 = .ok (.getfield 19, 3) := by decide +kernel
theorem dX7_offBy_40 : decode cX7_offBy 40 = .ok (.iconst 2, 1) := by decide +kernel
theorem dX7_offBy_41 : decode cX7_offBy 41 = .ok (.iaload, 1) := by decide +kernel
theorem dX7_offBy_42 : decode cX7_offBy 42 = .ok (.idiv, 1) := by decide +kernel
theorem dX7_offBy_43 : decode cX7_offBy 43 = .ok (.istore_n 2, 1) := by decide +kernel
theorem dX7_offBy_44 : decode cX7_offBy 44 = .ok (.iload 5, 2) := by decide +kernel
theorem dX7_offBy_46 : decode cX7_offBy 46 = .ok (.ifCond .eq 44, 3) := by decide +kernel
theorem dX7_offBy_49 : decode cX7_offBy 49 = .ok (.iload_n 3, 1) := by decide +kernel
theorem dX7_offBy_50 : decode cX7_offBy 50 = .ok (.iload 7, 2) := by decide +kernel
theorem dX7_offBy_52 : decode cX7_offBy 52 = .ok (.invokestatic 212, 3) := by decide +kernel
theorem dX7_offBy_55 : decode cX7_offBy 55 = .ok (.ifCond .ne 35, 3) := by decide +kernel
theorem dX7_offBy_58 : decode cX7_offBy 58 = .ok (.aload_n 0, 1) := by decide +kernel
theorem dX7_offBy_59 : decode cX7_offBy 59 = .ok (.iload 6, 2) := by decide +kernel
theorem dX7_offBy_61 : decode cX7_offBy 61 = .ok (.invokevirtual 183, 3) := by decide +kernel
theorem dX7_offBy_64 : decode cX7_offBy 64 = .ok (.ifCond .eq 15, 3) := by decide +kernel
theorem dX7_offBy_67 : decode cX7_offBy 67 = .ok (.aload_n 0, 1) := by decide +kernel
theorem dX7_offBy_68 : decode cX7_offBy 68 = .ok (.iload 7, 2) := by decide +kernel
theorem dX7_offBy_70 : decode cX7_offBy 70 = .ok (.invokevirtual 183, 3) := by decide +kernel
theorem dX7_offBy_73 : decode cX7_offBy 73 = .ok (.ifCond .eq 17, 3) := by decide +kernel
theorem dX7_offBy_76 : decode cX7_offBy 76 = .ok (.goto 10, 3) := by decide +kernel
theorem dX7_offBy_79 : decode cX7_offBy 79 = .ok (.iload 7, 2) := by decide +kernel
theorem dX7_offBy_81 : decode cX7_offBy 81 = .ok (.iload 6, 2) := by decide +kernel
theorem dX7_offBy_83 : decode cX7_offBy 83 = .ok (.if_icmp .ne 7, 3) := by decide +kernel
theorem dX7_offBy_86 : decode cX7_offBy 86 = .ok (.iconst 1, 1) := by decide +kernel
theorem dX7_offBy_87 : decode cX7_offBy 87 = .ok (.goto 4, 3) := by decide +kernel
theorem dX7_offBy_90 : decode cX7_offBy 90 = .ok (.iconst 0, 1) := by decide +kernel
theorem dX7_offBy_91 : decode cX7_offBy 91 = .ok (.istore 5, 2) := by decide +kernel
theorem dX7_offBy_93 : decode cX7_offBy 93 = .ok (.iload_n 3, 1) := by decide +kernel
theorem dX7_offBy_94 : decode cX7_offBy 94 = .ok (.iconst 1, 1) := by decide +kernel
theorem dX7_offBy_95 : decode cX7_offBy 95 = .ok (.iload 7, 2) := by decide +kernel
theorem dX7_offBy_97 : decode cX7_offBy 97 = .ok (.ishl, 1) := by decide +kernel
theorem dX7_offBy_98 : decode cX7_offBy 98 = .ok (.ior, 1) := by decide +kernel
theorem dX7_offBy_99 : decode cX7_offBy 99 = .ok (.istore_n 3, 1) := by decide +kernel
theorem dX7_offBy_100 : decode cX7_offBy 100 = .ok (.iload 4, 2) := by decide +kernel
theorem dX7_offBy_102 : decode cX7_offBy 102 = .ok (.aload_n 0, 1) := by decide +kernel
theorem dX7_offBy_103 : decode cX7_offBy 103 = .ok (.iload 6, 2) := by decide +kernel
theorem dX7_offBy_105 : decode cX7_offBy 105 = .ok (.invokevirtual 183, 3) := by decide +kernel
theorem dX7_offBy_108 : decode cX7_offBy 108 = .ok (.ifCond .eq 22, 3) := by decide +kernel
theorem dX7_offBy_111 : decode cX7_offBy 111 = .ok (.aload_n 0, 1) := by decide +kernel
theorem dX7_offBy_112 : decode cX7_offBy 112 = .ok (.iload 7, 2) := by decide +kernel
theorem dX7_offBy_114 : decode cX7_offBy 114 = .ok (.aload_n 0, 1) := by decide +kernel
theorem dX7_offBy_115 : decode cX7_offBy 115 = .ok (.getfield 19, 3) := by decide +kernel
theorem dX7_offBy_118 : decode cX7_offBy 118 = .ok (.bipush 35, 2) := by decide +kernel
theorem dX7_offBy_120 : decode cX7_offBy 120 = .ok (.iload 6, 2) := by decide +kernel
theorem dX7_offBy_122 : decode cX7_offBy 122 = .ok (.iadd, 1) := by decide +kernel
theorem dX7_offBy_123 : decode cX7_offBy 123 = .ok (.iaload, 1) := by decide +kernel
theorem dX7_offBy_124 : decode cX7_offBy 124 = .ok (.invokevirtual 161, 3) := by decide +kernel
theorem dX7_offBy_127 : decode cX7_offBy 127 = .ok (.goto 4, 3) := by decide +kernel
theorem dX7_offBy_130 : decode cX7_offBy 130 = .ok (.iconst 0, 1) := by decide +kernel
theorem dX7_offBy_131 : decode cX7_offBy 131 = .ok (.iadd, 1) := by decide +kernel
theorem dX7_offBy_132 : decode cX7_offBy 132 = .ok (.istore 4, 2) := by decide +kernel
theorem dX7_offBy_134 : decode cX7_offBy 134 = .ok (.aload_n 0, 1) := by decide +kernel
theorem dX7_offBy_135 : decode cX7_offBy 135 = .ok (.getfield 49, 3) := by decide +kernel
theorem dX7_offBy_138 : decode cX7_offBy 138 = .ok (.iload 6, 2) := by decide +kernel
theorem dX7_offBy_140 : decode cX7_offBy 140 = .ok (.iload 7, 2) := by decide +kernel
theorem dX7_offBy_142 : decode cX7_offBy 142 = .ok (.iastore, 1) := by decide +kernel
theorem dX7_offBy_143 : decode cX7_offBy 143 = .ok (.iinc 6 (-1), 3) := by decide +kernel
theorem dX7_offBy_146 : decode cX7_offBy 146 = .ok (.goto (-126), 3) := by decide +kernel
theorem dX7_offBy_149 : decode cX7_offBy 149 = .ok (.iload 5, 2) := by decide +kernel
theorem dX7_offBy_151 : decode cX7_offBy 151 = .ok (.ifCond .eq 8, 3) := by decide +kernel
theorem dX7_offBy_154 : decode cX7_offBy 154 = .ok (.iload 4, 2) := by decide +kernel
theorem dX7_offBy_156 : decode cX7_offBy 156 = .ok (.goto 5, 3) := by decide +kernel
theorem dX7_offBy_159 : decode cX7_offBy 159 = .ok (.ldc 194, 2) := by decide +kernel
theorem dX7_offBy_161 : decode cX7_offBy 161 = .ok (.ireturn, 1) := by decide +kernel
theorem dX7_match_0 : decode cX7_match 0 = .ok (.aload_n 0, 1) := by decide +kernel
theorem dX7_match_1 : decode cX7_match 1 = .ok (.getfield 147, 3) := by decide +kernel
theorem dX7_match_4 : decode cX7_match 4 = .ok (.ifCond .ne 6, 3) := by decide +kernel
theorem dX7_match_7 : decode cX7_match 7 = .ok (.ldc 167, 2) := by decide +kernel
theorem dX7_match_9 : decode cX7_match 9 = .ok (.ireturn, 1) := by decide +kernel
theorem dX7_match_10 : decode cX7_match 10 = .ok (.iload_n 1, 1) := by decide +kernel
theorem dX7_match_11 : decode cX7_match 11 = .ok (.i2l, 1) := by decide +kernel
theorem dX7_match_12 : decode cX7_match 12 = .ok (.ldc2_w 216, 3) := by decide +kernel
theorem dX7_match_15 : decode cX7_match 15 = .ok (.aload_n 0, 1) := by decide +kernel
theorem dX7_match_16 : decode cX7_match 16 = .ok (.getfield 19, 3) := by decide +kernel
theorem dX7_match_19 : decode cX7_match 19 = .ok (.iconst 2, 1) := by decide +kernel
theorem dX7_match_20 : decode cX7_match 20 = .ok (.iaload, 1) := by decide +kernel
theorem dX7_match_21 : decode cX7_match 21 = .ok (.iconst 1, 1) := by decide +kernel
theorem dX7_match_22 : decode cX7_match 22 = .ok (.isub, 1) := by decide +kernel
theorem dX7_match_23 : decode cX7_match 23 = .ok (.i2l, 1) := by decide +kernel
theorem dX7_match_24 : decode cX7_match 24 = .ok (.invokestatic 69, 3) := by decide +kernel
theorem dX7_match_27 : decode cX7_match 27 = .ok (.ifCond .ne 6, 3) := by decide +kernel
theorem dX7_match_30 : decode cX7_match 30 = .ok (.ldc 79, 2) := by decide +kernel
theorem dX7_match_32 : decode cX7_match 32 = .ok (.ireturn, 1) := by decide +kernel
theorem dX7_match_33 : decode cX7_match 33 = .ok (.iconst 1, 1) := by decide +kernel
theorem dX7_match_34 : decode cX7_match 34 = .ok (.istore_n 2, 1) := by decide +kernel
theorem dX7_match_35 : decode cX7_match 35 = .ok (.iconst 0, 1) := by decide +kernel
theorem dX7_match_36 : decode cX7_match 36 = .ok (.istore_n 3, 1) := by decide +kernel
theorem dX7_match_37 : decode cX7_match 37 = .ok (.iload_n 3, 1) := by decide +kernel
theorem dX7_match_38 : decode cX7_match 38 = .ok (.aload_n 0, 1) := by decide +kernel
theorem dX7_match_39 : decode cX7_match 39 = .ok (.getfield 19, 3) := by decide +kernel
theorem dX7_match_42 : decode cX7_match 42 = .ok (.iconst 2, 1) := by decide +kernel
theorem dX7_match_43 : decode cX7_match 43 = .ok (.iaload, 1) := by decide +kernel
theorem dX7_match_44 : decode cX7_match 44 = .ok (.if_icmp .ge 18, 3) := by decide +kernel
theorem dX7_match_47 : decode cX7_match 47 = .ok (.iload_n 2, 1) := by decide +kernel
theorem dX7_match_48 : decode cX7_match 48 = .ok (.aload_n 0, 1) := by decide +kernel
theorem dX7_match_49 : decode cX7_match 49 = .ok (.getfield 19, 3) := by decide +kernel
theorem dX7_match_52 : decode cX7_match 52 = .ok (.iconst 2, 1) := by decide +kernel
theorem dX7_match_53 : decode cX7_match 53 = .ok (.iaload, 1) := by decide +kernel
theorem dX7_match_54 : decode cX7_match 54 = .ok (.imul, 1) := by decide +kernel
theorem dX7_match_55 : decode cX7_match 55 = .ok (.istore_n 2, 1) := by decide +kernel
theorem dX7_match_56 : decode cX7_match 56 = .ok (.iinc 3 1, 3) := by decide +kernel
theorem dX7_match_59 : decode cX7_match 59 = .ok (.goto (-22), 3) := by decide +kernel
theorem dX7_match_62 : decode cX7_match 62 = .ok (.iconst (-1), 1) := by decide +kernel
theorem dX7_match_63 : decode cX7_match 63 = .ok (.istore_n 3, 1) := by decide +kernel
theorem dX7_match_64 : decode cX7_match 64 = .ok (.iconst 0, 1) := by decide +kernel
theorem dX7_match_65 : decode cX7_match 65 = .ok (.istore 4, 2) := by decide +kernel
theorem dX7_match_67 : decode cX7_match 67 = .ok (.iconst 0, 1) := by decide +kernel
theorem dX7_match_68 : decode cX7_match 68 = .ok (.istore 5, 2) := by decide +kernel
theorem dX7_match_70 : decode cX7_match 70 = .ok (.iload 5, 2) := by decide +kernel
theorem dX7_match_72 : decode cX7_match 72 = .ok (.iload_n 2, 1) := by decide +kernel
theorem dX7_match_73 : decode cX7_match 73 = .ok (.if_icmp .ge 40, 3) := by decide +kernel
theorem dX7_match_76 : decode cX7_match 76 = .ok (.aload_n 0, 1) := by decide +kernel
theorem dX7_match_77 : decode cX7_match 77 = .ok (.iload 5, 2) := by decide +kernel
theorem dX7_match_79 : decode cX7_match 79 = .ok (.invokevirtual 218, 3) := by decide +kernel
theorem dX7_match_82 : decode cX7_match 82 = .ok (.istore 6, 2) := by decide +kernel
theorem dX7_match_84 : decode cX7_match 84 = .ok (.iload 6, 2) := by decide +kernel
theorem dX7_match_86 : decode cX7_match 86 = .ok (.ifCond .lt 21, 3) := by decide +kernel
theorem dX7_match_89 : decode cX7_match 89 = .ok (.iload_n 3, 1) := by decide +kernel
theorem dX7_match_90 : decode cX7_match 90 = .ok (.ifCond .lt 10, 3) := by decide +kernel
theorem dX7_match_93 : decode cX7_match 93 = .ok (.iload 6, 2) := by decide +kernel
theorem dX7_match_95 : decode cX7_match 95 = .ok (.iload 4, 2) := by decide +kernel
theorem dX7_match_97 : decode cX7_match 97 = .ok (.if_icmp .ge 10, 3) := by decide +kernel
theorem dX7_match_100 : decode cX7_match 100 = .ok (.iload 5, 2) := by decide +kernel
theorem dX7_match_102 : decode cX7_match 102 = .ok (.istore_n 3, 1) := by decide +kernel
theorem dX7_match_103 : decode cX7_match 103 = .ok (.iload 6, 2) := by decide +kernel
theorem dX7_match_105 : decode cX7_match 105 = .ok (.istore 4, 2) := by decide +kernel
theorem dX7_match_107 : decode cX7_match 107 = .ok (.iinc 5 1, 3) := by decide +kernel
theorem dX7_match_110 : decode cX7_match 110 = .ok (.goto (-40), 3) := by decide +kernel
theorem dX7_match_113 : decode cX7_match 113 = .ok (.aload_n 0, 1) := by decide +kernel
theorem dX7_match_114 : decode cX7_match 114 = .ok (.iload_n 3, 1) := by decide +kernel
theorem dX7_match_115 : decode cX7_match 115 = .ok (.invokevirtual 218, 3) := by decide +kernel
theorem dX7_match_118 : decode cX7_match 118 = .ok (.pop, 1) := by decide +kernel
theorem dX7_match_119 : decode cX7_match 119 = .ok (.iload_n 1, 1) := by decide +kernel
theorem dX7_match_120 : decode cX7_match 120 = .ok (.ifCond .ge 8, 3) := by decide +kernel
theorem dX7_match_123 : decode cX7_match 123 = .ok (.iload 4, 2) := by decide +kernel
theorem dX7_match_125 : decode cX7_match 125 = .ok (.goto 9, 3) := by decide +kernel
theorem dX7_match_128 : decode cX7_match 128 = .ok (.aload_n 0, 1) := by decide +kernel
theorem dX7_match_129 : decode cX7_match 129 = .ok (.getfield 49, 3) := by decide +kernel
theorem dX7_match_132 : decode cX7_match 132 = .ok (.iload_n 1, 1) := by decide +kernel
theorem dX7_match_133 : decode cX7_match 133 = .ok (.iaload, 1) := by decide +kernel
theorem dX7_match_134 : decode cX7_match 134 = .ok (.ireturn, 1) := by decide +kernel
theorem dX7_gain_0 : decode cX7_gain 0 = .ok (.aload_n 0, 1) := by decide +kernel
theorem dX7_gain_1 : decode cX7_gain 1 = .ok (.getfield 147, 3) := by decide +kernel
theorem dX7_gain_4 : decode cX7_gain 4 = .ok (.ifCond .ne 6, 3) := by decide +kernel
theorem dX7_gain_7 : decode cX7_gain 7 = .ok (.ldc 167, 2) := by decide +kernel
theorem dX7_gain_9 : decode cX7_gain 9 = .ok (.ireturn, 1) := by decide +kernel
theorem dX7_gain_10 : decode cX7_gain 10 = .ok (.iload_n 1, 1) := by decide +kernel
theorem dX7_gain_11 : decode cX7_gain 11 = .ok (.i2l, 1) := by decide +kernel
theorem dX7_gain_12 : decode cX7_gain 12 = .ok (.lconst 0, 1) := by decide +kernel
theorem dX7_gain_13 : decode cX7_gain 13 = .ok (.lconst 1, 1) := by decide +kernel
theorem dX7_gain_14 : decode cX7_gain 14 = .ok (.invokestatic 69, 3) := by decide +kernel
theorem dX7_gain_17 : decode cX7_gain 17 = .ok (.ifCond .ne 6, 3) := by decide +kernel
theorem dX7_gain_20 : decode cX7_gain 20 = .ok (.ldc 79, 2) := by decide +kernel
theorem dX7_gain_22 : decode cX7_gain 22 = .ok (.ireturn, 1) := by decide +kernel
theorem dX7_gain_23 : decode cX7_gain 23 = .ok (.sipush 10000, 3) := by decide +kernel
theorem dX7_gain_26 : decode cX7_gain 26 = .ok (.istore_n 2, 1) := by decide +kernel
theorem dX7_gain_27 : decode cX7_gain 27 = .ok (.iconst 0, 1) := by decide +kernel
theorem dX7_gain_28 : decode cX7_gain 28 = .ok (.istore_n 3, 1) := by decide +kernel
theorem dX7_gain_29 : decode cX7_gain 29 = .ok (.iload_n 3, 1) := by decide +kernel
theorem dX7_gain_30 : decode cX7_gain 30 = .ok (.aload_n 0, 1) := by decide +kernel
theorem dX7_gain_31 : decode cX7_gain 31 = .ok (.getfield 19, 3) := by decide +kernel
theorem dX7_gain_34 : decode cX7_gain 34 = .ok (.iconst 2, 1) := by decide +kernel
theorem dX7_gain_35 : decode cX7_gain 35 = .ok (.iaload, 1) := by decide +kernel
theorem dX7_gain_36 : decode cX7_gain 36 = .ok (.if_icmp .ge 48, 3) := by decide +kernel
theorem dX7_gain_39 : decode cX7_gain 39 = .ok (.iload_n 2, 1) := by decide +kernel
theorem dX7_gain_40 : decode cX7_gain 40 = .ok (.aload_n 0, 1) := by decide +kernel
theorem dX7_gain_41 : decode cX7_gain 41 = .ok (.getfield 19, 3) := by decide +kernel
theorem dX7_gain_44 : decode cX7_gain 44 = .ok (.bipush 29, 2) := by decide +kernel
theorem dX7_gain_46 : decode cX7_gain 46 = .ok (.iload_n 3, 1) := by decide +kernel
theorem dX7_gain_47 : decode cX7_gain 47 = .ok (.iadd, 1) := by decide +kernel
theorem dX7_gain_48 : decode cX7_gain 48 = .ok (.iaload, 1) := by decide +kernel
theorem dX7_gain_49 : decode cX7_gain 49 = .ok (.iload_n 1, 1) := by decide +kernel
theorem dX7_gain_50 : decode cX7_gain 50 = .ok (.if_icmp .ne 25, 3) := by decide +kernel
theorem dX7_gain_53 : decode cX7_gain 53 = .ok (.aload_n 0, 1) := by decide +kernel
theorem dX7_gain_54 : decode cX7_gain 54 = .ok (.getfield 19, 3) := by decide +kernel
theorem dX7_gain_57 : decode cX7_gain 57 = .ok (.bipush 35, 2) := by decide +kernel
theorem dX7_gain_59 : decode cX7_gain 59 = .ok (.iload_n 3, 1) := by decide +kernel
theorem dX7_gain_60 : decode cX7_gain 60 = .ok (.iadd, 1) := by decide +kernel
theorem dX7_gain_61 : decode cX7_gain 61 = .ok (.iaload, 1) := by decide +kernel
theorem dX7_gain_62 : decode cX7_gain 62 = .ok (.aload_n 0, 1) := by decide +kernel
theorem dX7_gain_63 : decode cX7_gain 63 = .ok (.getfield 19, 3) := by decide +kernel
theorem dX7_gain_66 : decode cX7_gain 66 = .ok (.bipush 11, 2) := by decide +kernel
theorem dX7_gain_68 : decode cX7_gain 68 = .ok (.iload_n 3, 1) := by decide +kernel
theorem dX7_gain_69 : decode cX7_gain 69 = .ok (.iadd, 1) := by decide +kernel
theorem dX7_gain_70 : decode cX7_gain 70 = .ok (.iaload, 1) := by decide +kernel
theorem dX7_gain_71 : decode cX7_gain 71 = .ok (.isub, 1) := by decide +kernel
theorem dX7_gain_72 : decode cX7_gain 72 = .ok (.goto 4, 3) := by decide +kernel
theorem dX7_gain_75 : decode cX7_gain 75 = .ok (.iconst 0, 1) := by decide +kernel
theorem dX7_gain_76 : decode cX7_gain 76 = .ok (.iadd, 1) := by decide +kernel
theorem dX7_gain_77 : decode cX7_gain 77 = .ok (.istore_n 2, 1) := by decide +kernel
theorem dX7_gain_78 : decode cX7_gain 78 = .ok (.iinc 3 1, 3) := by decide +kernel
theorem dX7_gain_81 : decode cX7_gain 81 = .ok (.goto (-52), 3) := by decide +kernel
theorem dX7_gain_84 : decode cX7_gain 84 = .ok (.iload_n 2, 1) := by decide +kernel
theorem dX7_gain_85 : decode cX7_gain 85 = .ok (.ireturn, 1) := by decide +kernel
theorem dX7_isSeldom_0 : decode cX7_isSeldom 0 = .ok (.aload_n 0, 1) := by decide +kernel
theorem dX7_isSeldom_1 : decode cX7_isSeldom 1 = .ok (.getfield 19, 3) := by decide +kernel
theorem dX7_isSeldom_4 : decode cX7_isSeldom 4 = .ok (.bipush 11, 2) := by decide +kernel
theorem dX7_isSeldom_6 : decode cX7_isSeldom 6 = .ok (.iload_n 1, 1) := by decide +kernel
theorem dX7_isSeldom_7 : decode cX7_isSeldom 7 = .ok (.iadd, 1) := by decide +kernel
theorem dX7_isSeldom_8 : decode cX7_isSeldom 8 = .ok (.iaload, 1) := by decide +kernel
theorem dX7_isSeldom_9 : decode cX7_isSeldom 9 = .ok (.istore 4, 2) := by decide +kernel
theorem dX7_isSeldom_11 : decode cX7_isSeldom 11 = .ok (.iconst 1, 1) := by decide +kernel
theorem dX7_isSeldom_12 : decode cX7_isSeldom 12 = .ok (.istore 5, 2) := by decide +kernel
theorem dX7_isSeldom_14 : decode cX7_isSeldom 14 = .ok (.iconst 1, 1) := by decide +kernel
theorem dX7_isSeldom_15 : decode cX7_isSeldom 15 = .ok (.istore 6, 2) := by decide +kernel
theorem dX7_isSeldom_17 : decode cX7_isSeldom 17 = .ok (.iload 6, 2) := by decide +kernel
theorem dX7_isSeldom_19 : decode cX7_isSeldom 19 = .ok (.bipush 60, 2) := by decide +kernel
theorem dX7_isSeldom_21 : decode cX7_isSeldom 21 = .ok (.if_icmp .gt 75, 3) := by decide +kernel
theorem dX7_isSeldom_24 : decode cX7_isSeldom 24 = .ok (.aload_n 0, 1) := by decide +kernel
theorem dX7_isSeldom_25 : decode cX7_isSeldom 25 = .ok (.iload_n 1, 1) := by decide +kernel
theorem dX7_isSeldom_26 : decode cX7_isSeldom 26 = .ok (.iload 4, 2) := by decide +kernel
theorem dX7_isSeldom_28 : decode cX7_isSeldom 28 = .ok (.aload_n 0, 1) := by decide +kernel
theorem dX7_isSeldom_29 : decode cX7_isSeldom 29 = .ok (.getfield 19, 3) := by decide +kernel
theorem dX7_isSeldom_32 : decode cX7_isSeldom 32 = .ok (.iconst 3, 1) := by decide +kernel
theorem dX7_isSeldom_33 : decode cX7_isSeldom 33 = .ok (.iaload, 1) := by decide +kernel
theorem dX7_isSeldom_34 : decode cX7_isSeldom 34 = .ok (.iload 6, 2) := by decide +kernel
theorem dX7_isSeldom_36 : decode cX7_isSeldom 36 = .ok (.iadd, 1) := by decide +kernel
theorem dX7_isSeldom_37 : decode cX7_isSeldom 37 = .ok (.iconst 1, 1) := by decide +kernel
theorem dX7_isSeldom_38 : decode cX7_isSeldom 38 = .ok (.isub, 1) := by decide +kernel
theorem dX7_isSeldom_39 : decode cX7_isSeldom 39 = .ok (.invokevirtual 157, 3) := by decide +kernel
theorem dX7_isSeldom_42 : decode cX7_isSeldom 42 = .ok (.istore 4, 2) := by decide +kernel
theorem dX7_isSeldom_44 : decode cX7_isSeldom 44 = .ok (.iload 5, 2) := by decide +kernel
theorem dX7_isSeldom_46 : decode cX7_isSeldom 46 = .ok (.ifCond .eq 18, 3) := by decide +kernel
theorem dX7_isSeldom_49 : decode cX7_isSeldom 49 = .ok (.aload_n 0, 1) := by decide +kernel
theorem dX7_isSeldom_50 : decode cX7_isSeldom 50 = .ok (.iload_n 1, 1) := by decide +kernel
theorem dX7_isSeldom_51 : decode cX7_isSeldom 51 = .ok (.iload 4, 2) := by decide +kernel
theorem dX7_isSeldom_53 : decode cX7_isSeldom 53 = .ok (.invokevirtual 161, 3) := by decide +kernel
theorem dX7_isSeldom_56 : decode cX7_isSeldom 56 = .ok (.iload_n 2, 1) := by decide +kernel
theorem dX7_isSeldom_57 : decode cX7_isSeldom 57 = .ok (.if_icmp .gt 7, 3) := by decide +kernel
theorem dX7_isSeldom_60 : decode cX7_isSeldom 60 = .ok (.iconst 1, 1) := by decide +kernel
theorem dX7_isSeldom_61 : decode cX7_isSeldom 61 = .ok (.goto 4, 3) := by decide +kernel
theorem dX7_isSeldom_64 : decode cX7_isSeldom 64 = .ok (.iconst 0, 1) := by decide +kernel
theorem dX7_isSeldom_65 : decode cX7_isSeldom 65 = .ok (.istore 5, 2) := by decide +kernel
theorem dX7_isSeldom_67 : decode cX7_isSeldom 67 = .ok (.iload 6, 2) := by decide +kernel
theorem dX7_isSeldom_69 : decode cX7_isSeldom 69 = .ok (.iload_n 3, 1) := by decide +kernel
theorem dX7_isSeldom_70 : decode cX7_isSeldom 70 = .ok (.irem, 1) := by decide +kernel
theorem dX7_isSeldom_71 : decode cX7_isSeldom 71 = .ok (.ifCond .ne 15, 3) := by decide +kernel
theorem dX7_isSeldom_74 : decode cX7_isSeldom 74 = .ok (.aload_n 0, 1) := by decide +kernel
theorem dX7_isSeldom_75 : decode cX7_isSeldom 75 = .ok (.getfield 19, 3) := by decide +kernel
theorem dX7_isSeldom_78 : decode cX7_isSeldom 78 = .ok (.bipush 11, 2) := by decide +kernel
theorem dX7_isSeldom_80 : decode cX7_isSeldom 80 = .ok (.iload_n 1, 1) := by decide +kernel
theorem dX7_isSeldom_81 : decode cX7_isSeldom 81 = .ok (.iadd, 1) := by decide +kernel
theorem dX7_isSeldom_82 : decode cX7_isSeldom 82 = .ok (.iaload, 1) := by decide +kernel
theorem dX7_isSeldom_83 : decode cX7_isSeldom 83 = .ok (.goto 5, 3) := by decide +kernel
theorem dX7_isSeldom_86 : decode cX7_isSeldom 86 = .ok (.iload 4, 2) := by decide +kernel
theorem dX7_isSeldom_88 : decode cX7_isSeldom 88 = .ok (.istore 4, 2) := by decide +kernel
theorem dX7_isSeldom_90 : decode cX7_isSeldom 90 = .ok (.iinc 6 1, 3) := by decide +kernel
theorem dX7_isSeldom_93 : decode cX7_isSeldom 93 = .ok (.goto (-76), 3) := by decide +kernel
theorem dX7_isSeldom_96 : decode cX7_isSeldom 96 = .ok (.iload 5, 2) := by decide +kernel
theorem dX7_isSeldom_98 : decode cX7_isSeldom 98 = .ok (.ireturn, 1) := by decide +kernel
theorem dX7_seldom_0 : decode cX7_seldom 0 = .ok (.aload_n 0, 1) := by decide +kernel
theorem dX7_seldom_1 : decode cX7_seldom 1 = .ok (.iload_n 1, 1) := by decide +kernel
theorem dX7_seldom_2 : decode cX7_seldom 2 = .ok (.invokevirtual 180, 3) := by decide +kernel
theorem dX7_seldom_5 : decode cX7_seldom 5 = .ok (.ifCond .eq 15, 3) := by decide +kernel
theorem dX7_seldom_8 : decode cX7_seldom 8 = .ok (.iload_n 2, 1) := by decide +kernel
theorem dX7_seldom_9 : decode cX7_seldom 9 = .ok (.i2l, 1) := by decide +kernel
theorem dX7_seldom_10 : decode cX7_seldom 10 = .ok (.lconst 1, 1) := by decide +kernel
theorem dX7_seldom_11 : decode cX7_seldom 11 = .ok (.ldc2_w 195, 3) := by decide +kernel
theorem dX7_seldom_14 : decode cX7_seldom 14 = .ok (.invokestatic 69, 3) := by decide +kernel
theorem dX7_seldom_17 : decode cX7_seldom 17 = .ok (.ifCond .ne 6, 3) := by decide +kernel
theorem dX7_seldom_20 : decode cX7_seldom 20 = .ok (.ldc 79, 2) := by decide +kernel
theorem dX7_seldom_22 : decode cX7_seldom 22 = .ok (.ireturn, 1) := by decide +kernel
theorem dX7_seldom_23 : decode cX7_seldom 23 = .ok (.ldc 194, 2) := by decide +kernel
theorem dX7_seldom_25 : decode cX7_seldom 25 = .ok (.istore_n 3, 1) := by decide +kernel
theorem dX7_seldom_26 : decode cX7_seldom 26 = .ok (.iconst 1, 1) := by decide +kernel
theorem dX7_seldom_27 : decode cX7_seldom 27 = .ok (.istore 4, 2) := by decide +kernel
theorem dX7_seldom_29 : decode cX7_seldom 29 = .ok (.iload 4, 2) := by decide +kernel
theorem dX7_seldom_31 : decode cX7_seldom 31 = .ok (.bipush 30, 2) := by decide +kernel
theorem dX7_seldom_33 : decode cX7_seldom 33 = .ok (.if_icmp .gt 27, 3) := by decide +kernel
theorem dX7_seldom_36 : decode cX7_seldom 36 = .ok (.aload_n 0, 1) := by decide +kernel
theorem dX7_seldom_37 : decode cX7_seldom 37 = .ok (.iload_n 1, 1) := by decide +kernel
theorem dX7_seldom_38 : decode cX7_seldom 38 = .ok (.iload_n 2, 1) := by decide +kernel
theorem dX7_seldom_39 : decode cX7_seldom 39 = .ok (.iload 4, 2) := by decide +kernel
theorem dX7_seldom_41 : decode cX7_seldom 41 = .ok (.invokevirtual 221, 3) := by decide +kernel
theorem dX7_seldom_44 : decode cX7_seldom 44 = .ok (.ifCond .eq 8, 3) := by decide +kernel
theorem dX7_seldom_47 : decode cX7_seldom 47 = .ok (.iload 4, 2) := by decide +kernel
theorem dX7_seldom_49 : decode cX7_seldom 49 = .ok (.goto 4, 3) := by decide +kernel
theorem dX7_seldom_52 : decode cX7_seldom 52 = .ok (.iload_n 3, 1) := by decide +kernel
theorem dX7_seldom_53 : decode cX7_seldom 53 = .ok (.istore_n 3, 1) := by decide +kernel
theorem dX7_seldom_54 : decode cX7_seldom 54 = .ok (.iinc 4 1, 3) := by decide +kernel
theorem dX7_seldom_57 : decode cX7_seldom 57 = .ok (.goto (-28), 3) := by decide +kernel
theorem dX7_seldom_60 : decode cX7_seldom 60 = .ok (.iload_n 3, 1) := by decide +kernel
theorem dX7_seldom_61 : decode cX7_seldom 61 = .ok (.ireturn, 1) := by decide +kernel
theorem dX7_isAsNow_0 : decode cX7_isAsNow 0 = .ok (.iconst 1, 1) := by decide +kernel
theorem dX7_isAsNow_1 : decode cX7_isAsNow 1 = .ok (.istore_n 1, 1) := by decide +kernel
theorem dX7_isAsNow_2 : decode cX7_isAsNow 2 = .ok (.iconst 0, 1) := by decide +kernel
theorem dX7_isAsNow_3 : decode cX7_isAsNow 3 = .ok (.istore_n 2, 1) := by decide +kernel
theorem dX7_isAsNow_4 : decode cX7_isAsNow 4 = .ok (.iload_n 2, 1) := by decide +kernel
theorem dX7_isAsNow_5 : decode cX7_isAsNow 5 = .ok (.aload_n 0, 1) := by decide +kernel
theorem dX7_isAsNow_6 : decode cX7_isAsNow 6 = .ok (.getfield 19, 3) := by decide +kernel
theorem dX7_isAsNow_9 : decode cX7_isAsNow 9 = .ok (.iconst 2, 1) := by decide +kernel
theorem dX7_isAsNow_10 : decode cX7_isAsNow 10 = .ok (.iaload, 1) := by decide +kernel
theorem dX7_isAsNow_11 : decode cX7_isAsNow 11 = .ok (.if_icmp .ge 40, 3) := by decide +kernel
theorem dX7_isAsNow_14 : decode cX7_isAsNow 14 = .ok (.iload_n 1, 1) := by decide +kernel
theorem dX7_isAsNow_15 : decode cX7_isAsNow 15 = .ok (.ifCond .eq 28, 3) := by decide +kernel
theorem dX7_isAsNow_18 : decode cX7_isAsNow 18 = .ok (.aload_n 0, 1) := by decide +kernel
theorem dX7_isAsNow_19 : decode cX7_isAsNow 19 = .ok (.getfield 19, 3) := by decide +kernel
theorem dX7_isAsNow_22 : decode cX7_isAsNow 22 = .ok (.bipush 35, 2) := by decide +kernel
theorem dX7_isAsNow_24 : decode cX7_isAsNow 24 = .ok (.iload_n 2, 1) := by decide +kernel
theorem dX7_isAsNow_25 : decode cX7_isAsNow 25 = .ok (.iadd, 1) := by decide +kernel
theorem dX7_isAsNow_26 : decode cX7_isAsNow 26 = .ok (.iaload, 1) := by decide +kernel
theorem dX7_isAsNow_27 : decode cX7_isAsNow 27 = .ok (.aload_n 0, 1) := by decide +kernel
theorem dX7_isAsNow_28 : decode cX7_isAsNow 28 = .ok (.getfield 34, 3) := by decide +kernel
theorem dX7_isAsNow_31 : decode cX7_isAsNow 31 = .ok (.bipush 35, 2) := by decide +kernel
theorem dX7_isAsNow_33 : decode cX7_isAsNow 33 = .ok (.iload_n 2, 1) := by decide +kernel
theorem dX7_isAsNow_34 : decode cX7_isAsNow 34 = .ok (.iadd, 1) := by decide +kernel
theorem dX7_isAsNow_35 : decode cX7_isAsNow 35 = .ok (.iaload, 1) := by decide +kernel
theorem dX7_isAsNow_36 : decode cX7_isAsNow 36 = .ok (.if_icmp .ne 7, 3) := by decide +kernel
theorem dX7_isAsNow_39 : decode cX7_isAsNow 39 = .ok (.iconst 1, 1) := by decide +kernel
theorem dX7_isAsNow_40 : decode cX7_isAsNow 40 = .ok (.goto 4, 3) := by decide +kernel
theorem dX7_isAsNow_43 : decode cX7_isAsNow 43 = .ok (.iconst 0, 1) := by decide +kernel
theorem dX7_isAsNow_44 : decode cX7_isAsNow 44 = .ok (.istore_n 1, 1) := by decide +kernel
theorem dX7_isAsNow_45 : decode cX7_isAsNow 45 = .ok (.iinc 2 1, 3) := by decide +kernel
theorem dX7_isAsNow_48 : decode cX7_isAsNow 48 = .ok (.goto (-44), 3) := by decide +kernel
theorem dX7_isAsNow_51 : decode cX7_isAsNow 51 = .ok (.iload_n 1, 1) := by decide +kernel
theorem dX7_isAsNow_52 : decode cX7_isAsNow 52 = .ok (.ireturn, 1) := by decide +kernel
theorem dX7_isTurn_0 : decode cX7_isTurn 0 = .ok (.iload_n 1, 1) := by decide +kernel
theorem dX7_isTurn_1 : decode cX7_isTurn 1 = .ok (.bipush 14, 2) := by decide +kernel
theorem dX7_isTurn_3 : decode cX7_isTurn 3 = .ok (.irem, 1) := by decide +kernel
theorem dX7_isTurn_4 : decode cX7_isTurn 4 = .ok (.ifCond .ne 7, 3) := by decide +kernel
theorem dX7_isTurn_7 : decode cX7_isTurn 7 = .ok (.iconst 1, 1) := by decide +kernel
theorem dX7_isTurn_8 : decode cX7_isTurn 8 = .ok (.goto 4, 3) := by decide +kernel
theorem dX7_isTurn_11 : decode cX7_isTurn 11 = .ok (.iconst 0, 1) := by decide +kernel
theorem dX7_isTurn_12 : decode cX7_isTurn 12 = .ok (.istore_n 2, 1) := by decide +kernel
theorem dX7_isTurn_13 : decode cX7_isTurn 13 = .ok (.iconst 0, 1) := by decide +kernel
theorem dX7_isTurn_14 : decode cX7_isTurn 14 = .ok (.istore_n 3, 1) := by decide +kernel
theorem dX7_isTurn_15 : decode cX7_isTurn 15 = .ok (.iload_n 3, 1) := by decide +kernel
theorem dX7_isTurn_16 : decode cX7_isTurn 16 = .ok (.aload_n 0, 1) := by decide +kernel
theorem dX7_isTurn_17 : decode cX7_isTurn 17 = .ok (.getfield 19, 3) := by decide +kernel
theorem dX7_isTurn_20 : decode cX7_isTurn 20 = .ok (.iconst 2, 1) := by decide +kernel
theorem dX7_isTurn_21 : decode cX7_isTurn 21 = .ok (.iaload, 1) := by decide +kernel
theorem dX7_isTurn_22 : decode cX7_isTurn 22 = .ok (.if_icmp .ge 41, 3) := by decide +kernel
theorem dX7_isTurn_25 : decode cX7_isTurn 25 = .ok (.iload_n 2, 1) := by decide +kernel
theorem dX7_isTurn_26 : decode cX7_isTurn 26 = .ok (.ifCond .eq 29, 3) := by decide +kernel
theorem dX7_isTurn_29 : decode cX7_isTurn 29 = .ok (.aload_n 0, 1) := by decide +kernel
theorem dX7_isTurn_30 : decode cX7_isTurn 30 = .ok (.iload_n 3, 1) := by decide +kernel
theorem dX7_isTurn_31 : decode cX7_isTurn 31 = .ok (.invokevirtual 183, 3) := by decide +kernel
theorem dX7_isTurn_34 : decode cX7_isTurn 34 = .ok (.ifCond .eq 17, 3) := by decide +kernel
theorem dX7_isTurn_37 : decode cX7_isTurn 37 = .ok (.iload_n 1, 1) := by decide +kernel
theorem dX7_isTurn_38 : decode cX7_isTurn 38 = .ok (.aload_n 0, 1) := by decide +kernel
theorem dX7_isTurn_39 : decode cX7_isTurn 39 = .ok (.getfield 19, 3) := by decide +kernel
theorem dX7_isTurn_42 : decode cX7_isTurn 42 = .ok (.bipush 17, 2) := by decide +kernel
theorem dX7_isTurn_44 : decode cX7_isTurn 44 = .ok (.iload_n 3, 1) := by decide +kernel
theorem dX7_isTurn_45 : decode cX7_isTurn 45 = .ok (.iadd, 1) := by decide +kernel
theorem dX7_isTurn_46 : decode cX7_isTurn 46 = .ok (.iaload, 1) := by decide +kernel
theorem dX7_isTurn_47 : decode cX7_isTurn 47 = .ok (.irem, 1) := by decide +kernel
theorem dX7_isTurn_48 : decode cX7_isTurn 48 = .ok (.ifCond .ne 7, 3) := by decide +kernel
theorem dX7_isTurn_51 : decode cX7_isTurn 51 = .ok (.iconst 1, 1) := by decide +kernel
theorem dX7_isTurn_52 : decode cX7_isTurn 52 = .ok (.goto 4, 3) := by decide +kernel
theorem dX7_isTurn_55 : decode cX7_isTurn 55 = .ok (.iconst 0, 1) := by decide +kernel
theorem dX7_isTurn_56 : decode cX7_isTurn 56 = .ok (.istore_n 2, 1) := by decide +kernel
theorem dX7_isTurn_57 : decode cX7_isTurn 57 = .ok (.iinc 3 1, 3) := by decide +kernel
theorem dX7_isTurn_60 : decode cX7_isTurn 60 = .ok (.goto (-45), 3) := by decide +kernel
theorem dX7_isTurn_63 : decode cX7_isTurn 63 = .ok (.iload_n 2, 1) := by decide +kernel
theorem dX7_isTurn_64 : decode cX7_isTurn 64 = .ok (.ireturn, 1) := by decide +kernel
theorem dX7_round_0 : decode cX7_round 0 = .ok (.aload_n 0, 1) := by decide +kernel
theorem dX7_round_1 : decode cX7_round 1 = .ok (.getfield 147, 3) := by decide +kernel
theorem dX7_round_4 : decode cX7_round 4 = .ok (.ifCond .ne 6, 3) := by decide +kernel
theorem dX7_round_7 : decode cX7_round 7 = .ok (.ldc 167, 2) := by decide +kernel
theorem dX7_round_9 : decode cX7_round 9 = .ok (.ireturn, 1) := by decide +kernel
theorem dX7_round_10 : decode cX7_round 10 = .ok (.aload_n 0, 1) := by decide +kernel
theorem dX7_round_11 : decode cX7_round 11 = .ok (.invokevirtual 197, 3) := by decide +kernel
theorem dX7_round_14 : decode cX7_round 14 = .ok (.ldc 194, 2) := by decide +kernel
theorem dX7_round_16 : decode cX7_round 16 = .ok (.istore_n 1, 1) := by decide +kernel
theorem dX7_round_17 : decode cX7_round 17 = .ok (.iconst 1, 1) := by decide +kernel
theorem dX7_round_18 : decode cX7_round 18 = .ok (.istore_n 2, 1) := by decide +kernel
theorem dX7_round_19 : decode cX7_round 19 = .ok (.iload_n 2, 1) := by decide +kernel
theorem dX7_round_20 : decode cX7_round 20 = .ok (.bipush 100, 2) := by decide +kernel
theorem dX7_round_22 : decode cX7_round 22 = .ok (.if_icmp .gt 38, 3) := by decide +kernel
theorem dX7_round_25 : decode cX7_round 25 = .ok (.iload_n 1, 1) := by decide +kernel
theorem dX7_round_26 : decode cX7_round 26 = .ok (.ifCond .ge 34, 3) := by decide +kernel
theorem dX7_round_29 : decode cX7_round 29 = .ok (.aload_n 0, 1) := by decide +kernel
theorem dX7_round_30 : decode cX7_round 30 = .ok (.invokevirtual 173, 3) := by decide +kernel
theorem dX7_round_33 : decode cX7_round 33 = .ok (.aload_n 0, 1) := by decide +kernel
theorem dX7_round_34 : decode cX7_round 34 = .ok (.iload_n 2, 1) := by decide +kernel
theorem dX7_round_35 : decode cX7_round 35 = .ok (.invokevirtual 225, 3) := by decide +kernel
theorem dX7_round_38 : decode cX7_round 38 = .ok (.ifCond .eq 14, 3) := by decide +kernel
theorem dX7_round_41 : decode cX7_round 41 = .ok (.aload_n 0, 1) := by decide +kernel
theorem dX7_round_42 : decode cX7_round 42 = .ok (.invokevirtual 228, 3) := by decide +kernel
theorem dX7_round_45 : decode cX7_round 45 = .ok (.ifCond .eq 7, 3) := by decide +kernel
theorem dX7_round_48 : decode cX7_round 48 = .ok (.iload_n 2, 1) := by decide +kernel
theorem dX7_round_49 : decode cX7_round 49 = .ok (.goto 4, 3) := by decide +kernel
theorem dX7_round_52 : decode cX7_round 52 = .ok (.iload_n 1, 1) := by decide +kernel
theorem dX7_round_53 : decode cX7_round 53 = .ok (.istore_n 1, 1) := by decide +kernel
theorem dX7_round_54 : decode cX7_round 54 = .ok (.iinc 2 1, 3) := by decide +kernel
theorem dX7_round_57 : decode cX7_round 57 = .ok (.goto (-38), 3) := by decide +kernel
theorem dX7_round_60 : decode cX7_round 60 = .ok (.aload_n 0, 1) := by decide +kernel
theorem dX7_round_61 : decode cX7_round 61 = .ok (.invokevirtual 200, 3) := by decide +kernel
theorem dX7_round_64 : decode cX7_round 64 = .ok (.iload_n 1, 1) := by decide +kernel
theorem dX7_round_65 : decode cX7_round 65 = .ok (.ireturn, 1) := by decide +kernel
theorem dX7_lacks_0 : decode cX7_lacks 0 = .ok (.aload_n 0, 1) := by decide +kernel
theorem dX7_lacks_1 : decode cX7_lacks 1 = .ok (.getfield 13, 3) := by decide +kernel
theorem dX7_lacks_4 : decode cX7_lacks 4 = .ok (.iload_n 1, 1) := by decide +kernel
theorem dX7_lacks_5 : decode cX7_lacks 5 = .ok (.iaload, 1) := by decide +kernel
theorem dX7_lacks_6 : decode cX7_lacks 6 = .ok (.ifCond .ge 9, 3) := by decide +kernel
theorem dX7_lacks_9 : decode cX7_lacks 9 = .ok (.aload_n 0, 1) := by decide +kernel
theorem dX7_lacks_10 : decode cX7_lacks 10 = .ok (.iconst 1, 1) := by decide +kernel
theorem dX7_lacks_11 : decode cX7_lacks 11 = .ok (.invokevirtual 80, 3) := by decide +kernel
theorem dX7_lacks_14 : decode cX7_lacks 14 = .ok (.ireturn, 1) := by decide +kernel
theorem dX7_lacks_15 : decode cX7_lacks 15 = .ok (.iload_n 2, 1) := by decide +kernel
theorem dX7_lacks_16 : decode cX7_lacks 16 = .ok (.i2l, 1) := by decide +kernel
theorem dX7_lacks_17 : decode cX7_lacks 17 = .ok (.lconst 0, 1) := by decide +kernel
theorem dX7_lacks_18 : decode cX7_lacks 18 = .ok (.aload_n 0, 1) := by decide +kernel
theorem dX7_lacks_19 : decode cX7_lacks 19 = .ok (.getfield 13, 3) := by decide +kernel
theorem dX7_lacks_22 : decode cX7_lacks 22 = .ok (.iload_n 1, 1) := by decide +kernel
theorem dX7_lacks_23 : decode cX7_lacks 23 = .ok (.iaload, 1) := by decide +kernel
theorem dX7_lacks_24 : decode cX7_lacks 24 = .ok (.iload_n 3, 1) := by decide +kernel
theorem dX7_lacks_25 : decode cX7_lacks 25 = .ok (.isub, 1) := by decide +kernel
theorem dX7_lacks_26 : decode cX7_lacks 26 = .ok (.i2l, 1) := by decide +kernel
theorem dX7_lacks_27 : decode cX7_lacks 27 = .ok (.invokestatic 69, 3) := by decide +kernel
theorem dX7_lacks_30 : decode cX7_lacks 30 = .ok (.ifCond .eq 7, 3) := by decide +kernel
theorem dX7_lacks_33 : decode cX7_lacks 33 = .ok (.iconst 0, 1) := by decide +kernel
theorem dX7_lacks_34 : decode cX7_lacks 34 = .ok (.goto 8, 3) := by decide +kernel
theorem dX7_lacks_37 : decode cX7_lacks 37 = .ok (.aload_n 0, 1) := by decide +kernel
theorem dX7_lacks_38 : decode cX7_lacks 38 = .ok (.iconst 2, 1) := by decide +kernel
theorem dX7_lacks_39 : decode cX7_lacks 39 = .ok (.invokevirtual 80, 3) := by decide +kernel
theorem dX7_lacks_42 : decode cX7_lacks 42 = .ok (.ireturn, 1) := by decide +kernel
theorem dX7_isStealth_0 : decode cX7_isStealth 0 = .ok (.aload_n 0, 1) := by decide +kernel
theorem dX7_isStealth_1 : decode cX7_isStealth 1 = .ok (.invokevirtual 197, 3) := by decide +kernel
theorem dX7_isStealth_4 : decode cX7_isStealth 4 = .ok (.iconst 1, 1) := by decide +kernel
theorem dX7_isStealth_5 : decode cX7_isStealth 5 = .ok (.istore 4, 2) := by decide +kernel
theorem dX7_isStealth_7 : decode cX7_isStealth 7 = .ok (.iconst 0, 1) := by decide +kernel
theorem dX7_isStealth_8 : decode cX7_isStealth 8 = .ok (.istore 5, 2) := by decide +kernel
theorem dX7_isStealth_10 : decode cX7_isStealth 10 = .ok (.iload 5, 2) := by decide +kernel
theorem dX7_isStealth_12 : decode cX7_isStealth 12 = .ok (.iload_n 3, 1) := by decide +kernel
theorem dX7_isStealth_13 : decode cX7_isStealth 13 = .ok (.if_icmp .ge 74, 3) := by decide +kernel
theorem dX7_isStealth_16 : decode cX7_isStealth 16 = .ok (.iload_n 1, 1) := by decide +kernel
theorem dX7_isStealth_17 : decode cX7_isStealth 17 = .ok (.ifCond .lt 32, 3) := by decide +kernel
theorem dX7_isStealth_20 : decode cX7_isStealth 20 = .ok (.aload_n 0, 1) := by decide +kernel
theorem dX7_isStealth_21 : decode cX7_isStealth 21 = .ok (.getfield 19, 3) := by decide +kernel
theorem dX7_isStealth_24 : decode cX7_isStealth 24 = .ok (.bipush 35, 2) := by decide +kernel
theorem dX7_isStealth_26 : decode cX7_isStealth 26 = .ok (.iload_n 1, 1) := by decide +kernel
theorem dX7_isStealth_27 : decode cX7_isStealth 27 = .ok (.iadd, 1) := by decide +kernel
theorem dX7_isStealth_28 : decode cX7_isStealth 28 = .ok (.aload_n 0, 1) := by decide +kernel
theorem dX7_isStealth_29 : decode cX7_isStealth 29 = .ok (.iload_n 1, 1) := by decide +kernel
theorem dX7_isStealth_30 : decode cX7_isStealth 30 = .ok (.aload_n 0, 1) := by decide +kernel
theorem dX7_isStealth_31 : decode cX7_isStealth 31 = .ok (.getfield 19, 3) := by decide +kernel
theorem dX7_isStealth_34 : decode cX7_isStealth 34 = .ok (.bipush 35, 2) := by decide +kernel
theorem dX7_isStealth_36 : decode cX7_isStealth 36 = .ok (.iload_n 1, 1) := by decide +kernel
theorem dX7_isStealth_37 : decode cX7_isStealth 37 = .ok (.iadd, 1) := by decide +kernel
theorem dX7_isStealth_38 : decode cX7_isStealth 38 = .ok (.iaload, 1) := by decide +kernel
theorem dX7_isStealth_39 : decode cX7_isStealth 39 = .ok (.aload_n 0, 1) := by decide +kernel
theorem dX7_isStealth_40 : decode cX7_isStealth 40 = .ok (.getfield 19, 3) := by decide +kernel
theorem dX7_isStealth_43 : decode cX7_isStealth 43 = .ok (.iconst 3, 1) := by decide +kernel
theorem dX7_isStealth_44 : decode cX7_isStealth 44 = .ok (.iaload, 1) := by decide +kernel
theorem dX7_isStealth_45 : decode cX7_isStealth 45 = .ok (.invokevirtual 157, 3) := by decide +kernel
theorem dX7_isStealth_48 : decode cX7_isStealth 48 = .ok (.iastore, 1) := by decide +kernel
theorem dX7_isStealth_49 : decode cX7_isStealth 49 = .ok (.aload_n 0, 1) := by decide +kernel
theorem dX7_isStealth_50 : decode cX7_isStealth 50 = .ok (.invokevirtual 173, 3) := by decide +kernel
theorem dX7_isStealth_53 : decode cX7_isStealth 53 = .ok (.iload 4, 2) := by decide +kernel
theorem dX7_isStealth_55 : decode cX7_isStealth 55 = .ok (.ifCond .eq 23, 3) := by decide +kernel
theorem dX7_isStealth_58 : decode cX7_isStealth 58 = .ok (.aload_n 0, 1) := by decide +kernel
theorem dX7_isStealth_59 : decode cX7_isStealth 59 = .ok (.getfield 16, 3) := by decide +kernel
theorem dX7_isStealth_62 : decode cX7_isStealth 62 = .ok (.iload_n 2, 1) := by decide +kernel
theorem dX7_isStealth_63 : decode cX7_isStealth 63 = .ok (.iload 5, 2) := by decide +kernel
theorem dX7_isStealth_65 : decode cX7_isStealth 65 = .ok (.iadd, 1) := by decide +kernel
theorem dX7_isStealth_66 : decode cX7_isStealth 66 = .ok (.iaload, 1) := by decide +kernel
theorem dX7_isStealth_67 : decode cX7_isStealth 67 = .ok (.aload_n 0, 1) := by decide +kernel
theorem dX7_isStealth_68 : decode cX7_isStealth 68 = .ok (.invokevirtual 176, 3) := by decide +kernel
theorem dX7_isStealth_71 : decode cX7_isStealth 71 = .ok (.if_icmp .ne 7, 3) := by decide +kernel
theorem dX7_isStealth_74 : decode cX7_isStealth 74 = .ok (.iconst 1, 1) := by decide +kernel
theorem dX7_isStealth_75 : decode cX7_isStealth 75 = .ok (.goto 4, 3) := by decide +kernel
theorem dX7_isStealth_78 : decode cX7_isStealth 78 = .ok (.iconst 0, 1) := by decide +kernel
theorem dX7_isStealth_79 : decode cX7_isStealth 79 = .ok (.istore 4, 2) := by decide +kernel
theorem dX7_isStealth_81 : decode cX7_isStealth 81 = .ok (.iinc 5 1, 3) := by decide +kernel
theorem dX7_isStealth_84 : decode cX7_isStealth 84 = .ok (.goto (-74), 3) := by decide +kernel
theorem dX7_isStealth_87 : decode cX7_isStealth 87 = .ok (.aload_n 0, 1) := by decide +kernel
theorem dX7_isStealth_88 : decode cX7_isStealth 88 = .ok (.invokevirtual 200, 3) := by decide +kernel
theorem dX7_isStealth_91 : decode cX7_isStealth 91 = .ok (.iload 4, 2) := by decide +kernel
theorem dX7_isStealth_93 : decode cX7_isStealth 93 = .ok (.ireturn, 1) := by decide +kernel
theorem dX7_stealth_0 : decode cX7_stealth 0 = .ok (.aload_n 0, 1) := by decide +kernel
theorem dX7_stealth_1 : decode cX7_stealth 1 = .ok (.getfield 147, 3) := by decide +kernel
theorem dX7_stealth_4 : decode cX7_stealth 4 = .ok (.ifCond .ne 6, 3) := by decide +kernel
theorem dX7_stealth_7 : decode cX7_stealth 7 = .ok (.ldc 167, 2) := by decide +kernel
theorem dX7_stealth_9 : decode cX7_stealth 9 = .ok (.ireturn, 1) := by decide +kernel
theorem dX7_stealth_10 : decode cX7_stealth 10 = .ok (.iload_n 1, 1) := by decide +kernel
theorem dX7_stealth_11 : decode cX7_stealth 11 = .ok (.invokestatic 73, 3) := by decide +kernel
theorem dX7_stealth_14 : decode cX7_stealth 14 = .ok (.ifCond .eq 15, 3) := by decide +kernel
theorem dX7_stealth_17 : decode cX7_stealth 17 = .ok (.iload_n 3, 1) := by decide +kernel
theorem dX7_stealth_18 : decode cX7_stealth 18 = .ok (.i2l, 1) := by decide +kernel
theorem dX7_stealth_19 : decode cX7_stealth 19 = .ok (.lconst 1, 1) := by decide +kernel
theorem dX7_stealth_20 : decode cX7_stealth 20 = .ok (.ldc2_w 231, 3) := by decide +kernel
theorem dX7_stealth_23 : decode cX7_stealth 23 = .ok (.invokestatic 69, 3) := by decide +kernel
theorem dX7_stealth_26 : decode cX7_stealth 26 = .ok (.ifCond .ne 6, 3) := by decide +kernel
theorem dX7_stealth_29 : decode cX7_stealth 29 = .ok (.ldc 79, 2) := by decide +kernel
theorem dX7_stealth_31 : decode cX7_stealth 31 = .ok (.ireturn, 1) := by decide +kernel
theorem dX7_stealth_32 : decode cX7_stealth 32 = .ok (.aload_n 0, 1) := by decide +kernel
theorem dX7_stealth_33 : decode cX7_stealth 33 = .ok (.iload_n 1, 1) := by decide +kernel
theorem dX7_stealth_34 : decode cX7_stealth 34 = .ok (.iload_n 2, 1) := by decide +kernel
theorem dX7_stealth_35 : decode cX7_stealth 35 = .ok (.iload_n 3, 1) := by decide +kernel
theorem dX7_stealth_36 : decode cX7_stealth 36 = .ok (.invokevirtual 233, 3) := by decide +kernel
theorem dX7_stealth_39 : decode cX7_stealth 39 = .ok (.istore 4, 2) := by decide +kernel
theorem dX7_stealth_41 : decode cX7_stealth 41 = .ok (.iload 4, 2) := by decide +kernel
theorem dX7_stealth_43 : decode cX7_stealth 43 = .ok (.ifCond .ge 6, 3) := by decide +kernel
theorem dX7_stealth_46 : decode cX7_stealth 46 = .ok (.iload 4, 2) := by decide +kernel
theorem dX7_stealth_48 : decode cX7_stealth 48 = .ok (.ireturn, 1) := by decide +kernel
theorem dX7_stealth_49 : decode cX7_stealth 49 = .ok (.aload_n 0, 1) := by decide +kernel
theorem dX7_stealth_50 : decode cX7_stealth 50 = .ok (.iconst (-1), 1) := by decide +kernel
theorem dX7_stealth_51 : decode cX7_stealth 51 = .ok (.bipush 40, 2) := by decide +kernel
theorem dX7_stealth_53 : decode cX7_stealth 53 = .ok (.iload_n 1, 1) := by decide +kernel
theorem dX7_stealth_54 : decode cX7_stealth 54 = .ok (.imul, 1) := by decide +kernel
theorem dX7_stealth_55 : decode cX7_stealth 55 = .ok (.iload_n 2, 1) := by decide +kernel
theorem dX7_stealth_56 : decode cX7_stealth 56 = .ok (.iadd, 1) := by decide +kernel
theorem dX7_stealth_57 : decode cX7_stealth 57 = .ok (.iload_n 3, 1) := by decide +kernel
theorem dX7_stealth_58 : decode cX7_stealth 58 = .ok (.invokevirtual 236, 3) := by decide +kernel
theorem dX7_stealth_61 : decode cX7_stealth 61 = .ok (.ifCond .eq 8, 3) := by decide +kernel
theorem dX7_stealth_64 : decode cX7_stealth 64 = .ok (.bipush 64, 2) := by decide +kernel
theorem dX7_stealth_66 : decode cX7_stealth 66 = .ok (.goto 4, 3) := by decide +kernel
theorem dX7_stealth_69 : decode cX7_stealth 69 = .ok (.iconst 0, 1) := by decide +kernel
theorem dX7_stealth_70 : decode cX7_stealth 70 = .ok (.istore 5, 2) := by decide +kernel
theorem dX7_stealth_72 : decode cX7_stealth 72 = .ok (.iconst 0, 1) := by decide +kernel
theorem dX7_stealth_73 : decode cX7_stealth 73 = .ok (.istore 6, 2) := by decide +kernel
theorem dX7_stealth_75 : decode cX7_stealth 75 = .ok (.iload 6, 2) := by decide +kernel
theorem dX7_stealth_77 : decode cX7_stealth 77 = .ok (.aload_n 0, 1) := by decide +kernel
theorem dX7_stealth_78 : decode cX7_stealth 78 = .ok (.getfield 19, 3) := by decide +kernel
theorem dX7_stealth_81 : decode cX7_stealth 81 = .ok (.iconst 2, 1) := by decide +kernel
theorem dX7_stealth_82 : decode cX7_stealth 82 = .ok (.iaload, 1) := by decide +kernel
theorem dX7_stealth_83 : decode cX7_stealth 83 = .ok (.if_icmp .ge 38, 3) := by decide +kernel
theorem dX7_stealth_86 : decode cX7_stealth 86 = .ok (.iload 5, 2) := by decide +kernel
theorem dX7_stealth_88 : decode cX7_stealth 88 = .ok (.aload_n 0, 1) := by decide +kernel
theorem dX7_stealth_89 : decode cX7_stealth 89 = .ok (.iload 6, 2) := by decide +kernel
theorem dX7_stealth_91 : decode cX7_stealth 91 = .ok (.bipush 40, 2) := by decide +kernel
theorem dX7_stealth_93 : decode cX7_stealth 93 = .ok (.iload_n 1, 1) := by decide +kernel
theorem dX7_stealth_94 : decode cX7_stealth 94 = .ok (.imul, 1) := by decide +kernel
theorem dX7_stealth_95 : decode cX7_stealth 95 = .ok (.iload_n 2, 1) := by decide +kernel
theorem dX7_stealth_96 : decode cX7_stealth 96 = .ok (.iadd, 1) := by decide +kernel
theorem dX7_stealth_97 : decode cX7_stealth 97 = .ok (.iload_n 3, 1) := by decide +kernel
theorem dX7_stealth_98 : decode cX7_stealth 98 = .ok (.invokevirtual 236, 3) := by decide +kernel
theorem dX7_stealth_101 : decode cX7_stealth 101 = .ok (.ifCond .eq 10, 3) := by decide +kernel
theorem dX7_stealth_104 : decode cX7_stealth 104 = .ok (.iconst 1, 1) := by decide +kernel
theorem dX7_stealth_105 : decode cX7_stealth 105 = .ok (.iload 6, 2) := by decide +kernel
theorem dX7_stealth_107 : decode cX7_stealth 107 = .ok (.ishl, 1) := by decide +kernel
theorem dX7_stealth_108 : decode cX7_stealth 108 = .ok (.goto 4, 3) := by decide +kernel
theorem dX7_stealth_111 : decode cX7_stealth 111 = .ok (.iconst 0, 1) := by decide +kernel
theorem dX7_stealth_112 : decode cX7_stealth 112 = .ok (.ior, 1) := by decide +kernel
theorem dX7_stealth_113 : decode cX7_stealth 113 = .ok (.istore 5, 2) := by decide +kernel
theorem dX7_stealth_115 : decode cX7_stealth 115 = .ok (.iinc 6 1, 3) := by decide +kernel
theorem dX7_stealth_118 : decode cX7_stealth 118 = .ok (.goto (-43), 3) := by decide +kernel
theorem dX7_stealth_121 : decode cX7_stealth 121 = .ok (.aload_n 0, 1) := by decide +kernel
theorem dX7_stealth_122 : decode cX7_stealth 122 = .ok (.iload 5, 2) := by decide +kernel
theorem dX7_stealth_124 : decode cX7_stealth 124 = .ok (.invokevirtual 84, 3) := by decide +kernel
theorem dX7_stealth_127 : decode cX7_stealth 127 = .ok (.ireturn, 1) := by decide +kernel
theorem dX7_who_0 : decode cX7_who 0 = .ok (.aload_n 0, 1) := by decide +kernel
theorem dX7_who_1 : decode cX7_who 1 = .ok (.iload_n 1, 1) := by decide +kernel
theorem dX7_who_2 : decode cX7_who 2 = .ok (.invokevirtual 180, 3) := by decide +kernel
theorem dX7_who_5 : decode cX7_who 5 = .ok (.ifCond .eq 23, 3) := by decide +kernel
theorem dX7_who_8 : decode cX7_who 8 = .ok (.iload_n 2, 1) := by decide +kernel
theorem dX7_who_9 : decode cX7_who 9 = .ok (.invokestatic 73, 3) := by decide +kernel
theorem dX7_who_12 : decode cX7_who 12 = .ok (.ifCond .eq 16, 3) := by decide +kernel
theorem dX7_who_15 : decode cX7_who 15 = .ok (.iload 4, 2) := by decide +kernel
theorem dX7_who_17 : decode cX7_who 17 = .ok (.i2l, 1) := by decide +kernel
theorem dX7_who_18 : decode cX7_who 18 = .ok (.lconst 1, 1) := by decide +kernel
theorem dX7_who_19 : decode cX7_who 19 = .ok (.ldc2_w 231, 3) := by decide +kernel
theorem dX7_who_22 : decode cX7_who 22 = .ok (.invokestatic 69, 3) := by decide +kernel
theorem dX7_who_25 : decode cX7_who 25 = .ok (.ifCond .ne 6, 3) := by decide +kernel
theorem dX7_who_28 : decode cX7_who 28 = .ok (.ldc 79, 2) := by decide +kernel
theorem dX7_who_30 : decode cX7_who 30 = .ok (.ireturn, 1) := by decide +kernel
theorem dX7_who_31 : decode cX7_who 31 = .ok (.aload_n 0, 1) := by decide +kernel
theorem dX7_who_32 : decode cX7_who 32 = .ok (.iload_n 2, 1) := by decide +kernel
theorem dX7_who_33 : decode cX7_who 33 = .ok (.iload_n 3, 1) := by decide +kernel
theorem dX7_who_34 : decode cX7_who 34 = .ok (.iload 4, 2) := by decide +kernel
theorem dX7_who_36 : decode cX7_who 36 = .ok (.invokevirtual 233, 3) := by decide +kernel
theorem dX7_who_39 : decode cX7_who 39 = .ok (.istore 5, 2) := by decide +kernel
theorem dX7_who_41 : decode cX7_who 41 = .ok (.iload 5, 2) := by decide +kernel
theorem dX7_who_43 : decode cX7_who 43 = .ok (.ifCond .ge 6, 3) := by decide +kernel
theorem dX7_who_46 : decode cX7_who 46 = .ok (.iload 5, 2) := by decide +kernel
theorem dX7_who_48 : decode cX7_who 48 = .ok (.ireturn, 1) := by decide +kernel
theorem dX7_who_49 : decode cX7_who 49 = .ok (.aload_n 0, 1) := by decide +kernel
theorem dX7_who_50 : decode cX7_who 50 = .ok (.getfield 19, 3) := by decide +kernel
theorem dX7_who_53 : decode cX7_who 53 = .ok (.iconst 5, 1) := by decide +kernel
theorem dX7_who_54 : decode cX7_who 54 = .ok (.iload_n 1, 1) := by decide +kernel
theorem dX7_who_55 : decode cX7_who 55 = .ok (.iadd, 1) := by decide +kernel
theorem dX7_who_56 : decode cX7_who 56 = .ok (.iaload, 1) := by decide +kernel
theorem dX7_who_57 : decode cX7_who 57 = .ok (.istore 6, 2) := by decide +kernel
theorem dX7_who_59 : decode cX7_who 59 = .ok (.iconst 0, 1) := by decide +kernel
theorem dX7_who_60 : decode cX7_who 60 = .ok (.istore 7, 2) := by decide +kernel
theorem dX7_who_62 : decode cX7_who 62 = .ok (.iconst 1, 1) := by decide +kernel
theorem dX7_who_63 : decode cX7_who 63 = .ok (.istore 8, 2) := by decide +kernel
theorem dX7_who_65 : decode cX7_who 65 = .ok (.iload 8, 2) := by decide +kernel
theorem dX7_who_67 : decode cX7_who 67 = .ok (.iconst 5, 1) := by decide +kernel
theorem dX7_who_68 : decode cX7_who 68 = .ok (.if_icmp .gt 116, 3) := by decide +kernel
theorem dX7_who_71 : decode cX7_who 71 = .ok (.aload_n 0, 1) := by decide +kernel
theorem dX7_who_72 : decode cX7_who 72 = .ok (.getfield 19, 3) := by decide +kernel
theorem dX7_who_75 : decode cX7_who 75 = .ok (.iconst 5, 1) := by decide +kernel
theorem dX7_who_76 : decode cX7_who 76 = .ok (.iload_n 1, 1) := by decide +kernel
theorem dX7_who_77 : decode cX7_who 77 = .ok (.iadd, 1) := by decide +kernel
theorem dX7_who_78 : decode cX7_who 78 = .ok (.iload 8, 2) := by decide +kernel
theorem dX7_who_80 : decode cX7_who 80 = .ok (.iastore, 1) := by decide +kernel
theorem dX7_who_81 : decode cX7_who 81 = .ok (.aload_n 0, 1) := by decide +kernel
theorem dX7_who_82 : decode cX7_who 82 = .ok (.getfield 19, 3) := by decide +kernel
theorem dX7_who_85 : decode cX7_who 85 = .ok (.bipush 35, 2) := by decide +kernel
theorem dX7_who_87 : decode cX7_who 87 = .ok (.iload_n 1, 1) := by decide +kernel
theorem dX7_who_88 : decode cX7_who 88 = .ok (.iadd, 1) := by decide +kernel
theorem dX7_who_89 : decode cX7_who 89 = .ok (.iaload, 1) := by decide +kernel
theorem dX7_who_90 : decode cX7_who 90 = .ok (.istore 9, 2) := by decide +kernel
theorem dX7_who_92 : decode cX7_who 92 = .ok (.iconst 1, 1) := by decide +kernel
theorem dX7_who_93 : decode cX7_who 93 = .ok (.istore 10, 2) := by decide +kernel
theorem dX7_who_95 : decode cX7_who 95 = .ok (.iconst 0, 1) := by decide +kernel
theorem dX7_who_96 : decode cX7_who 96 = .ok (.istore 11, 2) := by decide +kernel
theorem dX7_who_98 : decode cX7_who 98 = .ok (.iload 11, 2) := by decide +kernel
theorem dX7_who_100 : decode cX7_who 100 = .ok (.iload 4, 2) := by decide +kernel
theorem dX7_who_102 : decode cX7_who 102 = .ok (.if_icmp .ge 58, 3) := by decide +kernel
theorem dX7_who_105 : decode cX7_who 105 = .ok (.aload_n 0, 1) := by decide +kernel
theorem dX7_who_106 : decode cX7_who 106 = .ok (.iload_n 1, 1) := by decide +kernel
theorem dX7_who_107 : decode cX7_who 107 = .ok (.iload 9, 2) := by decide +kernel
theorem dX7_who_109 : decode cX7_who 109 = .ok (.aload_n 0, 1) := by decide +kernel
theorem dX7_who_110 : decode cX7_who 110 = .ok (.getfield 19, 3) := by decide +kernel
theorem dX7_who_113 : decode cX7_who 113 = .ok (.iconst 3, 1) := by decide +kernel
theorem dX7_who_114 : decode cX7_who 114 = .ok (.iaload, 1) := by decide +kernel
theorem dX7_who_115 : decode cX7_who 115 = .ok (.iload 11, 2) := by decide +kernel
theorem dX7_who_117 : decode cX7_who 117 = .ok (.iadd, 1) := by decide +kernel
theorem dX7_who_118 : decode cX7_who 118 = .ok (.invokevirtual 157, 3) := by decide +kernel
theorem dX7_who_121 : decode cX7_who 121 = .ok (.istore 9, 2) := by decide +kernel
theorem dX7_who_123 : decode cX7_who 123 = .ok (.iload 10, 2) := by decide +kernel
theorem dX7_who_125 : decode cX7_who 125 = .ok (.ifCond .eq 26, 3) := by decide +kernel
theorem dX7_who_128 : decode cX7_who 128 = .ok (.aload_n 0, 1) := by decide +kernel
theorem dX7_who_129 : decode cX7_who 129 = .ok (.getfield 16, 3) := by decide +kernel
theorem dX7_who_132 : decode cX7_who 132 = .ok (.bipush 40, 2) := by decide +kernel
theorem dX7_who_134 : decode cX7_who 134 = .ok (.iload_n 2, 1) := by decide +kernel
theorem dX7_who_135 : decode cX7_who 135 = .ok (.imul, 1) := by decide +kernel
theorem dX7_who_136 : decode cX7_who 136 = .ok (.iload_n 3, 1) := by decide +kernel
theorem dX7_who_137 : decode cX7_who 137 = .ok (.iadd, 1) := by decide +kernel
theorem dX7_who_138 : decode cX7_who 138 = .ok (.iload 11, 2) := by decide +kernel
theorem dX7_who_140 : decode cX7_who 140 = .ok (.iadd, 1) := by decide +kernel
theorem dX7_who_141 : decode cX7_who 141 = .ok (.iaload, 1) := by decide +kernel
theorem dX7_who_142 : decode cX7_who 142 = .ok (.iload 9, 2) := by decide +kernel
theorem dX7_who_144 : decode cX7_who 144 = .ok (.if_icmp .ne 7, 3) := by decide +kernel
theorem dX7_who_147 : decode cX7_who 147 = .ok (.iconst 1, 1) := by decide +kernel
theorem dX7_who_148 : decode cX7_who 148 = .ok (.goto 4, 3) := by decide +kernel
theorem dX7_who_151 : decode cX7_who 151 = .ok (.iconst 0, 1) := by decide +kernel
theorem dX7_who_152 : decode cX7_who 152 = .ok (.istore 10, 2) := by decide +kernel
theorem dX7_who_154 : decode cX7_who 154 = .ok (.iinc 11 1, 3) := by decide +kernel
theorem dX7_who_157 : decode cX7_who 157 = .ok (.goto (-59), 3) := by decide +kernel
theorem dX7_who_160 : decode cX7_who 160 = .ok (.iload 7, 2) := by decide +kernel
theorem dX7_who_162 : decode cX7_who 162 = .ok (.iload 10, 2) := by decide +kernel
theorem dX7_who_164 : decode cX7_who 164 = .ok (.ifCond .eq 10, 3) := by decide +kernel
theorem dX7_who_167 : decode cX7_who 167 = .ok (.iconst 1, 1) := by decide +kernel
theorem dX7_who_168 : decode cX7_who 168 = .ok (.iload 8, 2) := by decide +kernel
theorem dX7_who_170 : decode cX7_who 170 = .ok (.ishl, 1) := by decide +kernel
theorem dX7_who_171 : decode cX7_who 171 = .ok (.goto 4, 3) := by decide +kernel
theorem dX7_who_174 : decode cX7_who 174 = .ok (.iconst 0, 1) := by decide +kernel
theorem dX7_who_175 : decode cX7_who 175 = .ok (.ior, 1) := by decide +kernel
theorem dX7_who_176 : decode cX7_who 176 = .ok (.istore 7, 2) := by decide +kernel
theorem dX7_who_178 : decode cX7_who 178 = .ok (.iinc 8 1, 3) := by decide +kernel
theorem dX7_who_181 : decode cX7_who 181 = .ok (.goto (-116), 3) := by decide +kernel
theorem dX7_who_184 : decode cX7_who 184 = .ok (.aload_n 0, 1) := by decide +kernel
theorem dX7_who_185 : decode cX7_who 185 = .ok (.getfield 19, 3) := by decide +kernel
theorem dX7_who_188 : decode cX7_who 188 = .ok (.iconst 5, 1) := by decide +kernel
theorem dX7_who_189 : decode cX7_who 189 = .ok (.iload_n 1, 1) := by decide +kernel
theorem dX7_who_190 : decode cX7_who 190 = .ok (.iadd, 1) := by decide +kernel
theorem dX7_who_191 : decode cX7_who 191 = .ok (.iload 6, 2) := by decide +kernel
theorem dX7_who_193 : decode cX7_who 193 = .ok (.iastore, 1) := by decide +kernel
theorem dX7_who_194 : decode cX7_who 194 = .ok (.aload_n 0, 1) := by decide +kernel
theorem dX7_who_195 : decode cX7_who 195 = .ok (.iload 7, 2) := by decide +kernel
theorem dX7_who_197 : decode cX7_who 197 = .ok (.invokevirtual 84, 3) := by decide +kernel
theorem dX7_who_200 : decode cX7_who 200 = .ok (.ireturn, 1) := by decide +kernel
theorem dX7_leastMay_0 : decode cX7_leastMay 0 = .ok (.aload_n 0, 1) := by decide +kernel
theorem dX7_leastMay_1 : decode cX7_leastMay 1 = .ok (.getfield 147, 3) := by decide +kernel
theorem dX7_leastMay_4 : decode cX7_leastMay 4 = .ok (.ifCond .ne 6, 3) := by decide +kernel
theorem dX7_leastMay_7 : decode cX7_leastMay 7 = .ok (.ldc 167, 2) := by decide +kernel
theorem dX7_leastMay_9 : decode cX7_leastMay 9 = .ok (.ireturn, 1) := by decide +kernel
theorem dX7_leastMay_10 : decode cX7_leastMay 10 = .ok (.iload_n 1, 1) := by decide +kernel
theorem dX7_leastMay_11 : decode cX7_leastMay 11 = .ok (.i2l, 1) := by decide +kernel
theorem dX7_leastMay_12 : decode cX7_leastMay 12 = .ok (.lconst 0, 1) := by decide +kernel
theorem dX7_leastMay_13 : decode cX7_leastMay 13 = .ok (.ldc2_w 195, 3) := by decide +kernel
theorem dX7_leastMay_16 : decode cX7_leastMay 16 = .ok (.invokestatic 69, 3) := by decide +kernel
theorem dX7_leastMay_19 : decode cX7_leastMay 19 = .ok (.ifCond .ne 6, 3) := by decide +kernel
theorem dX7_leastMay_22 : decode cX7_leastMay 22 = .ok (.ldc 79, 2) := by decide +kernel
theorem dX7_leastMay_24 : decode cX7_leastMay 24 = .ok (.ireturn, 1) := by decide +kernel
theorem dX7_leastMay_25 : decode cX7_leastMay 25 = .ok (.aload_n 0, 1) := by decide +kernel
theorem dX7_leastMay_26 : decode cX7_leastMay 26 = .ok (.invokevirtual 197, 3) := by decide +kernel
theorem dX7_leastMay_29 : decode cX7_leastMay 29 = .ok (.iconst 0, 1) := by decide +kernel
theorem dX7_leastMay_30 : decode cX7_leastMay 30 = .ok (.istore_n 2, 1) := by decide +kernel
theorem dX7_leastMay_31 : decode cX7_leastMay 31 = .ok (.iconst 0, 1) := by decide +kernel
theorem dX7_leastMay_32 : decode cX7_leastMay 32 = .ok (.istore_n 3, 1) := by decide +kernel
theorem dX7_leastMay_33 : decode cX7_leastMay 33 = .ok (.iload_n 3, 1) := by decide +kernel
theorem dX7_leastMay_34 : decode cX7_leastMay 34 = .ok (.iload_n 1, 1) := by decide +kernel
theorem dX7_leastMay_35 : decode cX7_leastMay 35 = .ok (.if_icmp .gt 54, 3) := by decide +kernel
theorem dX7_leastMay_38 : decode cX7_leastMay 38 = .ok (.iconst 0, 1) := by decide +kernel
theorem dX7_leastMay_39 : decode cX7_leastMay 39 = .ok (.istore 4, 2) := by decide +kernel
theorem dX7_leastMay_41 : decode cX7_leastMay 41 = .ok (.iload 4, 2) := by decide +kernel
theorem dX7_leastMay_43 : decode cX7_leastMay 43 = .ok (.aload_n 0, 1) := by decide +kernel
theorem dX7_leastMay_44 : decode cX7_leastMay 44 = .ok (.getfield 19, 3) := by decide +kernel
theorem dX7_leastMay_47 : decode cX7_leastMay 47 = .ok (.iconst 2, 1) := by decide +kernel
theorem dX7_leastMay_48 : decode cX7_leastMay 48 = .ok (.iaload, 1) := by decide +kernel
theorem dX7_leastMay_49 : decode cX7_leastMay 49 = .ok (.if_icmp .ge 30, 3) := by decide +kernel
theorem dX7_leastMay_52 : decode cX7_leastMay 52 = .ok (.aload_n 0, 1) := by decide +kernel
theorem dX7_leastMay_53 : decode cX7_leastMay 53 = .ok (.iload 4, 2) := by decide +kernel
theorem dX7_leastMay_55 : decode cX7_leastMay 55 = .ok (.invokevirtual 164, 3) := by decide +kernel
theorem dX7_leastMay_58 : decode cX7_leastMay 58 = .ok (.iload_n 2, 1) := by decide +kernel
theorem dX7_leastMay_59 : decode cX7_leastMay 59 = .ok (.if_icmp .le 12, 3) := by decide +kernel
theorem dX7_leastMay_62 : decode cX7_leastMay 62 = .ok (.aload_n 0, 1) := by decide +kernel
theorem dX7_leastMay_63 : decode cX7_leastMay 63 = .ok (.iload 4, 2) := by decide +kernel
theorem dX7_leastMay_65 : decode cX7_leastMay 65 = .ok (.invokevirtual 164, 3) := by decide +kernel
theorem dX7_leastMay_68 : decode cX7_leastMay 68 = .ok (.goto 4, 3) := by decide +kernel
theorem dX7_leastMay_71 : decode cX7_leastMay 71 = .ok (.iload_n 2, 1) := by decide +kernel
theorem dX7_leastMay_72 : decode cX7_leastMay 72 = .ok (.istore_n 2, 1) := by decide +kernel
theorem dX7_leastMay_73 : decode cX7_leastMay 73 = .ok (.iinc 4 1, 3) := by decide +kernel
theorem dX7_leastMay_76 : decode cX7_leastMay 76 = .ok (.goto (-35), 3) := by decide +kernel
theorem dX7_leastMay_79 : decode cX7_leastMay 79 = .ok (.aload_n 0, 1) := by decide +kernel
theorem dX7_leastMay_80 : decode cX7_leastMay 80 = .ok (.invokevirtual 173, 3) := by decide +kernel
theorem dX7_leastMay_83 : decode cX7_leastMay 83 = .ok (.iinc 3 1, 3) := by decide +kernel
theorem dX7_leastMay_86 : decode cX7_leastMay 86 = .ok (.goto (-53), 3) := by decide +kernel
theorem dX7_leastMay_89 : decode cX7_leastMay 89 = .ok (.aload_n 0, 1) := by decide +kernel
theorem dX7_leastMay_90 : decode cX7_leastMay 90 = .ok (.invokevirtual 200, 3) := by decide +kernel
theorem dX7_leastMay_93 : decode cX7_leastMay 93 = .ok (.iload_n 2, 1) := by decide +kernel
theorem dX7_leastMay_94 : decode cX7_leastMay 94 = .ok (.ireturn, 1) := by decide +kernel
theorem dX7_odds_0 : decode cX7_odds 0 = .ok (.aload_n 0, 1) := by decide +kernel
theorem dX7_odds_1 : decode cX7_odds 1 = .ok (.iload_n 1, 1) := by decide +kernel
theorem dX7_odds_2 : decode cX7_odds 2 = .ok (.invokevirtual 180, 3) := by decide +kernel
theorem dX7_odds_5 : decode cX7_odds 5 = .ok (.ifCond .eq 38, 3) := by decide +kernel
theorem dX7_odds_8 : decode cX7_odds 8 = .ok (.iload_n 2, 1) := by decide +kernel
theorem dX7_odds_9 : decode cX7_odds 9 = .ok (.i2l, 1) := by decide +kernel
theorem dX7_odds_10 : decode cX7_odds 10 = .ok (.lconst 0, 1) := by decide +kernel
theorem dX7_odds_11 : decode cX7_odds 11 = .ok (.ldc2_w 239, 3) := by decide +kernel
theorem dX7_odds_14 : decode cX7_odds 14 = .ok (.invokestatic 69, 3) := by decide +kernel
theorem dX7_odds_17 : decode cX7_odds 17 = .ok (.ifCond .eq 26, 3) := by decide +kernel
theorem dX7_odds_20 : decode cX7_odds 20 = .ok (.iload_n 3, 1) := by decide +kernel
theorem dX7_odds_21 : decode cX7_odds 21 = .ok (.i2l, 1) := by decide +kernel
theorem dX7_odds_22 : decode cX7_odds 22 = .ok (.lconst 0, 1) := by decide +kernel
theorem dX7_odds_23 : decode cX7_odds 23 = .ok (.ldc2_w 189, 3) := by decide +kernel
theorem dX7_odds_26 : decode cX7_odds 26 = .ok (.invokestatic 69, 3) := by decide +kernel
theorem dX7_odds_29 : decode cX7_odds 29 = .ok (.ifCond .eq 14, 3) := by decide +kernel
theorem dX7_odds_32 : decode cX7_odds 32 = .ok (.iload 4, 2) := by decide +kernel
theorem dX7_odds_34 : decode cX7_odds 34 = .ok (.i2l, 1) := by decide +kernel
theorem dX7_odds_35 : decode cX7_odds 35 = .ok (.lconst 0, 1) := by decide +kernel
theorem dX7_odds_36 : decode cX7_odds 36 = .ok (.lconst 1, 1) := by decide +kernel
theorem dX7_odds_37 : decode cX7_odds 37 = .ok (.invokestatic 69, 3) := by decide +kernel
theorem dX7_odds_40 : decode cX7_odds 40 = .ok (.ifCond .ne 7, 3) := by decide +kernel
theorem dX7_odds_43 : decode cX7_odds 43 = .ok (.ldc2_w 241, 3) := by decide +kernel
theorem dX7_odds_46 : decode cX7_odds 46 = .ok (.lreturn, 1) := by decide +kernel
theorem dX7_odds_47 : decode cX7_odds 47 = .ok (.aload_n 0, 1) := by decide +kernel
theorem dX7_odds_48 : decode cX7_odds 48 = .ok (.getfield 19, 3) := by decide +kernel
theorem dX7_odds_51 : decode cX7_odds 51 = .ok (.iconst 5, 1) := by decide +kernel
theorem dX7_odds_52 : decode cX7_odds 52 = .ok (.iload_n 1, 1) := by decide +kernel
theorem dX7_odds_53 : decode cX7_odds 53 = .ok (.iadd, 1) := by decide +kernel
theorem dX7_odds_54 : decode cX7_odds 54 = .ok (.iaload, 1) := by decide +kernel
theorem dX7_odds_55 : decode cX7_odds 55 = .ok (.iconst 2, 1) := by decide +kernel
theorem dX7_odds_56 : decode cX7_odds 56 = .ok (.if_icmp .le 7, 3) := by decide +kernel
theorem dX7_odds_59 : decode cX7_odds 59 = .ok (.ldc2_w 243, 3) := by decide +kernel
theorem dX7_odds_62 : decode cX7_odds 62 = .ok (.lreturn, 1) := by decide +kernel
theorem dX7_odds_63 : decode cX7_odds 63 = .ok (.lconst 0, 1) := by decide +kernel
theorem dX7_odds_64 : decode cX7_odds 64 = .ok (.lstore 5, 2) := by decide +kernel
theorem dX7_odds_66 : decode cX7_odds 66 = .ok (.lconst 1, 1) := by decide +kernel
theorem dX7_odds_67 : decode cX7_odds 67 = .ok (.lstore 7, 2) := by decide +kernel
theorem dX7_odds_69 : decode cX7_odds 69 = .ok (.iconst 0, 1) := by decide +kernel
theorem dX7_odds_70 : decode cX7_odds 70 = .ok (.istore 9, 2) := by decide +kernel
theorem dX7_odds_72 : decode cX7_odds 72 = .ok (.iload 9, 2) := by decide +kernel
theorem dX7_odds_74 : decode cX7_odds 74 = .ok (.iload_n 3, 1) := by decide +kernel
theorem dX7_odds_75 : decode cX7_odds 75 = .ok (.if_icmp .ge 17, 3) := by decide +kernel
theorem dX7_odds_78 : decode cX7_odds 78 = .ok (.lload 7, 2) := by decide +kernel
theorem dX7_odds_80 : decode cX7_odds 80 = .ok (.ldc2_w 239, 3) := by decide +kernel
theorem dX7_odds_83 : decode cX7_odds 83 = .ok (.lmul, 1) := by decide +kernel
theorem dX7_odds_84 : decode cX7_odds 84 = .ok (.lstore 7, 2) := by decide +kernel
theorem dX7_odds_86 : decode cX7_odds 86 = .ok (.iinc 9 1, 3) := by decide +kernel
theorem dX7_odds_89 : decode cX7_odds 89 = .ok (.goto (-17), 3) := by decide +kernel
theorem dX7_odds_92 : decode cX7_odds 92 = .ok (.iconst 0, 1) := by decide +kernel
theorem dX7_odds_93 : decode cX7_odds 93 = .ok (.istore 9, 2) := by decide +kernel
theorem dX7_odds_95 : decode cX7_odds 95 = .ok (.iload 9, 2) := by decide +kernel
theorem dX7_odds_97 : decode cX7_odds 97 = .ok (.iconst 1, 1) := by decide +kernel
theorem dX7_odds_98 : decode cX7_odds 98 = .ok (.iload_n 3, 1) := by decide +kernel
theorem dX7_odds_99 : decode cX7_odds 99 = .ok (.ishl, 1) := by decide +kernel
theorem dX7_odds_100 : decode cX7_odds 100 = .ok (.if_icmp .ge 123, 3) := by decide +kernel
theorem dX7_odds_103 : decode cX7_odds 103 = .ok (.lconst 1, 1) := by decide +kernel
theorem dX7_odds_104 : decode cX7_odds 104 = .ok (.lstore 10, 2) := by decide +kernel
theorem dX7_odds_106 : decode cX7_odds 106 = .ok (.aload_n 0, 1) := by decide +kernel
theorem dX7_odds_107 : decode cX7_odds 107 = .ok (.getfield 19, 3) := by decide +kernel
theorem dX7_odds_110 : decode cX7_odds 110 = .ok (.bipush 35, 2) := by decide +kernel
theorem dX7_odds_112 : decode cX7_odds 112 = .ok (.iload_n 1, 1) := by decide +kernel
theorem dX7_odds_113 : decode cX7_odds 113 = .ok (.iadd, 1) := by decide +kernel
theorem dX7_odds_114 : decode cX7_odds 114 = .ok (.iaload, 1) := by decide +kernel
theorem dX7_odds_115 : decode cX7_odds 115 = .ok (.istore 12, 2) := by decide +kernel
theorem dX7_odds_117 : decode cX7_odds 117 = .ok (.iconst 0, 1) := by decide +kernel
theorem dX7_odds_118 : decode cX7_odds 118 = .ok (.istore 13, 2) := by decide +kernel
theorem dX7_odds_120 : decode cX7_odds 120 = .ok (.iload 13, 2) := by decide +kernel
theorem dX7_odds_122 : decode cX7_odds 122 = .ok (.iload_n 3, 1) := by decide +kernel
theorem dX7_odds_123 : decode cX7_odds 123 = .ok (.if_icmp .ge 67, 3) := by decide +kernel
theorem dX7_odds_126 : decode cX7_odds 126 = .ok (.lload 10, 2) := by decide +kernel
theorem dX7_odds_128 : decode cX7_odds 128 = .ok (.iload 9, 2) := by decide +kernel
theorem dX7_odds_130 : decode cX7_odds 130 = .ok (.iload 13, 2) := by decide +kernel
theorem dX7_odds_132 : decode cX7_odds 132 = .ok (.invokestatic 212, 3) := by decide +kernel
theorem dX7_odds_135 : decode cX7_odds 135 = .ok (.ifCond .eq 8, 3) := by decide +kernel
theorem dX7_odds_138 : decode cX7_odds 138 = .ok (.iload_n 2, 1) := by decide +kernel
theorem dX7_odds_139 : decode cX7_odds 139 = .ok (.i2l, 1) := by decide +kernel
theorem dX7_odds_140 : decode cX7_odds 140 = .ok (.goto 8, 3) := by decide +kernel
theorem dX7_odds_143 : decode cX7_odds 143 = .ok (.bipush 10, 2) := by decide +kernel
theorem dX7_odds_145 : decode cX7_odds 145 = .ok (.iload_n 2, 1) := by decide +kernel
theorem dX7_odds_146 : decode cX7_odds 146 = .ok (.isub, 1) := by decide +kernel
theorem dX7_odds_147 : decode cX7_odds 147 = .ok (.i2l, 1) := by decide +kernel
theorem dX7_odds_148 : decode cX7_odds 148 = .ok (.lmul, 1) := by decide +kernel
theorem dX7_odds_149 : decode cX7_odds 149 = .ok (.lstore 10, 2) := by decide +kernel
theorem dX7_odds_151 : decode cX7_odds 151 = .ok (.iload 9, 2) := by decide +kernel
theorem dX7_odds_153 : decode cX7_odds 153 = .ok (.iload 13, 2) := by decide +kernel
theorem dX7_odds_155 : decode cX7_odds 155 = .ok (.invokestatic 212, 3) := by decide +kernel
theorem dX7_odds_158 : decode cX7_odds 158 = .ok (.ifCond .eq 22, 3) := by decide +kernel
theorem dX7_odds_161 : decode cX7_odds 161 = .ok (.aload_n 0, 1) := by decide +kernel
theorem dX7_odds_162 : decode cX7_odds 162 = .ok (.iload_n 1, 1) := by decide +kernel
theorem dX7_odds_163 : decode cX7_odds 163 = .ok (.iload 12, 2) := by decide +kernel
theorem dX7_odds_165 : decode cX7_odds 165 = .ok (.aload_n 0, 1) := by decide +kernel
theorem dX7_odds_166 : decode cX7_odds 166 = .ok (.getfield 19, 3) := by decide +kernel
theorem dX7_odds_169 : decode cX7_odds 169 = .ok (.iconst 3, 1) := by decide +kernel
theorem dX7_odds_170 : decode cX7_odds 170 = .ok (.iaload, 1) := by decide +kernel
theorem dX7_odds_171 : decode cX7_odds 171 = .ok (.iload 13, 2) := by decide +kernel
theorem dX7_odds_173 : decode cX7_odds 173 = .ok (.iadd, 1) := by decide +kernel
theorem dX7_odds_174 : decode cX7_odds 174 = .ok (.invokevirtual 157, 3) := by decide +kernel
theorem dX7_odds_177 : decode cX7_odds 177 = .ok (.goto 5, 3) := by decide +kernel
theorem dX7_odds_180 : decode cX7_odds 180 = .ok (.iload 12, 2) := by decide +kernel
theorem dX7_odds_182 : decode cX7_odds 182 = .ok (.istore 12, 2) := by decide +kernel
theorem dX7_odds_184 : decode cX7_odds 184 = .ok (.iinc 13 1, 3) := by decide +kernel
theorem dX7_odds_187 : decode cX7_odds 187 = .ok (.goto (-67), 3) := by decide +kernel
theorem dX7_odds_190 : decode cX7_odds 190 = .ok (.lload 5, 2) := by decide +kernel
theorem dX7_odds_192 : decode cX7_odds 192 = .ok (.aload_n 0, 1) := by decide +kernel
theorem dX7_odds_193 : decode cX7_odds 193 = .ok (.iload_n 1, 1) := by decide +kernel
theorem dX7_odds_194 : decode cX7_odds 194 = .ok (.iload 12, 2) := by decide +kernel
theorem dX7_odds_196 : decode cX7_odds 196 = .ok (.invokevirtual 161, 3) := by decide +kernel
theorem dX7_odds_199 : decode cX7_odds 199 = .ok (.aload_n 0, 1) := by decide +kernel
theorem dX7_odds_200 : decode cX7_odds 200 = .ok (.getfield 19, 3) := by decide +kernel
theorem dX7_odds_203 : decode cX7_odds 203 = .ok (.iconst 0, 1) := by decide +kernel
theorem dX7_odds_204 : decode cX7_odds 204 = .ok (.iaload, 1) := by decide +kernel
theorem dX7_odds_205 : decode cX7_odds 205 = .ok (.if_icmp .gt 8, 3) := by decide +kernel
theorem dX7_odds_208 : decode cX7_odds 208 = .ok (.lload 10, 2) := by decide +kernel
theorem dX7_odds_210 : decode cX7_odds 210 = .ok (.goto 4, 3) := by decide +kernel
theorem dX7_odds_213 : decode cX7_odds 213 = .ok (.lconst 0, 1) := by decide +kernel
theorem dX7_odds_214 : decode cX7_odds 214 = .ok (.ladd, 1) := by decide +kernel
theorem dX7_odds_215 : decode cX7_odds 215 = .ok (.lstore 5, 2) := by decide +kernel
theorem dX7_odds_217 : decode cX7_odds 217 = .ok (.iinc 9 1, 3) := by decide +kernel
theorem dX7_odds_220 : decode cX7_odds 220 = .ok (.goto (-125), 3) := by decide +kernel
theorem dX7_odds_223 : decode cX7_odds 223 = .ok (.lload 5, 2) := by decide +kernel
theorem dX7_odds_225 : decode cX7_odds 225 = .ok (.lstore 9, 2) := by decide +kernel
theorem dX7_odds_227 : decode cX7_odds 227 = .ok (.lload 7, 2) := by decide +kernel
theorem dX7_odds_229 : decode cX7_odds 229 = .ok (.lstore 11, 2) := by decide +kernel
theorem dX7_odds_231 : decode cX7_odds 231 = .ok (.lload 11, 2) := by decide +kernel
theorem dX7_odds_233 : decode cX7_odds 233 = .ok (.lconst 0, 1) := by decide +kernel
theorem dX7_odds_234 : decode cX7_odds 234 = .ok (.lcmp, 1) := by decide +kernel
theorem dX7_odds_235 : decode cX7_odds 235 = .ok (.ifCond .eq 21, 3) := by decide +kernel
theorem dX7_odds_238 : decode cX7_odds 238 = .ok (.lload 9, 2) := by decide +kernel
theorem dX7_odds_240 : decode cX7_odds 240 = .ok (.lload 11, 2) := by decide +kernel
theorem dX7_odds_242 : decode cX7_odds 242 = .ok (.lrem, 1) := by decide +kernel
theorem dX7_odds_243 : decode cX7_odds 243 = .ok (.lstore 13, 2) := by decide +kernel
theorem dX7_odds_245 : decode cX7_odds 245 = .ok (.lload 11, 2) := by decide +kernel
theorem dX7_odds_247 : decode cX7_odds 247 = .ok (.lstore 9, 2) := by decide +kernel
theorem dX7_odds_249 : decode cX7_odds 249 = .ok (.lload 13, 2) := by decide +kernel
theorem dX7_odds_251 : decode cX7_odds 251 = .ok (.lstore 11, 2) := by decide +kernel
theorem dX7_odds_253 : decode cX7_odds 253 = .ok (.goto (-22), 3) := by decide +kernel
theorem dX7_odds_256 : decode cX7_odds 256 = .ok (.iload 4, 2) := by decide +kernel
theorem dX7_odds_258 : decode cX7_odds 258 = .ok (.ifCond .ne 11, 3) := by decide +kernel
theorem dX7_odds_261 : decode cX7_odds 261 = .ok (.lload 5, 2) := by decide +kernel
theorem dX7_odds_263 : decode cX7_odds 263 = .ok (.lload 9, 2) := by decide +kernel
theorem dX7_odds_265 : decode cX7_odds 265 = .ok (.ldiv, 1) := by decide +kernel
theorem dX7_odds_266 : decode cX7_odds 266 = .ok (.goto 8, 3) := by decide +kernel
theorem dX7_odds_269 : decode cX7_odds 269 = .ok (.lload 7, 2) := by decide +kernel
theorem dX7_odds_271 : decode cX7_odds 271 = .ok (.lload 9, 2) := by decide +kernel
theorem dX7_odds_273 : decode cX7_odds 273 = .ok (.ldiv, 1) := by decide +kernel
theorem dX7_odds_274 : decode cX7_odds 274 = .ok (.lreturn, 1) := by decide +kernel
theorem dX7_store_0 : decode cX7_store 0 = .ok (.aload_n 0, 1) := by decide +kernel
theorem dX7_store_1 : decode cX7_store 1 = .ok (.getfield 147, 3) := by decide +kernel
theorem dX7_store_4 : decode cX7_store 4 = .ok (.ifCond .ne 6, 3) := by decide +kernel
theorem dX7_store_7 : decode cX7_store 7 = .ok (.ldc 167, 2) := by decide +kernel
theorem dX7_store_9 : decode cX7_store 9 = .ok (.ireturn, 1) := by decide +kernel
theorem dX7_store_10 : decode cX7_store 10 = .ok (.iload_n 1, 1) := by decide +kernel
theorem dX7_store_11 : decode cX7_store 11 = .ok (.i2l, 1) := by decide +kernel
theorem dX7_store_12 : decode cX7_store 12 = .ok (.lconst 1, 1) := by decide +kernel
theorem dX7_store_13 : decode cX7_store 13 = .ok (.ldc2_w 195, 3) := by decide +kernel
theorem dX7_store_16 : decode cX7_store 16 = .ok (.invokestatic 69, 3) := by decide +kernel
theorem dX7_store_19 : decode cX7_store 19 = .ok (.ifCond .ne 6, 3) := by decide +kernel
theorem dX7_store_22 : decode cX7_store 22 = .ok (.ldc 79, 2) := by decide +kernel
theorem dX7_store_24 : decode cX7_store 24 = .ok (.ireturn, 1) := by decide +kernel
theorem dX7_store_25 : decode cX7_store 25 = .ok (.aload_n 0, 1) := by decide +kernel
theorem dX7_store_26 : decode cX7_store 26 = .ok (.invokevirtual 197, 3) := by decide +kernel
theorem dX7_store_29 : decode cX7_store 29 = .ok (.iconst 0, 1) := by decide +kernel
theorem dX7_store_30 : decode cX7_store 30 = .ok (.istore_n 2, 1) := by decide +kernel
theorem dX7_store_31 : decode cX7_store 31 = .ok (.iconst 0, 1) := by decide +kernel
theorem dX7_store_32 : decode cX7_store 32 = .ok (.istore_n 3, 1) := by decide +kernel
theorem dX7_store_33 : decode cX7_store 33 = .ok (.iload_n 3, 1) := by decide +kernel
theorem dX7_store_34 : decode cX7_store 34 = .ok (.iload_n 1, 1) := by decide +kernel
theorem dX7_store_35 : decode cX7_store 35 = .ok (.if_icmp .ge 95, 3) := by decide +kernel
theorem dX7_store_38 : decode cX7_store 38 = .ok (.aload_n 0, 1) := by decide +kernel
theorem dX7_store_39 : decode cX7_store 39 = .ok (.invokevirtual 173, 3) := by decide +kernel
theorem dX7_store_42 : decode cX7_store 42 = .ok (.iconst 0, 1) := by decide +kernel
theorem dX7_store_43 : decode cX7_store 43 = .ok (.istore 4, 2) := by decide +kernel
theorem dX7_store_45 : decode cX7_store 45 = .ok (.iload 4, 2) := by decide +kernel
theorem dX7_store_47 : decode cX7_store 47 = .ok (.aload_n 0, 1) := by decide +kernel
theorem dX7_store_48 : decode cX7_store 48 = .ok (.getfield 19, 3) := by decide +kernel
theorem dX7_store_51 : decode cX7_store 51 = .ok (.iconst 2, 1) := by decide +kernel
theorem dX7_store_52 : decode cX7_store 52 = .ok (.iaload, 1) := by decide +kernel
theorem dX7_store_53 : decode cX7_store 53 = .ok (.if_icmp .ge 71, 3) := by decide +kernel
theorem dX7_store_56 : decode cX7_store 56 = .ok (.aload_n 0, 1) := by decide +kernel
theorem dX7_store_57 : decode cX7_store 57 = .ok (.getfield 19, 3) := by decide +kernel
theorem dX7_store_60 : decode cX7_store 60 = .ok (.iconst 5, 1) := by decide +kernel
theorem dX7_store_61 : decode cX7_store 61 = .ok (.iload 4, 2) := by decide +kernel
theorem dX7_store_63 : decode cX7_store 63 = .ok (.iadd, 1) := by decide +kernel
theorem dX7_store_64 : decode cX7_store 64 = .ok (.iaload, 1) := by decide +kernel
theorem dX7_store_65 : decode cX7_store 65 = .ok (.iconst 2, 1) := by decide +kernel
theorem dX7_store_66 : decode cX7_store 66 = .ok (.if_icmp .ne 52, 3) := by decide +kernel
theorem dX7_store_69 : decode cX7_store 69 = .ok (.aload_n 0, 1) := by decide +kernel
theorem dX7_store_70 : decode cX7_store 70 = .ok (.iload 4, 2) := by decide +kernel
theorem dX7_store_72 : decode cX7_store 72 = .ok (.invokevirtual 191, 3) := by decide +kernel
theorem dX7_store_75 : decode cX7_store 75 = .ok (.ifCond .ne 43, 3) := by decide +kernel
theorem dX7_store_78 : decode cX7_store 78 = .ok (.iload_n 2, 1) := by decide +kernel
theorem dX7_store_79 : decode cX7_store 79 = .ok (.aload_n 0, 1) := by decide +kernel
theorem dX7_store_80 : decode cX7_store 80 = .ok (.getfield 19, 3) := by decide +kernel
theorem dX7_store_83 : decode cX7_store 83 = .ok (.bipush 23, 2) := by decide +kernel
theorem dX7_store_85 : decode cX7_store 85 = .ok (.iload 4, 2) := by decide +kernel
theorem dX7_store_87 : decode cX7_store 87 = .ok (.iadd, 1) := by decide +kernel
theorem dX7_store_88 : decode cX7_store 88 = .ok (.iaload, 1) := by decide +kernel
theorem dX7_store_89 : decode cX7_store 89 = .ok (.aload_n 0, 1) := by decide +kernel
theorem dX7_store_90 : decode cX7_store 90 = .ok (.iload 4, 2) := by decide +kernel
theorem dX7_store_92 : decode cX7_store 92 = .ok (.invokevirtual 164, 3) := by decide +kernel
theorem dX7_store_95 : decode cX7_store 95 = .ok (.imul, 1) := by decide +kernel
theorem dX7_store_96 : decode cX7_store 96 = .ok (.iadd, 1) := by decide +kernel
theorem dX7_store_97 : decode cX7_store 97 = .ok (.istore_n 2, 1) := by decide +kernel
theorem dX7_store_98 : decode cX7_store 98 = .ok (.aload_n 0, 1) := by decide +kernel
theorem dX7_store_99 : decode cX7_store 99 = .ok (.getfield 19, 3) := by decide +kernel
theorem dX7_store_102 : decode cX7_store 102 = .ok (.bipush 35, 2) := by decide +kernel
theorem dX7_store_104 : decode cX7_store 104 = .ok (.iload 4, 2) := by decide +kernel
theorem dX7_store_106 : decode cX7_store 106 = .ok (.iadd, 1) := by decide +kernel
theorem dX7_store_107 : decode cX7_store 107 = .ok (.aload_n 0, 1) := by decide +kernel
theorem dX7_store_108 : decode cX7_store 108 = .ok (.getfield 19, 3) := by decide +kernel
theorem dX7_store_111 : decode cX7_store 111 = .ok (.bipush 11, 2) := by decide +kernel
theorem dX7_store_113 : decode cX7_store 113 = .ok (.iload 4, 2) := by decide +kernel
theorem dX7_store_115 : decode cX7_store 115 = .ok (.iadd, 1) := by decide +kernel
theorem dX7_store_116 : decode cX7_store 116 = .ok (.iaload, 1) := by decide +kernel
theorem dX7_store_117 : decode cX7_store 117 = .ok (.iastore, 1) := by decide +kernel
theorem dX7_store_118 : decode cX7_store 118 = .ok (.iinc 4 1, 3) := by decide +kernel
theorem dX7_store_121 : decode cX7_store 121 = .ok (.goto (-76), 3) := by decide +kernel
theorem dX7_store_124 : decode cX7_store 124 = .ok (.iinc 3 1, 3) := by decide +kernel
theorem dX7_store_127 : decode cX7_store 127 = .ok (.goto (-94), 3) := by decide +kernel
theorem dX7_store_130 : decode cX7_store 130 = .ok (.aload_n 0, 1) := by decide +kernel
theorem dX7_store_131 : decode cX7_store 131 = .ok (.invokevirtual 200, 3) := by decide +kernel
theorem dX7_store_134 : decode cX7_store 134 = .ok (.iload_n 2, 1) := by decide +kernel
theorem dX7_store_135 : decode cX7_store 135 = .ok (.ireturn, 1) := by decide +kernel
theorem dX7_drawn_0 : decode cX7_drawn 0 = .ok (.aload_n 0, 1) := by decide +kernel
theorem dX7_drawn_1 : decode cX7_drawn 1 = .ok (.getfield 147, 3) := by decide +kernel
theorem dX7_drawn_4 : decode cX7_drawn 4 = .ok (.ifCond .ne 6, 3) := by decide +kernel
theorem dX7_drawn_7 : decode cX7_drawn 7 = .ok (.ldc 167, 2) := by decide +kernel
theorem dX7_drawn_9 : decode cX7_drawn 9 = .ok (.ireturn, 1) := by decide +kernel
theorem dX7_drawn_10 : decode cX7_drawn 10 = .ok (.iload_n 1, 1) := by decide +kernel
theorem dX7_drawn_11 : decode cX7_drawn 11 = .ok (.i2l, 1) := by decide +kernel
theorem dX7_drawn_12 : decode cX7_drawn 12 = .ok (.lconst 0, 1) := by decide +kernel
theorem dX7_drawn_13 : decode cX7_drawn 13 = .ok (.ldc2_w 195, 3) := by decide +kernel
theorem dX7_drawn_16 : decode cX7_drawn 16 = .ok (.invokestatic 69, 3) := by decide +kernel
theorem dX7_drawn_19 : decode cX7_drawn 19 = .ok (.ifCond .eq 25, 3) := by decide +kernel
theorem dX7_drawn_22 : decode cX7_drawn 22 = .ok (.iload_n 2, 1) := by decide +kernel
theorem dX7_drawn_23 : decode cX7_drawn 23 = .ok (.i2l, 1) := by decide +kernel
theorem dX7_drawn_24 : decode cX7_drawn 24 = .ok (.lconst 1, 1) := by decide +kernel
theorem dX7_drawn_25 : decode cX7_drawn 25 = .ok (.ldc2_w 245, 3) := by decide +kernel
theorem dX7_drawn_28 : decode cX7_drawn 28 = .ok (.invokestatic 69, 3) := by decide +kernel
theorem dX7_drawn_31 : decode cX7_drawn 31 = .ok (.ifCond .eq 13, 3) := by decide +kernel
theorem dX7_drawn_34 : decode cX7_drawn 34 = .ok (.iload_n 3, 1) := by decide +kernel
theorem dX7_drawn_35 : decode cX7_drawn 35 = .ok (.i2l, 1) := by decide +kernel
theorem dX7_drawn_36 : decode cX7_drawn 36 = .ok (.lconst 0, 1) := by decide +kernel
theorem dX7_drawn_37 : decode cX7_drawn 37 = .ok (.lconst 1, 1) := by decide +kernel
theorem dX7_drawn_38 : decode cX7_drawn 38 = .ok (.invokestatic 69, 3) := by decide +kernel
theorem dX7_drawn_41 : decode cX7_drawn 41 = .ok (.ifCond .ne 6, 3) := by decide +kernel
theorem dX7_drawn_44 : decode cX7_drawn 44 = .ok (.ldc 79, 2) := by decide +kernel
theorem dX7_drawn_46 : decode cX7_drawn 46 = .ok (.ireturn, 1) := by decide +kernel
theorem dX7_drawn_47 : decode cX7_drawn 47 = .ok (.aload_n 0, 1) := by decide +kernel
theorem dX7_drawn_48 : decode cX7_drawn 48 = .ok (.invokevirtual 197, 3) := by decide +kernel
theorem dX7_drawn_51 : decode cX7_drawn 51 = .ok (.iload_n 2, 1) := by decide +kernel
theorem dX7_drawn_52 : decode cX7_drawn 52 = .ok (.i2l, 1) := by decide +kernel
theorem dX7_drawn_53 : decode cX7_drawn 53 = .ok (.lstore 4, 2) := by decide +kernel
theorem dX7_drawn_55 : decode cX7_drawn 55 = .ok (.iconst 0, 1) := by decide +kernel
theorem dX7_drawn_56 : decode cX7_drawn 56 = .ok (.istore 6, 2) := by decide +kernel
theorem dX7_drawn_58 : decode cX7_drawn 58 = .ok (.iconst 0, 1) := by decide +kernel
theorem dX7_drawn_59 : decode cX7_drawn 59 = .ok (.istore 7, 2) := by decide +kernel
theorem dX7_drawn_61 : decode cX7_drawn 61 = .ok (.iload 7, 2) := by decide +kernel
theorem dX7_drawn_63 : decode cX7_drawn 63 = .ok (.iload_n 1, 1) := by decide +kernel
theorem dX7_drawn_64 : decode cX7_drawn 64 = .ok (.if_icmp .ge 97, 3) := by decide +kernel
theorem dX7_drawn_67 : decode cX7_drawn 67 = .ok (.lload 4, 2) := by decide +kernel
theorem dX7_drawn_69 : decode cX7_drawn 69 = .ok (.ldc2_w 247, 3) := by decide +kernel
theorem dX7_drawn_72 : decode cX7_drawn 72 = .ok (.lmul, 1) := by decide +kernel
theorem dX7_drawn_73 : decode cX7_drawn 73 = .ok (.ldc2_w 249, 3) := by decide +kernel
theorem dX7_drawn_76 : decode cX7_drawn 76 = .ok (.lrem, 1) := by decide +kernel
theorem dX7_drawn_77 : decode cX7_drawn 77 = .ok (.lstore 4, 2) := by decide +kernel
theorem dX7_drawn_79 : decode cX7_drawn 79 = .ok (.lload 4, 2) := by decide +kernel
theorem dX7_drawn_81 : decode cX7_drawn 81 = .ok (.aload_n 0, 1) := by decide +kernel
theorem dX7_drawn_82 : decode cX7_drawn 82 = .ok (.getfield 19, 3) := by decide +kernel
theorem dX7_drawn_85 : decode cX7_drawn 85 = .ok (.iconst 2, 1) := by decide +kernel
theorem dX7_drawn_86 : decode cX7_drawn 86 = .ok (.iaload, 1) := by decide +kernel
theorem dX7_drawn_87 : decode cX7_drawn 87 = .ok (.i2l, 1) := by decide +kernel
theorem dX7_drawn_88 : decode cX7_drawn 88 = .ok (.lrem, 1) := by decide +kernel
theorem dX7_drawn_89 : decode cX7_drawn 89 = .ok (.l2i, 1) := by decide +kernel
theorem dX7_drawn_90 : decode cX7_drawn 90 = .ok (.istore 8, 2) := by decide +kernel
theorem dX7_drawn_92 : decode cX7_drawn 92 = .ok (.aload_n 0, 1) := by decide +kernel
theorem dX7_drawn_93 : decode cX7_drawn 93 = .ok (.iload 8, 2) := by decide +kernel
theorem dX7_drawn_95 : decode cX7_drawn 95 = .ok (.invokevirtual 183, 3) := by decide +kernel
theorem dX7_drawn_98 : decode cX7_drawn 98 = .ok (.ifCond .ne 53, 3) := by decide +kernel
theorem dX7_drawn_101 : decode cX7_drawn 101 = .ok (.aload_n 0, 1) := by decide +kernel
theorem dX7_drawn_102 : decode cX7_drawn 102 = .ok (.iload 8, 2) := by decide +kernel
theorem dX7_drawn_104 : decode cX7_drawn 104 = .ok (.invokevirtual 164, 3) := by decide +kernel
theorem dX7_drawn_107 : decode cX7_drawn 107 = .ok (.ifCond .le 44, 3) := by decide +kernel
theorem dX7_drawn_110 : decode cX7_drawn 110 = .ok (.iload 6, 2) := by decide +kernel
theorem dX7_drawn_112 : decode cX7_drawn 112 = .ok (.aload_n 0, 1) := by decide +kernel
theorem dX7_drawn_113 : decode cX7_drawn 113 = .ok (.iload 8, 2) := by decide +kernel
theorem dX7_drawn_115 : decode cX7_drawn 115 = .ok (.aload_n 0, 1) := by decide +kernel
theorem dX7_drawn_116 : decode cX7_drawn 116 = .ok (.getfield 19, 3) := by decide +kernel
theorem dX7_drawn_119 : decode cX7_drawn 119 = .ok (.bipush 35, 2) := by decide +kernel
theorem dX7_drawn_121 : decode cX7_drawn 121 = .ok (.iload 8, 2) := by decide +kernel
theorem dX7_drawn_123 : decode cX7_drawn 123 = .ok (.iadd, 1) := by decide +kernel
theorem dX7_drawn_124 : decode cX7_drawn 124 = .ok (.iaload, 1) := by decide +kernel
theorem dX7_drawn_125 : decode cX7_drawn 125 = .ok (.invokevirtual 186, 3) := by decide +kernel
theorem dX7_drawn_128 : decode cX7_drawn 128 = .ok (.iadd, 1) := by decide +kernel
theorem dX7_drawn_129 : decode cX7_drawn 129 = .ok (.istore 6, 2) := by decide +kernel
theorem dX7_drawn_131 : decode cX7_drawn 131 = .ok (.aload_n 0, 1) := by decide +kernel
theorem dX7_drawn_132 : decode cX7_drawn 132 = .ok (.getfield 19, 3) := by decide +kernel
theorem dX7_drawn_135 : decode cX7_drawn 135 = .ok (.bipush 35, 2) := by decide +kernel
theorem dX7_drawn_137 : decode cX7_drawn 137 = .ok (.iload 8, 2) := by decide +kernel
theorem dX7_drawn_139 : decode cX7_drawn 139 = .ok (.iadd, 1) := by decide +kernel
theorem dX7_drawn_140 : decode cX7_drawn 140 = .ok (.aload_n 0, 1) := by decide +kernel
theorem dX7_drawn_141 : decode cX7_drawn 141 = .ok (.getfield 19, 3) := by decide +kernel
theorem dX7_drawn_144 : decode cX7_drawn 144 = .ok (.bipush 11, 2) := by decide +kernel
theorem dX7_drawn_146 : decode cX7_drawn 146 = .ok (.iload 8, 2) := by decide +kernel
theorem dX7_drawn_148 : decode cX7_drawn 148 = .ok (.iadd, 1) := by decide +kernel
theorem dX7_drawn_149 : decode cX7_drawn 149 = .ok (.iaload, 1) := by decide +kernel
theorem dX7_drawn_150 : decode cX7_drawn 150 = .ok (.iastore, 1) := by decide +kernel
theorem dX7_drawn_151 : decode cX7_drawn 151 = .ok (.aload_n 0, 1) := by decide +kernel
theorem dX7_drawn_152 : decode cX7_drawn 152 = .ok (.invokevirtual 173, 3) := by decide +kernel
theorem dX7_drawn_155 : decode cX7_drawn 155 = .ok (.iinc 7 1, 3) := by decide +kernel
theorem dX7_drawn_158 : decode cX7_drawn 158 = .ok (.goto (-97), 3) := by decide +kernel
theorem dX7_drawn_161 : decode cX7_drawn 161 = .ok (.iload_n 3, 1) := by decide +kernel
theorem dX7_drawn_162 : decode cX7_drawn 162 = .ok (.ifCond .ne 8, 3) := by decide +kernel
theorem dX7_drawn_165 : decode cX7_drawn 165 = .ok (.iload 6, 2) := by decide +kernel
theorem dX7_drawn_167 : decode cX7_drawn 167 = .ok (.goto 7, 3) := by decide +kernel
theorem dX7_drawn_170 : decode cX7_drawn 170 = .ok (.aload_n 0, 1) := by decide +kernel
theorem dX7_drawn_171 : decode cX7_drawn 171 = .ok (.invokevirtual 176, 3) := by decide +kernel
theorem dX7_drawn_174 : decode cX7_drawn 174 = .ok (.istore 7, 2) := by decide +kernel
theorem dX7_drawn_176 : decode cX7_drawn 176 = .ok (.aload_n 0, 1) := by decide +kernel
theorem dX7_drawn_177 : decode cX7_drawn 177 = .ok (.invokevirtual 200, 3) := by decide +kernel
theorem dX7_drawn_180 : decode cX7_drawn 180 = .ok (.iload 7, 2) := by decide +kernel
theorem dX7_drawn_182 : decode cX7_drawn 182 = .ok (.ireturn, 1) := by decide +kernel
theorem dX7_image_0 : decode cX7_image 0 = .ok (.iload_n 1, 1) := by decide +kernel
theorem dX7_image_1 : decode cX7_image 1 = .ok (.i2l, 1) := by decide +kernel
theorem dX7_image_2 : decode cX7_image 2 = .ok (.lconst 0, 1) := by decide +kernel
theorem dX7_image_3 : decode cX7_image 3 = .ok (.lconst 1, 1) := by decide +kernel
theorem dX7_image_4 : decode cX7_image 4 = .ok (.invokestatic 69, 3) := by decide +kernel
theorem dX7_image_7 : decode cX7_image 7 = .ok (.ifCond .ne 6, 3) := by decide +kernel
theorem dX7_image_10 : decode cX7_image 10 = .ok (.ldc 79, 2) := by decide +kernel
theorem dX7_image_12 : decode cX7_image 12 = .ok (.ireturn, 1) := by decide +kernel
theorem dX7_image_13 : decode cX7_image 13 = .ok (.aload_n 0, 1) := by decide +kernel
theorem dX7_image_14 : decode cX7_image 14 = .ok (.getfield 147, 3) := by decide +kernel
theorem dX7_image_17 : decode cX7_image 17 = .ok (.ifCond .ne 6, 3) := by decide +kernel
theorem dX7_image_20 : decode cX7_image 20 = .ok (.ldc 167, 2) := by decide +kernel
theorem dX7_image_22 : decode cX7_image 22 = .ok (.ireturn, 1) := by decide +kernel
theorem dX7_image_23 : decode cX7_image 23 = .ok (.iconst 0, 1) := by decide +kernel
theorem dX7_image_24 : decode cX7_image 24 = .ok (.istore_n 2, 1) := by decide +kernel
theorem dX7_image_25 : decode cX7_image 25 = .ok (.iload_n 2, 1) := by decide +kernel
theorem dX7_image_26 : decode cX7_image 26 = .ok (.bipush 41, 2) := by decide +kernel
theorem dX7_image_28 : decode cX7_image 28 = .ok (.if_icmp .ge 26, 3) := by decide +kernel
theorem dX7_image_31 : decode cX7_image 31 = .ok (.aload_n 0, 1) := by decide +kernel
theorem dX7_image_32 : decode cX7_image 32 = .ok (.getfield 56, 3) := by decide +kernel
theorem dX7_image_35 : decode cX7_image 35 = .ok (.bipush 41, 2) := by decide +kernel
theorem dX7_image_37 : decode cX7_image 37 = .ok (.iload_n 1, 1) := by decide +kernel
theorem dX7_image_38 : decode cX7_image 38 = .ok (.imul, 1) := by decide +kernel
theorem dX7_image_39 : decode cX7_image 39 = .ok (.iload_n 2, 1) := by decide +kernel
theorem dX7_image_40 : decode cX7_image 40 = .ok (.iadd, 1) := by decide +kernel
theorem dX7_image_41 : decode cX7_image 41 = .ok (.aload_n 0, 1) := by decide +kernel
theorem dX7_image_42 : decode cX7_image 42 = .ok (.getfield 19, 3) := by decide +kernel
theorem dX7_image_45 : decode cX7_image 45 = .ok (.iload_n 2, 1) := by decide +kernel
theorem dX7_image_46 : decode cX7_image 46 = .ok (.iaload, 1) := by decide +kernel
theorem dX7_image_47 : decode cX7_image 47 = .ok (.iastore, 1) := by decide +kernel
theorem dX7_image_48 : decode cX7_image 48 = .ok (.iinc 2 1, 3) := by decide +kernel
theorem dX7_image_51 : decode cX7_image 51 = .ok (.goto (-26), 3) := by decide +kernel
theorem dX7_image_54 : decode cX7_image 54 = .ok (.aload_n 0, 1) := by decide +kernel
theorem dX7_image_55 : decode cX7_image 55 = .ok (.getfield 52, 3) := by decide +kernel
theorem dX7_image_58 : decode cX7_image 58 = .ok (.iload_n 1, 1) := by decide +kernel
theorem dX7_image_59 : decode cX7_image 59 = .ok (.iconst 1, 1) := by decide +kernel
theorem dX7_image_60 : decode cX7_image 60 = .ok (.bastore, 1) := by decide +kernel
theorem dX7_image_61 : decode cX7_image 61 = .ok (.iconst 1, 1) := by decide +kernel
theorem dX7_image_62 : decode cX7_image 62 = .ok (.ireturn, 1) := by decide +kernel
theorem dX7_restore_0 : decode cX7_restore 0 = .ok (.iload_n 1, 1) := by decide +kernel
theorem dX7_restore_1 : decode cX7_restore 1 = .ok (.i2l, 1) := by decide +kernel
theorem dX7_restore_2 : decode cX7_restore 2 = .ok (.lconst 0, 1) := by decide +kernel
theorem dX7_restore_3 : decode cX7_restore 3 = .ok (.lconst 1, 1) := by decide +kernel
theorem dX7_restore_4 : decode cX7_restore 4 = .ok (.invokestatic 69, 3) := by decide +kernel
theorem dX7_restore_7 : decode cX7_restore 7 = .ok (.ifCond .ne 6, 3) := by decide +kernel
theorem dX7_restore_10 : decode cX7_restore 10 = .ok (.ldc 79, 2) := by decide +kernel
theorem dX7_restore_12 : decode cX7_restore 12 = .ok (.ireturn, 1) := by decide +kernel
theorem dX7_restore_13 : decode cX7_restore 13 = .ok (.aload_n 0, 1) := by decide +kernel
theorem dX7_restore_14 : decode cX7_restore 14 = .ok (.getfield 52, 3) := by decide +kernel
theorem dX7_restore_17 : decode cX7_restore 17 = .ok (.iload_n 1, 1) := by decide +kernel
theorem dX7_restore_18 : decode cX7_restore 18 = .ok (.baload, 1) := by decide +kernel
theorem dX7_restore_19 : decode cX7_restore 19 = .ok (.ifCond .ne 6, 3) := by decide +kernel
theorem dX7_restore_22 : decode cX7_restore 22 = .ok (.ldc 167, 2) := by decide +kernel
theorem dX7_restore_24 : decode cX7_restore 24 = .ok (.ireturn, 1) := by decide +kernel
theorem dX7_restore_25 : decode cX7_restore 25 = .ok (.iconst 0, 1) := by decide +kernel
theorem dX7_restore_26 : decode cX7_restore 26 = .ok (.istore_n 2, 1) := by decide +kernel
theorem dX7_restore_27 : decode cX7_restore 27 = .ok (.iload_n 2, 1) := by decide +kernel
theorem dX7_restore_28 : decode cX7_restore 28 = .ok (.bipush 41, 2) := by decide +kernel
theorem dX7_restore_30 : decode cX7_restore 30 = .ok (.if_icmp .ge 26, 3) := by decide +kernel
theorem dX7_restore_33 : decode cX7_restore 33 = .ok (.aload_n 0, 1) := by decide +kernel
theorem dX7_restore_34 : decode cX7_restore 34 = .ok (.getfield 19, 3) := by decide +kernel
theorem dX7_restore_37 : decode cX7_restore 37 = .ok (.iload_n 2, 1) := by decide +kernel
theorem dX7_restore_38 : decode cX7_restore 38 = .ok (.aload_n 0, 1) := by decide +kernel
theorem dX7_restore_39 : decode cX7_restore 39 = .ok (.getfield 56, 3) := by decide +kernel
theorem dX7_restore_42 : decode cX7_restore 42 = .ok (.bipush 41, 2) := by decide +kernel
theorem dX7_restore_44 : decode cX7_restore 44 = .ok (.iload_n 1, 1) := by decide +kernel
theorem dX7_restore_45 : decode cX7_restore 45 = .ok (.imul, 1) := by decide +kernel
theorem dX7_restore_46 : decode cX7_restore 46 = .ok (.iload_n 2, 1) := by decide +kernel
theorem dX7_restore_47 : decode cX7_restore 47 = .ok (.iadd, 1) := by decide +kernel
theorem dX7_restore_48 : decode cX7_restore 48 = .ok (.iaload, 1) := by decide +kernel
theorem dX7_restore_49 : decode cX7_restore 49 = .ok (.iastore, 1) := by decide +kernel
theorem dX7_restore_50 : decode cX7_restore 50 = .ok (.iinc 2 1, 3) := by decide +kernel
theorem dX7_restore_53 : decode cX7_restore 53 = .ok (.goto (-26), 3) := by decide +kernel
theorem dX7_restore_56 : decode cX7_restore 56 = .ok (.aload_n 0, 1) := by decide +kernel
theorem dX7_restore_57 : decode cX7_restore 57 = .ok (.iconst 0, 1) := by decide +kernel
theorem dX7_restore_58 : decode cX7_restore 58 = .ok (.putfield 151, 3) := by decide +kernel
theorem dX7_restore_61 : decode cX7_restore 61 = .ok (.iconst 1, 1) := by decide +kernel
theorem dX7_restore_62 : decode cX7_restore 62 = .ok (.ireturn, 1) := by decide +kernel
theorem dX7_kind_0 : decode cX7_kind 0 = .ok (.aload_n 0, 1) := by decide +kernel
theorem dX7_kind_1 : decode cX7_kind 1 = .ok (.iload_n 1, 1) := by decide +kernel
theorem dX7_kind_2 : decode cX7_kind 2 = .ok (.invokevirtual 180, 3) := by decide +kernel
theorem dX7_kind_5 : decode cX7_kind 5 = .ok (.ifCond .eq 14, 3) := by decide +kernel
theorem dX7_kind_8 : decode cX7_kind 8 = .ok (.aload_n 0, 1) := by decide +kernel
theorem dX7_kind_9 : decode cX7_kind 9 = .ok (.getfield 19, 3) := by decide +kernel
theorem dX7_kind_12 : decode cX7_kind 12 = .ok (.iconst 5, 1) := by decide +kernel
theorem dX7_kind_13 : decode cX7_kind 13 = .ok (.iload_n 1, 1) := by decide +kernel
theorem dX7_kind_14 : decode cX7_kind 14 = .ok (.iadd, 1) := by decide +kernel
theorem dX7_kind_15 : decode cX7_kind 15 = .ok (.iaload, 1) := by decide +kernel
theorem dX7_kind_16 : decode cX7_kind 16 = .ok (.goto 5, 3) := by decide +kernel
theorem dX7_kind_19 : decode cX7_kind 19 = .ok (.ldc 79, 2) := by decide +kernel
theorem dX7_kind_21 : decode cX7_kind 21 = .ok (.ireturn, 1) := by decide +kernel
theorem dX7_isKind_0 : decode cX7_isKind 0 = .ok (.iload_n 1, 1) := by decide +kernel
theorem dX7_isKind_1 : decode cX7_isKind 1 = .ok (.ifCond .eq 28, 3) := by decide +kernel
theorem dX7_isKind_4 : decode cX7_isKind 4 = .ok (.iload_n 0, 1) := by decide +kernel
theorem dX7_isKind_5 : decode cX7_isKind 5 = .ok (.iload_n 1, 1) := by decide +kernel
theorem dX7_isKind_6 : decode cX7_isKind 6 = .ok (.if_icmp .eq 23, 3) := by decide +kernel
theorem dX7_isKind_9 : decode cX7_isKind 9 = .ok (.iload_n 1, 1) := by decide +kernel
theorem dX7_isKind_10 : decode cX7_isKind 10 = .ok (.iconst 1, 1) := by decide +kernel
theorem dX7_isKind_11 : decode cX7_isKind 11 = .ok (.if_icmp .ne 8, 3) := by decide +kernel
theorem dX7_isKind_14 : decode cX7_isKind 14 = .ok (.iload_n 0, 1) := by decide +kernel
theorem dX7_isKind_15 : decode cX7_isKind 15 = .ok (.iconst 4, 1) := by decide +kernel
theorem dX7_isKind_16 : decode cX7_isKind 16 = .ok (.if_icmp .lt 13, 3) := by decide +kernel
theorem dX7_isKind_19 : decode cX7_isKind 19 = .ok (.iload_n 1, 1) := by decide +kernel
theorem dX7_isKind_20 : decode cX7_isKind 20 = .ok (.iconst 4, 1) := by decide +kernel
theorem dX7_isKind_21 : decode cX7_isKind 21 = .ok (.if_icmp .ne 12, 3) := by decide +kernel
theorem dX7_isKind_24 : decode cX7_isKind 24 = .ok (.iload_n 0, 1) := by decide +kernel
theorem dX7_isKind_25 : decode cX7_isKind 25 = .ok (.iconst 5, 1) := by decide +kernel
theorem dX7_isKind_26 : decode cX7_isKind 26 = .ok (.if_icmp .ne 7, 3) := by decide +kernel
theorem dX7_isKind_29 : decode cX7_isKind 29 = .ok (.iconst 1, 1) := by decide +kernel
theorem dX7_isKind_30 : decode cX7_isKind 30 = .ok (.goto 4, 3) := by decide +kernel
theorem dX7_isKind_33 : decode cX7_isKind 33 = .ok (.iconst 0, 1) := by decide +kernel
theorem dX7_isKind_34 : decode cX7_isKind 34 = .ok (.ireturn, 1) := by decide +kernel
theorem dX7_as_0 : decode cX7_as 0 = .ok (.aload_n 0, 1) := by decide +kernel
theorem dX7_as_1 : decode cX7_as 1 = .ok (.iload_n 1, 1) := by decide +kernel
theorem dX7_as_2 : decode cX7_as 2 = .ok (.invokevirtual 180, 3) := by decide +kernel
theorem dX7_as_5 : decode cX7_as 5 = .ok (.ifCond .eq 15, 3) := by decide +kernel
theorem dX7_as_8 : decode cX7_as 8 = .ok (.iload_n 2, 1) := by decide +kernel
theorem dX7_as_9 : decode cX7_as 9 = .ok (.i2l, 1) := by decide +kernel
theorem dX7_as_10 : decode cX7_as 10 = .ok (.lconst 0, 1) := by decide +kernel
theorem dX7_as_11 : decode cX7_as 11 = .ok (.ldc2_w 251, 3) := by decide +kernel
theorem dX7_as_14 : decode cX7_as 14 = .ok (.invokestatic 69, 3) := by decide +kernel
theorem dX7_as_17 : decode cX7_as 17 = .ok (.ifCond .ne 6, 3) := by decide +kernel
theorem dX7_as_20 : decode cX7_as 20 = .ok (.ldc 79, 2) := by decide +kernel
theorem dX7_as_22 : decode cX7_as 22 = .ok (.ireturn, 1) := by decide +kernel
theorem dX7_as_23 : decode cX7_as 23 = .ok (.aload_n 0, 1) := by decide +kernel
theorem dX7_as_24 : decode cX7_as 24 = .ok (.getfield 19, 3) := by decide +kernel
theorem dX7_as_27 : decode cX7_as 27 = .ok (.iconst 5, 1) := by decide +kernel
theorem dX7_as_28 : decode cX7_as 28 = .ok (.iload_n 1, 1) := by decide +kernel
theorem dX7_as_29 : decode cX7_as 29 = .ok (.iadd, 1) := by decide +kernel
theorem dX7_as_30 : decode cX7_as 30 = .ok (.iaload, 1) := by decide +kernel
theorem dX7_as_31 : decode cX7_as 31 = .ok (.iload_n 2, 1) := by decide +kernel
theorem dX7_as_32 : decode cX7_as 32 = .ok (.invokestatic 253, 3) := by decide +kernel
theorem dX7_as_35 : decode cX7_as 35 = .ok (.ifCond .eq 11, 3) := by decide +kernel
theorem dX7_as_38 : decode cX7_as 38 = .ok (.aload_n 0, 1) := by decide +kernel
theorem dX7_as_39 : decode cX7_as 39 = .ok (.iload_n 1, 1) := by decide +kernel
theorem dX7_as_40 : decode cX7_as 40 = .ok (.invokevirtual 84, 3) := by decide +kernel
theorem dX7_as_43 : decode cX7_as 43 = .ok (.goto 8, 3) := by decide +kernel
theorem dX7_as_46 : decode cX7_as 46 = .ok (.aload_n 0, 1) := by decide +kernel
theorem dX7_as_47 : decode cX7_as 47 = .ok (.iconst 3, 1) := by decide +kernel
theorem dX7_as_48 : decode cX7_as 48 = .ok (.invokevirtual 80, 3) := by decide +kernel
theorem dX7_as_51 : decode cX7_as 51 = .ok (.ireturn, 1) := by decide +kernel
theorem dX7_begin_0 : decode cX7_begin 0 = .ok (.aload_n 0, 1) := by decide +kernel
theorem dX7_begin_1 : decode cX7_begin 1 = .ok (.getfield 256, 3) := by decide +kernel
theorem dX7_begin_4 : decode cX7_begin 4 = .ok (.bipush 16, 2) := by decide +kernel
theorem dX7_begin_6 : decode cX7_begin 6 = .ok (.if_icmp .ge 23, 3) := by decide +kernel
theorem dX7_begin_9 : decode cX7_begin 9 = .ok (.aload_n 0, 1) := by decide +kernel
theorem dX7_begin_10 : decode cX7_begin 10 = .ok (.getfield 59, 3) := by decide +kernel
theorem dX7_begin_13 : decode cX7_begin 13 = .ok (.aload_n 0, 1) := by decide +kernel
theorem dX7_begin_14 : decode cX7_begin 14 = .ok (.getfield 256, 3) := by decide +kernel
theorem dX7_begin_17 : decode cX7_begin 17 = .ok (.iload_n 1, 1) := by decide +kernel
theorem dX7_begin_18 : decode cX7_begin 18 = .ok (.iastore, 1) := by decide +kernel
theorem dX7_begin_19 : decode cX7_begin 19 = .ok (.aload_n 0, 1) := by decide +kernel
theorem dX7_begin_20 : decode cX7_begin 20 = .ok (.dup, 1) := by decide +kernel
theorem dX7_begin_21 : decode cX7_begin 21 = .ok (.getfield 256, 3) := by decide +kernel
theorem dX7_begin_24 : decode cX7_begin 24 = .ok (.iconst 1, 1) := by decide +kernel
theorem dX7_begin_25 : decode cX7_begin 25 = .ok (.iadd, 1) := by decide +kernel
theorem dX7_begin_26 : decode cX7_begin 26 = .ok (.putfield 256, 3) := by decide +kernel
theorem dX7_begin_29 : decode cX7_begin 29 = .ok (.return_, 1) := by decide +kernel
theorem dX7_lent_0 : decode cX7_lent 0 = .ok (.aload_n 0, 1) := by decide +kernel
theorem dX7_lent_1 : decode cX7_lent 1 = .ok (.iload_n 2, 1) := by decide +kernel
theorem dX7_lent_2 : decode cX7_lent 2 = .ok (.invokevirtual 259, 3) := by decide +kernel
theorem dX7_lent_5 : decode cX7_lent 5 = .ok (.iload_n 2, 1) := by decide +kernel
theorem dX7_lent_6 : decode cX7_lent 6 = .ok (.bipush 10, 2) := by decide +kernel
theorem dX7_lent_8 : decode cX7_lent 8 = .ok (.if_icmp .ne 15, 3) := by decide +kernel
theorem dX7_lent_11 : decode cX7_lent 11 = .ok (.aload_n 0, 1) := by decide +kernel
theorem dX7_lent_12 : decode cX7_lent 12 = .ok (.getfield 19, 3) := by decide +kernel
theorem dX7_lent_15 : decode cX7_lent 15 = .ok (.bipush 17, 2) := by decide +kernel
theorem dX7_lent_17 : decode cX7_lent 17 = .ok (.iload_n 1, 1) := by decide +kernel
theorem dX7_lent_18 : decode cX7_lent 18 = .ok (.iadd, 1) := by decide +kernel
theorem dX7_lent_19 : decode cX7_lent 19 = .ok (.iaload, 1) := by decide +kernel
theorem dX7_lent_20 : decode cX7_lent 20 = .ok (.goto 4, 3) := by decide +kernel
theorem dX7_lent_23 : decode cX7_lent 23 = .ok (.iload_n 1, 1) := by decide +kernel
theorem dX7_lent_24 : decode cX7_lent 24 = .ok (.ireturn, 1) := by decide +kernel
theorem dX7_growingMark_0 : decode cX7_growingMark 0 = .ok (.aload_n 0, 1) := by decide +kernel
theorem dX7_growingMark_1 : decode cX7_growingMark 1 = .ok (.bipush 21, 2) := by decide +kernel
theorem dX7_growingMark_3 : decode cX7_growingMark 3 = .ok (.invokevirtual 259, 3) := by decide +kernel
theorem dX7_growingMark_6 : decode cX7_growingMark 6 = .ok (.aload_n 0, 1) := by decide +kernel
theorem dX7_growingMark_7 : decode cX7_growingMark 7 = .ok (.iload_n 1, 1) := by decide +kernel
theorem dX7_growingMark_8 : decode cX7_growingMark 8 = .ok (.bipush 20, 2) := by decide +kernel
theorem dX7_growingMark_10 : decode cX7_growingMark 10 = .ok (.invokevirtual 263, 3) := by decide +kernel
theorem dX7_growingMark_13 : decode cX7_growingMark 13 = .ok (.aload_n 0, 1) := by decide +kernel
theorem dX7_growingMark_14 : decode cX7_growingMark 14 = .ok (.getfield 19, 3) := by decide +kernel
theorem dX7_growingMark_17 : decode cX7_growingMark 17 = .ok (.bipush 35, 2) := by decide +kernel
theorem dX7_growingMark_19 : decode cX7_growingMark 19 = .ok (.iload_n 1, 1) := by decide +kernel
theorem dX7_growingMark_20 : decode cX7_growingMark 20 = .ok (.iadd, 1) := by decide +kernel
theorem dX7_growingMark_21 : decode cX7_growingMark 21 = .ok (.iaload, 1) := by decide +kernel
theorem dX7_growingMark_22 : decode cX7_growingMark 22 = .ok (.iadd, 1) := by decide +kernel
theorem dX7_growingMark_23 : decode cX7_growingMark 23 = .ok (.ireturn, 1) := by decide +kernel
theorem dX7_personSize_0 : decode cX7_personSize 0 = .ok (.aload_n 0, 1) := by decide +kernel
theorem dX7_personSize_1 : decode cX7_personSize 1 = .ok (.bipush 13, 2) := by decide +kernel
theorem dX7_personSize_3 : decode cX7_personSize 3 = .ok (.invokevirtual 259, 3) := by decide +kernel
theorem dX7_personSize_6 : decode cX7_personSize 6 = .ok (.aload_n 0, 1) := by decide +kernel
theorem dX7_personSize_7 : decode cX7_personSize 7 = .ok (.iload_n 1, 1) := by decide +kernel
theorem dX7_personSize_8 : decode cX7_personSize 8 = .ok (.bipush 10, 2) := by decide +kernel
theorem dX7_personSize_10 : decode cX7_personSize 10 = .ok (.invokevirtual 263, 3) := by decide +kernel
theorem dX7_personSize_13 : decode cX7_personSize 13 = .ok (.bipush 100, 2) := by decide +kernel
theorem dX7_personSize_15 : decode cX7_personSize 15 = .ok (.isub, 1) := by decide +kernel
theorem dX7_personSize_16 : decode cX7_personSize 16 = .ok (.ireturn, 1) := by decide +kernel
theorem dX7_sizeOfPerson_0 : decode cX7_sizeOfPerson 0 = .ok (.aload_n 0, 1) := by decide +kernel
theorem dX7_sizeOfPerson_1 : decode cX7_sizeOfPerson 1 = .ok (.getfield 19, 3) := by decide +kernel
theorem dX7_sizeOfPerson_4 : decode cX7_sizeOfPerson 4 = .ok (.iconst 5, 1) := by decide +kernel
theorem dX7_sizeOfPerson_5 : decode cX7_sizeOfPerson 5 = .ok (.iload_n 1, 1) := by decide +kernel
theorem dX7_sizeOfPerson_6 : decode cX7_sizeOfPerson 6 = .ok (.iadd, 1) := by decide +kernel
theorem dX7_sizeOfPerson_7 : decode cX7_sizeOfPerson 7 = .ok (.iaload, 1) := by decide +kernel
theorem dX7_sizeOfPerson_8 : decode cX7_sizeOfPerson 8 = .ok (.iconst 5, 1) := by decide +kernel
theorem dX7_sizeOfPerson_9 : decode cX7_sizeOfPerson 9 = .ok (.if_icmp .ne 17, 3) := by decide +kernel
theorem dX7_sizeOfPerson_12 : decode cX7_sizeOfPerson 12 = .ok (.aload_n 0, 1) := by decide +kernel
theorem dX7_sizeOfPerson_13 : decode cX7_sizeOfPerson 13 = .ok (.bipush 14, 2) := by decide +kernel
theorem dX7_sizeOfPerson_15 : decode cX7_sizeOfPerson 15 = .ok (.invokevirtual 259, 3) := by decide +kernel
theorem dX7_sizeOfPerson_18 : decode cX7_sizeOfPerson 18 = .ok (.iconst 2, 1) := by decide +kernel
theorem dX7_sizeOfPerson_19 : decode cX7_sizeOfPerson 19 = .ok (.aload_n 0, 1) := by decide +kernel
theorem dX7_sizeOfPerson_20 : decode cX7_sizeOfPerson 20 = .ok (.iload_n 1, 1) := by decide +kernel
theorem dX7_sizeOfPerson_21 : decode cX7_sizeOfPerson 21 = .ok (.invokevirtual 266, 3) := by decide +kernel
theorem dX7_sizeOfPerson_24 : decode cX7_sizeOfPerson 24 = .ok (.imul, 1) := by decide +kernel
theorem dX7_sizeOfPerson_25 : decode cX7_sizeOfPerson 25 = .ok (.ireturn, 1) := by decide +kernel
theorem dX7_sizeOfPerson_26 : decode cX7_sizeOfPerson 26 = .ok (.aload_n 0, 1) := by decide +kernel
theorem dX7_sizeOfPerson_27 : decode cX7_sizeOfPerson 27 = .ok (.iload_n 1, 1) := by decide +kernel
theorem dX7_sizeOfPerson_28 : decode cX7_sizeOfPerson 28 = .ok (.invokevirtual 266, 3) := by decide +kernel
theorem dX7_sizeOfPerson_31 : decode cX7_sizeOfPerson 31 = .ok (.ireturn, 1) := by decide +kernel
theorem dX7_markOf_0 : decode cX7_markOf 0 = .ok (.aload_n 0, 1) := by decide +kernel
theorem dX7_markOf_1 : decode cX7_markOf 1 = .ok (.getfield 19, 3) := by decide +kernel
theorem dX7_markOf_4 : decode cX7_markOf 4 = .ok (.iconst 5, 1) := by decide +kernel
theorem dX7_markOf_5 : decode cX7_markOf 5 = .ok (.iload_n 1, 1) := by decide +kernel
theorem dX7_markOf_6 : decode cX7_markOf 6 = .ok (.iadd, 1) := by decide +kernel
theorem dX7_markOf_7 : decode cX7_markOf 7 = .ok (.iaload, 1) := by decide +kernel
theorem dX7_markOf_8 : decode cX7_markOf 8 = .ok (.istore_n 2, 1) := by decide +kernel
theorem dX7_markOf_9 : decode cX7_markOf 9 = .ok (.iload_n 2, 1) := by decide +kernel
theorem dX7_markOf_10 : decode cX7_markOf 10 = .ok (.iconst 2, 1) := by decide +kernel
theorem dX7_markOf_11 : decode cX7_markOf 11 = .ok (.if_icmp .ne 17, 3) := by decide +kernel
theorem dX7_markOf_14 : decode cX7_markOf 14 = .ok (.aload_n 0, 1) := by decide +kernel
theorem dX7_markOf_15 : decode cX7_markOf 15 = .ok (.bipush 24, 2) := by decide +kernel
theorem dX7_markOf_17 : decode cX7_markOf 17 = .ok (.invokevirtual 259, 3) := by decide +kernel
theorem dX7_markOf_20 : decode cX7_markOf 20 = .ok (.iconst 2, 1) := by decide +kernel
theorem dX7_markOf_21 : decode cX7_markOf 21 = .ok (.aload_n 0, 1) := by decide +kernel
theorem dX7_markOf_22 : decode cX7_markOf 22 = .ok (.iload_n 1, 1) := by decide +kernel
theorem dX7_markOf_23 : decode cX7_markOf 23 = .ok (.invokevirtual 269, 3) := by decide +kernel
theorem dX7_markOf_26 : decode cX7_markOf 26 = .ok (.imul, 1) := by decide +kernel
theorem dX7_markOf_27 : decode cX7_markOf 27 = .ok (.ireturn, 1) := by decide +kernel
theorem dX7_markOf_28 : decode cX7_markOf 28 = .ok (.iload_n 2, 1) := by decide +kernel
theorem dX7_markOf_29 : decode cX7_markOf 29 = .ok (.iconst 3, 1) := by decide +kernel
theorem dX7_markOf_30 : decode cX7_markOf 30 = .ok (.if_icmp .ne 19, 3) := by decide +kernel
theorem dX7_markOf_33 : decode cX7_markOf 33 = .ok (.aload_n 0, 1) := by decide +kernel
theorem dX7_markOf_34 : decode cX7_markOf 34 = .ok (.bipush 22, 2) := by decide +kernel
theorem dX7_markOf_36 : decode cX7_markOf 36 = .ok (.invokevirtual 259, 3) := by decide +kernel
theorem dX7_markOf_39 : decode cX7_markOf 39 = .ok (.aload_n 0, 1) := by decide +kernel
theorem dX7_markOf_40 : decode cX7_markOf 40 = .ok (.iload_n 1, 1) := by decide +kernel
theorem dX7_markOf_41 : decode cX7_markOf 41 = .ok (.invokevirtual 269, 3) := by decide +kernel
theorem dX7_markOf_44 : decode cX7_markOf 44 = .ok (.sipush 1000, 3) := by decide +kernel
theorem dX7_markOf_47 : decode cX7_markOf 47 = .ok (.isub, 1) := by decide +kernel
theorem dX7_markOf_48 : decode cX7_markOf 48 = .ok (.ireturn, 1) := by decide +kernel
theorem dX7_markOf_49 : decode cX7_markOf 49 = .ok (.iload_n 2, 1) := by decide +kernel
theorem dX7_markOf_50 : decode cX7_markOf 50 = .ok (.iconst 1, 1) := by decide +kernel
theorem dX7_markOf_51 : decode cX7_markOf 51 = .ok (.if_icmp .ne 9, 3) := by decide +kernel
theorem dX7_markOf_54 : decode cX7_markOf 54 = .ok (.aload_n 0, 1) := by decide +kernel
theorem dX7_markOf_55 : decode cX7_markOf 55 = .ok (.iload_n 1, 1) := by decide +kernel
theorem dX7_markOf_56 : decode cX7_markOf 56 = .ok (.invokevirtual 269, 3) := by decide +kernel
theorem dX7_markOf_59 : decode cX7_markOf 59 = .ok (.ireturn, 1) := by decide +kernel
theorem dX7_markOf_60 : decode cX7_markOf 60 = .ok (.aload_n 0, 1) := by decide +kernel
theorem dX7_markOf_61 : decode cX7_markOf 61 = .ok (.bipush 23, 2) := by decide +kernel
theorem dX7_markOf_63 : decode cX7_markOf 63 = .ok (.invokevirtual 259, 3) := by decide +kernel
theorem dX7_markOf_66 : decode cX7_markOf 66 = .ok (.aload_n 0, 1) := by decide +kernel
theorem dX7_markOf_67 : decode cX7_markOf 67 = .ok (.iload_n 1, 1) := by decide +kernel
theorem dX7_markOf_68 : decode cX7_markOf 68 = .ok (.bipush 20, 2) := by decide +kernel
theorem dX7_markOf_70 : decode cX7_markOf 70 = .ok (.invokevirtual 263, 3) := by decide +kernel
theorem dX7_markOf_73 : decode cX7_markOf 73 = .ok (.istore_n 3, 1) := by decide +kernel
theorem dX7_markOf_74 : decode cX7_markOf 74 = .ok (.iload_n 3, 1) := by decide +kernel
theorem dX7_markOf_75 : decode cX7_markOf 75 = .ok (.aload_n 0, 1) := by decide +kernel
theorem dX7_markOf_76 : decode cX7_markOf 76 = .ok (.iload_n 1, 1) := by decide +kernel
theorem dX7_markOf_77 : decode cX7_markOf 77 = .ok (.invokevirtual 272, 3) := by decide +kernel
theorem dX7_markOf_80 : decode cX7_markOf 80 = .ok (.isub, 1) := by decide +kernel
theorem dX7_markOf_81 : decode cX7_markOf 81 = .ok (.ireturn, 1) := by decide +kernel
theorem dX7_growingSize_0 : decode cX7_growingSize 0 = .ok (.aload_n 0, 1) := by decide +kernel
theorem dX7_growingSize_1 : decode cX7_growingSize 1 = .ok (.bipush 11, 2) := by decide +kernel
theorem dX7_growingSize_3 : decode cX7_growingSize 3 = .ok (.invokevirtual 259, 3) := by decide +kernel
theorem dX7_growingSize_6 : decode cX7_growingSize 6 = .ok (.aload_n 0, 1) := by decide +kernel
theorem dX7_growingSize_7 : decode cX7_growingSize 7 = .ok (.iload_n 1, 1) := by decide +kernel
theorem dX7_growingSize_8 : decode cX7_growingSize 8 = .ok (.bipush 10, 2) := by decide +kernel
theorem dX7_growingSize_10 : decode cX7_growingSize 10 = .ok (.invokevirtual 263, 3) := by decide +kernel
theorem dX7_growingSize_13 : decode cX7_growingSize 13 = .ok (.istore_n 2, 1) := by decide +kernel
theorem dX7_growingSize_14 : decode cX7_growingSize 14 = .ok (.iload_n 2, 1) := by decide +kernel
theorem dX7_growingSize_15 : decode cX7_growingSize 15 = .ok (.aload_n 0, 1) := by decide +kernel
theorem dX7_growingSize_16 : decode cX7_growingSize 16 = .ok (.iload_n 1, 1) := by decide +kernel
theorem dX7_growingSize_17 : decode cX7_growingSize 17 = .ok (.invokevirtual 275, 3) := by decide +kernel
theorem dX7_growingSize_20 : decode cX7_growingSize 20 = .ok (.iadd, 1) := by decide +kernel
theorem dX7_growingSize_21 : decode cX7_growingSize 21 = .ok (.ireturn, 1) := by decide +kernel
theorem dX7_sizeOf_0 : decode cX7_sizeOf 0 = .ok (.aload_n 0, 1) := by decide +kernel
theorem dX7_sizeOf_1 : decode cX7_sizeOf 1 = .ok (.getfield 19, 3) := by decide +kernel
theorem dX7_sizeOf_4 : decode cX7_sizeOf 4 = .ok (.iconst 5, 1) := by decide +kernel
theorem dX7_sizeOf_5 : decode cX7_sizeOf 5 = .ok (.iload_n 1, 1) := by decide +kernel
theorem dX7_sizeOf_6 : decode cX7_sizeOf 6 = .ok (.iadd, 1) := by decide +kernel
theorem dX7_sizeOf_7 : decode cX7_sizeOf 7 = .ok (.iaload, 1) := by decide +kernel
theorem dX7_sizeOf_8 : decode cX7_sizeOf 8 = .ok (.istore_n 2, 1) := by decide +kernel
theorem dX7_sizeOf_9 : decode cX7_sizeOf 9 = .ok (.iload_n 2, 1) := by decide +kernel
theorem dX7_sizeOf_10 : decode cX7_sizeOf 10 = .ok (.iconst 2, 1) := by decide +kernel
theorem dX7_sizeOf_11 : decode cX7_sizeOf 11 = .ok (.if_icmp .ne 16, 3) := by decide +kernel
theorem dX7_sizeOf_14 : decode cX7_sizeOf 14 = .ok (.aload_n 0, 1) := by decide +kernel
theorem dX7_sizeOf_15 : decode cX7_sizeOf 15 = .ok (.bipush 12, 2) := by decide +kernel
theorem dX7_sizeOf_17 : decode cX7_sizeOf 17 = .ok (.invokevirtual 259, 3) := by decide +kernel
theorem dX7_sizeOf_20 : decode cX7_sizeOf 20 = .ok (.aload_n 0, 1) := by decide +kernel
theorem dX7_sizeOf_21 : decode cX7_sizeOf 21 = .ok (.iload_n 1, 1) := by decide +kernel
theorem dX7_sizeOf_22 : decode cX7_sizeOf 22 = .ok (.invokevirtual 278, 3) := by decide +kernel
theorem dX7_sizeOf_25 : decode cX7_sizeOf 25 = .ok (.ineg, 1) := by decide +kernel
theorem dX7_sizeOf_26 : decode cX7_sizeOf 26 = .ok (.ireturn, 1) := by decide +kernel
theorem dX7_sizeOf_27 : decode cX7_sizeOf 27 = .ok (.iload_n 2, 1) := by decide +kernel
theorem dX7_sizeOf_28 : decode cX7_sizeOf 28 = .ok (.iconst 4, 1) := by decide +kernel
theorem dX7_sizeOf_29 : decode cX7_sizeOf 29 = .ok (.if_icmp .lt 11, 3) := by decide +kernel
theorem dX7_sizeOf_32 : decode cX7_sizeOf 32 = .ok (.aload_n 0, 1) := by decide +kernel
theorem dX7_sizeOf_33 : decode cX7_sizeOf 33 = .ok (.iload_n 1, 1) := by decide +kernel
theorem dX7_sizeOf_34 : decode cX7_sizeOf 34 = .ok (.invokevirtual 272, 3) := by decide +kernel
theorem dX7_sizeOf_37 : decode cX7_sizeOf 37 = .ok (.goto 8, 3) := by decide +kernel
theorem dX7_sizeOf_40 : decode cX7_sizeOf 40 = .ok (.aload_n 0, 1) := by decide +kernel
theorem dX7_sizeOf_41 : decode cX7_sizeOf 41 = .ok (.iload_n 1, 1) := by decide +kernel
theorem dX7_sizeOf_42 : decode cX7_sizeOf 42 = .ok (.invokevirtual 278, 3) := by decide +kernel
theorem dX7_sizeOf_45 : decode cX7_sizeOf 45 = .ok (.ireturn, 1) := by decide +kernel
theorem dX7_ask_0 : decode cX7_ask 0 = .ok (.aload_n 0, 1) := by decide +kernel
theorem dX7_ask_1 : decode cX7_ask 1 = .ok (.iload_n 1, 1) := by decide +kernel
theorem dX7_ask_2 : decode cX7_ask 2 = .ok (.invokevirtual 180, 3) := by decide +kernel
theorem dX7_ask_5 : decode cX7_ask 5 = .ok (.ifCond .eq 13, 3) := by decide +kernel
theorem dX7_ask_8 : decode cX7_ask 8 = .ok (.iload_n 2, 1) := by decide +kernel
theorem dX7_ask_9 : decode cX7_ask 9 = .ok (.i2l, 1) := by decide +kernel
theorem dX7_ask_10 : decode cX7_ask 10 = .ok (.lconst 0, 1) := by decide +kernel
theorem dX7_ask_11 : decode cX7_ask 11 = .ok (.lconst 1, 1) := by decide +kernel
theorem dX7_ask_12 : decode cX7_ask 12 = .ok (.invokestatic 69, 3) := by decide +kernel
theorem dX7_ask_15 : decode cX7_ask 15 = .ok (.ifCond .ne 6, 3) := by decide +kernel
theorem dX7_ask_18 : decode cX7_ask 18 = .ok (.ldc 79, 2) := by decide +kernel
theorem dX7_ask_20 : decode cX7_ask 20 = .ok (.ireturn, 1) := by decide +kernel
theorem dX7_ask_21 : decode cX7_ask 21 = .ok (.aload_n 0, 1) := by decide +kernel
theorem dX7_ask_22 : decode cX7_ask 22 = .ok (.iconst 0, 1) := by decide +kernel
theorem dX7_ask_23 : decode cX7_ask 23 = .ok (.putfield 256, 3) := by decide +kernel
theorem dX7_ask_26 : decode cX7_ask 26 = .ok (.iload_n 2, 1) := by decide +kernel
theorem dX7_ask_27 : decode cX7_ask 27 = .ok (.ifCond .ne 11, 3) := by decide +kernel
theorem dX7_ask_30 : decode cX7_ask 30 = .ok (.aload_n 0, 1) := by decide +kernel
theorem dX7_ask_31 : decode cX7_ask 31 = .ok (.iload_n 1, 1) := by decide +kernel
theorem dX7_ask_32 : decode cX7_ask 32 = .ok (.invokevirtual 281, 3) := by decide +kernel
theorem dX7_ask_35 : decode cX7_ask 35 = .ok (.goto 8, 3) := by decide +kernel
theorem dX7_ask_38 : decode cX7_ask 38 = .ok (.aload_n 0, 1) := by decide +kernel
theorem dX7_ask_39 : decode cX7_ask 39 = .ok (.iload_n 1, 1) := by decide +kernel
theorem dX7_ask_40 : decode cX7_ask 40 = .ok (.invokevirtual 275, 3) := by decide +kernel
theorem dX7_ask_43 : decode cX7_ask 43 = .ok (.ireturn, 1) := by decide +kernel
theorem dX7_trace_0 : decode cX7_trace 0 = .ok (.iload_n 1, 1) := by decide +kernel
theorem dX7_trace_1 : decode cX7_trace 1 = .ok (.i2l, 1) := by decide +kernel
theorem dX7_trace_2 : decode cX7_trace 2 = .ok (.lconst 0, 1) := by decide +kernel
theorem dX7_trace_3 : decode cX7_trace 3 = .ok (.aload_n 0, 1) := by decide +kernel
theorem dX7_trace_4 : decode cX7_trace 4 = .ok (.getfield 256, 3) := by decide +kernel
theorem dX7_trace_7 : decode cX7_trace 7 = .ok (.iconst 1, 1) := by decide +kernel
theorem dX7_trace_8 : decode cX7_trace 8 = .ok (.isub, 1) := by decide +kernel
theorem dX7_trace_9 : decode cX7_trace 9 = .ok (.i2l, 1) := by decide +kernel
theorem dX7_trace_10 : decode cX7_trace 10 = .ok (.invokestatic 69, 3) := by decide +kernel
theorem dX7_trace_13 : decode cX7_trace 13 = .ok (.ifCond .eq 12, 3) := by decide +kernel
theorem dX7_trace_16 : decode cX7_trace 16 = .ok (.aload_n 0, 1) := by decide +kernel
theorem dX7_trace_17 : decode cX7_trace 17 = .ok (.getfield 59, 3) := by decide +kernel
theorem dX7_trace_20 : decode cX7_trace 20 = .ok (.iload_n 1, 1) := by decide +kernel
theorem dX7_trace_21 : decode cX7_trace 21 = .ok (.iaload, 1) := by decide +kernel
theorem dX7_trace_22 : decode cX7_trace 22 = .ok (.goto 5, 3) := by decide +kernel
theorem dX7_trace_25 : decode cX7_trace 25 = .ok (.ldc 194, 2) := by decide +kernel
theorem dX7_trace_27 : decode cX7_trace 27 = .ok (.ireturn, 1) := by decide +kernel
theorem dX7_count_0 : decode cX7_count 0 = .ok (.iconst 0, 1) := by decide +kernel
theorem dX7_count_1 : decode cX7_count 1 = .ok (.istore_n 2, 1) := by decide +kernel
theorem dX7_count_2 : decode cX7_count 2 = .ok (.iconst 0, 1) := by decide +kernel
theorem dX7_count_3 : decode cX7_count 3 = .ok (.istore_n 3, 1) := by decide +kernel
theorem dX7_count_4 : decode cX7_count 4 = .ok (.iload_n 3, 1) := by decide +kernel
theorem dX7_count_5 : decode cX7_count 5 = .ok (.bipush 8, 2) := by decide +kernel
theorem dX7_count_7 : decode cX7_count 7 = .ok (.if_icmp .ge 26, 3) := by decide +kernel
theorem dX7_count_10 : decode cX7_count 10 = .ok (.iload_n 2, 1) := by decide +kernel
theorem dX7_count_11 : decode cX7_count 11 = .ok (.aload_n 0, 1) := by decide +kernel
theorem dX7_count_12 : decode cX7_count 12 = .ok (.getfield 13, 3) := by decide +kernel
theorem dX7_count_15 : decode cX7_count 15 = .ok (.iload_n 3, 1) := by decide +kernel
theorem dX7_count_16 : decode cX7_count 16 = .ok (.iaload, 1) := by decide +kernel
theorem dX7_count_17 : decode cX7_count 17 = .ok (.ifCond .lt 7, 3) := by decide +kernel
theorem dX7_count_20 : decode cX7_count 20 = .ok (.iconst 1, 1) := by decide +kernel
theorem dX7_count_21 : decode cX7_count 21 = .ok (.goto 4, 3) := by decide +kernel
theorem dX7_count_24 : decode cX7_count 24 = .ok (.iconst 0, 1) := by decide +kernel
theorem dX7_count_25 : decode cX7_count 25 = .ok (.iadd, 1) := by decide +kernel
theorem dX7_count_26 : decode cX7_count 26 = .ok (.istore_n 2, 1) := by decide +kernel
theorem dX7_count_27 : decode cX7_count 27 = .ok (.iinc 3 1, 3) := by decide +kernel
theorem dX7_count_30 : decode cX7_count 30 = .ok (.goto (-26), 3) := by decide +kernel
theorem dX7_count_33 : decode cX7_count 33 = .ok (.iload_n 1, 1) := by decide +kernel
theorem dX7_count_34 : decode cX7_count 34 = .ok (.tableswitch 71 0 5 #[38, 40, 47, 54, 61, 66], 38) := by decide +kernel
theorem dX7_count_72 : decode cX7_count 72 = .ok (.iload_n 2, 1) := by decide +kernel
theorem dX7_count_73 : decode cX7_count 73 = .ok (.ireturn, 1) := by decide +kernel
theorem dX7_count_74 : decode cX7_count 74 = .ok (.aload_n 0, 1) := by decide +kernel
theorem dX7_count_75 : decode cX7_count 75 = .ok (.getfield 19, 3) := by decide +kernel
theorem dX7_count_78 : decode cX7_count 78 = .ok (.iconst 2, 1) := by decide +kernel
theorem dX7_count_79 : decode cX7_count 79 = .ok (.iaload, 1) := by decide +kernel
theorem dX7_count_80 : decode cX7_count 80 = .ok (.ireturn, 1) := by decide +kernel
theorem dX7_count_81 : decode cX7_count 81 = .ok (.aload_n 0, 1) := by decide +kernel
theorem dX7_count_82 : decode cX7_count 82 = .ok (.getfield 19, 3) := by decide +kernel
theorem dX7_count_85 : decode cX7_count 85 = .ok (.iconst 3, 1) := by decide +kernel
theorem dX7_count_86 : decode cX7_count 86 = .ok (.iaload, 1) := by decide +kernel
theorem dX7_count_87 : decode cX7_count 87 = .ok (.ireturn, 1) := by decide +kernel
theorem dX7_count_88 : decode cX7_count 88 = .ok (.aload_n 0, 1) := by decide +kernel
theorem dX7_count_89 : decode cX7_count 89 = .ok (.getfield 19, 3) := by decide +kernel
theorem dX7_count_92 : decode cX7_count 92 = .ok (.iconst 4, 1) := by decide +kernel
theorem dX7_count_93 : decode cX7_count 93 = .ok (.iaload, 1) := by decide +kernel
theorem dX7_count_94 : decode cX7_count 94 = .ok (.ireturn, 1) := by decide +kernel
theorem dX7_count_95 : decode cX7_count 95 = .ok (.aload_n 0, 1) := by decide +kernel
theorem dX7_count_96 : decode cX7_count 96 = .ok (.getfield 151, 3) := by decide +kernel
theorem dX7_count_99 : decode cX7_count 99 = .ok (.ireturn, 1) := by decide +kernel
theorem dX7_count_100 : decode cX7_count 100 = .ok (.aload_n 0, 1) := by decide +kernel
theorem dX7_count_101 : decode cX7_count 101 = .ok (.getfield 93, 3) := by decide +kernel
theorem dX7_count_104 : decode cX7_count 104 = .ok (.ireturn, 1) := by decide +kernel
theorem dX7_count_105 : decode cX7_count 105 = .ok (.ldc 79, 2) := by decide +kernel
theorem dX7_count_107 : decode cX7_count 107 = .ok (.ireturn, 1) := by decide +kernel
theorem dX7_status_0 : decode cX7_status 0 = .ok (.aload_n 0, 1) := by decide +kernel
theorem dX7_status_1 : decode cX7_status 1 = .ok (.getfield 62, 3) := by decide +kernel
theorem dX7_status_4 : decode cX7_status 4 = .ok (.ireturn, 1) := by decide +kernel
