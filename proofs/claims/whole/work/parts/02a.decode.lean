theorem dX0_init_0 : decode cX0_init 0 = .ok (.aload_n 0, 1) := by decide +kernel
theorem dX0_init_1 : decode cX0_init 1 = .ok (.invokespecial 3, 3) := by decide +kernel
theorem dX0_init_4 : decode cX0_init 4 = .ok (.aload_n 0, 1) := by decide +kernel
theorem dX0_init_5 : decode cX0_init 5 = .ok (.sipush 216, 3) := by decide +kernel
theorem dX0_init_8 : decode cX0_init 8 = .ok (.newarray .int, 2) := by decide +kernel
theorem dX0_init_10 : decode cX0_init 10 = .ok (.putfield 11, 3) := by decide +kernel
theorem dX0_init_13 : decode cX0_init 13 = .ok (.aload_n 0, 1) := by decide +kernel
theorem dX0_init_14 : decode cX0_init 14 = .ok (.iconst 0, 1) := by decide +kernel
theorem dX0_init_15 : decode cX0_init 15 = .ok (.putfield 15, 3) := by decide +kernel
theorem dX0_init_18 : decode cX0_init 18 = .ok (.aload_n 0, 1) := by decide +kernel
theorem dX0_init_19 : decode cX0_init 19 = .ok (.iconst 0, 1) := by decide +kernel
theorem dX0_init_20 : decode cX0_init 20 = .ok (.putfield 19, 3) := by decide +kernel
theorem dX0_init_23 : decode cX0_init 23 = .ok (.return_, 1) := by decide +kernel
theorem dX0_forget_0 : decode cX0_forget 0 = .ok (.aload_n 0, 1) := by decide +kernel
theorem dX0_forget_1 : decode cX0_forget 1 = .ok (.iconst 0, 1) := by decide +kernel
theorem dX0_forget_2 : decode cX0_forget 2 = .ok (.putfield 15, 3) := by decide +kernel
theorem dX0_forget_5 : decode cX0_forget 5 = .ok (.return_, 1) := by decide +kernel
theorem dX0_keep_0 : decode cX0_keep 0 = .ok (.aload_n 0, 1) := by decide +kernel
theorem dX0_keep_1 : decode cX0_keep 1 = .ok (.getfield 19, 3) := by decide +kernel
theorem dX0_keep_4 : decode cX0_keep 4 = .ok (.bipush 9, 2) := by decide +kernel
theorem dX0_keep_6 : decode cX0_keep 6 = .ok (.imul, 1) := by decide +kernel
theorem dX0_keep_7 : decode cX0_keep 7 = .ok (.istore_n 2, 1) := by decide +kernel
theorem dX0_keep_8 : decode cX0_keep 8 = .ok (.aload_n 0, 1) := by decide +kernel
theorem dX0_keep_9 : decode cX0_keep 9 = .ok (.getfield 11, 3) := by decide +kernel
theorem dX0_keep_12 : decode cX0_keep 12 = .ok (.iload_n 2, 1) := by decide +kernel
theorem dX0_keep_13 : decode cX0_keep 13 = .ok (.aload_n 1, 1) := by decide +kernel
theorem dX0_keep_14 : decode cX0_keep 14 = .ok (.getfield 22, 3) := by decide +kernel
theorem dX0_keep_17 : decode cX0_keep 17 = .ok (.iastore, 1) := by decide +kernel
theorem dX0_keep_18 : decode cX0_keep 18 = .ok (.aload_n 0, 1) := by decide +kernel
theorem dX0_keep_19 : decode cX0_keep 19 = .ok (.getfield 11, 3) := by decide +kernel
theorem dX0_keep_22 : decode cX0_keep 22 = .ok (.iload_n 2, 1) := by decide +kernel
theorem dX0_keep_23 : decode cX0_keep 23 = .ok (.iconst 1, 1) := by decide +kernel
theorem dX0_keep_24 : decode cX0_keep 24 = .ok (.iadd, 1) := by decide +kernel
theorem dX0_keep_25 : decode cX0_keep 25 = .ok (.aload_n 1, 1) := by decide +kernel
theorem dX0_keep_26 : decode cX0_keep 26 = .ok (.getfield 27, 3) := by decide +kernel
theorem dX0_keep_29 : decode cX0_keep 29 = .ok (.iastore, 1) := by decide +kernel
theorem dX0_keep_30 : decode cX0_keep 30 = .ok (.aload_n 0, 1) := by decide +kernel
theorem dX0_keep_31 : decode cX0_keep 31 = .ok (.getfield 11, 3) := by decide +kernel
theorem dX0_keep_34 : decode cX0_keep 34 = .ok (.iload_n 2, 1) := by decide +kernel
theorem dX0_keep_35 : decode cX0_keep 35 = .ok (.iconst 2, 1) := by decide +kernel
theorem dX0_keep_36 : decode cX0_keep 36 = .ok (.iadd, 1) := by decide +kernel
theorem dX0_keep_37 : decode cX0_keep 37 = .ok (.aload_n 1, 1) := by decide +kernel
theorem dX0_keep_38 : decode cX0_keep 38 = .ok (.getfield 30, 3) := by decide +kernel
theorem dX0_keep_41 : decode cX0_keep 41 = .ok (.iastore, 1) := by decide +kernel
theorem dX0_keep_42 : decode cX0_keep 42 = .ok (.iconst 0, 1) := by decide +kernel
theorem dX0_keep_43 : decode cX0_keep 43 = .ok (.istore_n 3, 1) := by decide +kernel
theorem dX0_keep_44 : decode cX0_keep 44 = .ok (.iload_n 3, 1) := by decide +kernel
theorem dX0_keep_45 : decode cX0_keep 45 = .ok (.bipush 6, 2) := by decide +kernel
theorem dX0_keep_47 : decode cX0_keep 47 = .ok (.if_icmp .ge 25, 3) := by decide +kernel
theorem dX0_keep_50 : decode cX0_keep 50 = .ok (.aload_n 0, 1) := by decide +kernel
theorem dX0_keep_51 : decode cX0_keep 51 = .ok (.getfield 11, 3) := by decide +kernel
theorem dX0_keep_54 : decode cX0_keep 54 = .ok (.iload_n 2, 1) := by decide +kernel
theorem dX0_keep_55 : decode cX0_keep 55 = .ok (.iconst 3, 1) := by decide +kernel
theorem dX0_keep_56 : decode cX0_keep 56 = .ok (.iadd, 1) := by decide +kernel
theorem dX0_keep_57 : decode cX0_keep 57 = .ok (.iload_n 3, 1) := by decide +kernel
theorem dX0_keep_58 : decode cX0_keep 58 = .ok (.iadd, 1) := by decide +kernel
theorem dX0_keep_59 : decode cX0_keep 59 = .ok (.aload_n 1, 1) := by decide +kernel
theorem dX0_keep_60 : decode cX0_keep 60 = .ok (.getfield 33, 3) := by decide +kernel
theorem dX0_keep_63 : decode cX0_keep 63 = .ok (.iload_n 3, 1) := by decide +kernel
theorem dX0_keep_64 : decode cX0_keep 64 = .ok (.iaload, 1) := by decide +kernel
theorem dX0_keep_65 : decode cX0_keep 65 = .ok (.iastore, 1) := by decide +kernel
theorem dX0_keep_66 : decode cX0_keep 66 = .ok (.iinc 3 1, 3) := by decide +kernel
theorem dX0_keep_69 : decode cX0_keep 69 = .ok (.goto (-25), 3) := by decide +kernel
theorem dX0_keep_72 : decode cX0_keep 72 = .ok (.aload_n 0, 1) := by decide +kernel
theorem dX0_keep_73 : decode cX0_keep 73 = .ok (.aload_n 0, 1) := by decide +kernel
theorem dX0_keep_74 : decode cX0_keep 74 = .ok (.getfield 19, 3) := by decide +kernel
theorem dX0_keep_77 : decode cX0_keep 77 = .ok (.iconst 1, 1) := by decide +kernel
theorem dX0_keep_78 : decode cX0_keep 78 = .ok (.iadd, 1) := by decide +kernel
theorem dX0_keep_79 : decode cX0_keep 79 = .ok (.bipush 24, 2) := by decide +kernel
theorem dX0_keep_81 : decode cX0_keep 81 = .ok (.if_icmp .ge 12, 3) := by decide +kernel
theorem dX0_keep_84 : decode cX0_keep 84 = .ok (.aload_n 0, 1) := by decide +kernel
theorem dX0_keep_85 : decode cX0_keep 85 = .ok (.getfield 19, 3) := by decide +kernel
theorem dX0_keep_88 : decode cX0_keep 88 = .ok (.iconst 1, 1) := by decide +kernel
theorem dX0_keep_89 : decode cX0_keep 89 = .ok (.iadd, 1) := by decide +kernel
theorem dX0_keep_90 : decode cX0_keep 90 = .ok (.goto 4, 3) := by decide +kernel
theorem dX0_keep_93 : decode cX0_keep 93 = .ok (.iconst 0, 1) := by decide +kernel
theorem dX0_keep_94 : decode cX0_keep 94 = .ok (.putfield 19, 3) := by decide +kernel
theorem dX0_keep_97 : decode cX0_keep 97 = .ok (.aload_n 0, 1) := by decide +kernel
theorem dX0_keep_98 : decode cX0_keep 98 = .ok (.aload_n 0, 1) := by decide +kernel
theorem dX0_keep_99 : decode cX0_keep 99 = .ok (.getfield 15, 3) := by decide +kernel
theorem dX0_keep_102 : decode cX0_keep 102 = .ok (.iconst 1, 1) := by decide +kernel
theorem dX0_keep_103 : decode cX0_keep 103 = .ok (.iadd, 1) := by decide +kernel
theorem dX0_keep_104 : decode cX0_keep 104 = .ok (.bipush 24, 2) := by decide +kernel
theorem dX0_keep_106 : decode cX0_keep 106 = .ok (.invokestatic 36, 3) := by decide +kernel
theorem dX0_keep_109 : decode cX0_keep 109 = .ok (.putfield 15, 3) := by decide +kernel
theorem dX0_keep_112 : decode cX0_keep 112 = .ok (.return_, 1) := by decide +kernel
theorem dX0_takeBack_0 : decode cX0_takeBack 0 = .ok (.aload_n 0, 1) := by decide +kernel
theorem dX0_takeBack_1 : decode cX0_takeBack 1 = .ok (.aload_n 0, 1) := by decide +kernel
theorem dX0_takeBack_2 : decode cX0_takeBack 2 = .ok (.getfield 19, 3) := by decide +kernel
theorem dX0_takeBack_5 : decode cX0_takeBack 5 = .ok (.ifCond .le 12, 3) := by decide +kernel
theorem dX0_takeBack_8 : decode cX0_takeBack 8 = .ok (.aload_n 0, 1) := by decide +kernel
theorem dX0_takeBack_9 : decode cX0_takeBack 9 = .ok (.getfield 19, 3) := by decide +kernel
theorem dX0_takeBack_12 : decode cX0_takeBack 12 = .ok (.iconst 1, 1) := by decide +kernel
theorem dX0_takeBack_13 : decode cX0_takeBack 13 = .ok (.isub, 1) := by decide +kernel
theorem dX0_takeBack_14 : decode cX0_takeBack 14 = .ok (.goto 5, 3) := by decide +kernel
theorem dX0_takeBack_17 : decode cX0_takeBack 17 = .ok (.bipush 23, 2) := by decide +kernel
theorem dX0_takeBack_19 : decode cX0_takeBack 19 = .ok (.putfield 19, 3) := by decide +kernel
theorem dX0_takeBack_22 : decode cX0_takeBack 22 = .ok (.aload_n 0, 1) := by decide +kernel
theorem dX0_takeBack_23 : decode cX0_takeBack 23 = .ok (.dup, 1) := by decide +kernel
theorem dX0_takeBack_24 : decode cX0_takeBack 24 = .ok (.getfield 15, 3) := by decide +kernel
theorem dX0_takeBack_27 : decode cX0_takeBack 27 = .ok (.iconst 1, 1) := by decide +kernel
theorem dX0_takeBack_28 : decode cX0_takeBack 28 = .ok (.isub, 1) := by decide +kernel
theorem dX0_takeBack_29 : decode cX0_takeBack 29 = .ok (.putfield 15, 3) := by decide +kernel
theorem dX0_takeBack_32 : decode cX0_takeBack 32 = .ok (.aload_n 0, 1) := by decide +kernel
theorem dX0_takeBack_33 : decode cX0_takeBack 33 = .ok (.getfield 19, 3) := by decide +kernel
theorem dX0_takeBack_36 : decode cX0_takeBack 36 = .ok (.bipush 9, 2) := by decide +kernel
theorem dX0_takeBack_38 : decode cX0_takeBack 38 = .ok (.imul, 1) := by decide +kernel
theorem dX0_takeBack_39 : decode cX0_takeBack 39 = .ok (.istore_n 2, 1) := by decide +kernel
theorem dX0_takeBack_40 : decode cX0_takeBack 40 = .ok (.aload_n 1, 1) := by decide +kernel
theorem dX0_takeBack_41 : decode cX0_takeBack 41 = .ok (.aload_n 0, 1) := by decide +kernel
theorem dX0_takeBack_42 : decode cX0_takeBack 42 = .ok (.getfield 11, 3) := by decide +kernel
theorem dX0_takeBack_45 : decode cX0_takeBack 45 = .ok (.iload_n 2, 1) := by decide +kernel
theorem dX0_takeBack_46 : decode cX0_takeBack 46 = .ok (.iaload, 1) := by decide +kernel
theorem dX0_takeBack_47 : decode cX0_takeBack 47 = .ok (.putfield 22, 3) := by decide +kernel
theorem dX0_takeBack_50 : decode cX0_takeBack 50 = .ok (.aload_n 1, 1) := by decide +kernel
theorem dX0_takeBack_51 : decode cX0_takeBack 51 = .ok (.aload_n 0, 1) := by decide +kernel
theorem dX0_takeBack_52 : decode cX0_takeBack 52 = .ok (.getfield 11, 3) := by decide +kernel
theorem dX0_takeBack_55 : decode cX0_takeBack 55 = .ok (.iload_n 2, 1) := by decide +kernel
theorem dX0_takeBack_56 : decode cX0_takeBack 56 = .ok (.iconst 1, 1) := by decide +kernel
theorem dX0_takeBack_57 : decode cX0_takeBack 57 = .ok (.iadd, 1) := by decide +kernel
theorem dX0_takeBack_58 : decode cX0_takeBack 58 = .ok (.iaload, 1) := by decide +kernel
theorem dX0_takeBack_59 : decode cX0_takeBack 59 = .ok (.putfield 27, 3) := by decide +kernel
theorem dX0_takeBack_62 : decode cX0_takeBack 62 = .ok (.aload_n 1, 1) := by decide +kernel
theorem dX0_takeBack_63 : decode cX0_takeBack 63 = .ok (.aload_n 0, 1) := by decide +kernel
theorem dX0_takeBack_64 : decode cX0_takeBack 64 = .ok (.getfield 11, 3) := by decide +kernel
theorem dX0_takeBack_67 : decode cX0_takeBack 67 = .ok (.iload_n 2, 1) := by decide +kernel
theorem dX0_takeBack_68 : decode cX0_takeBack 68 = .ok (.iconst 2, 1) := by decide +kernel
theorem dX0_takeBack_69 : decode cX0_takeBack 69 = .ok (.iadd, 1) := by decide +kernel
theorem dX0_takeBack_70 : decode cX0_takeBack 70 = .ok (.iaload, 1) := by decide +kernel
theorem dX0_takeBack_71 : decode cX0_takeBack 71 = .ok (.putfield 30, 3) := by decide +kernel
theorem dX0_takeBack_74 : decode cX0_takeBack 74 = .ok (.iconst 0, 1) := by decide +kernel
theorem dX0_takeBack_75 : decode cX0_takeBack 75 = .ok (.istore_n 3, 1) := by decide +kernel
theorem dX0_takeBack_76 : decode cX0_takeBack 76 = .ok (.iload_n 3, 1) := by decide +kernel
theorem dX0_takeBack_77 : decode cX0_takeBack 77 = .ok (.bipush 6, 2) := by decide +kernel
theorem dX0_takeBack_79 : decode cX0_takeBack 79 = .ok (.if_icmp .ge 25, 3) := by decide +kernel
theorem dX0_takeBack_82 : decode cX0_takeBack 82 = .ok (.aload_n 1, 1) := by decide +kernel
theorem dX0_takeBack_83 : decode cX0_takeBack 83 = .ok (.getfield 33, 3) := by decide +kernel
theorem dX0_takeBack_86 : decode cX0_takeBack 86 = .ok (.iload_n 3, 1) := by decide +kernel
theorem dX0_takeBack_87 : decode cX0_takeBack 87 = .ok (.aload_n 0, 1) := by decide +kernel
theorem dX0_takeBack_88 : decode cX0_takeBack 88 = .ok (.getfield 11, 3) := by decide +kernel
theorem dX0_takeBack_91 : decode cX0_takeBack 91 = .ok (.iload_n 2, 1) := by decide +kernel
theorem dX0_takeBack_92 : decode cX0_takeBack 92 = .ok (.iconst 3, 1) := by decide +kernel
theorem dX0_takeBack_93 : decode cX0_takeBack 93 = .ok (.iadd, 1) := by decide +kernel
theorem dX0_takeBack_94 : decode cX0_takeBack 94 = .ok (.iload_n 3, 1) := by decide +kernel
theorem dX0_takeBack_95 : decode cX0_takeBack 95 = .ok (.iadd, 1) := by decide +kernel
theorem dX0_takeBack_96 : decode cX0_takeBack 96 = .ok (.iaload, 1) := by decide +kernel
theorem dX0_takeBack_97 : decode cX0_takeBack 97 = .ok (.iastore, 1) := by decide +kernel
theorem dX0_takeBack_98 : decode cX0_takeBack 98 = .ok (.iinc 3 1, 3) := by decide +kernel
theorem dX0_takeBack_101 : decode cX0_takeBack 101 = .ok (.goto (-25), 3) := by decide +kernel
theorem dX0_takeBack_104 : decode cX0_takeBack 104 = .ok (.aload_n 0, 1) := by decide +kernel
theorem dX0_takeBack_105 : decode cX0_takeBack 105 = .ok (.getfield 15, 3) := by decide +kernel
theorem dX0_takeBack_108 : decode cX0_takeBack 108 = .ok (.ireturn, 1) := by decide +kernel
theorem dX1_init_0 : decode cX1_init 0 = .ok (.aload_n 0, 1) := by decide +kernel
theorem dX1_init_1 : decode cX1_init 1 = .ok (.invokespecial 3, 3) := by decide +kernel
theorem dX1_init_4 : decode cX1_init 4 = .ok (.aload_n 0, 1) := by decide +kernel
theorem dX1_init_5 : decode cX1_init 5 = .ok (.bipush 16, 2) := by decide +kernel
theorem dX1_init_7 : decode cX1_init 7 = .ok (.newarray .int, 2) := by decide +kernel
theorem dX1_init_9 : decode cX1_init 9 = .ok (.putfield 11, 3) := by decide +kernel
theorem dX1_init_12 : decode cX1_init 12 = .ok (.aload_n 0, 1) := by decide +kernel
theorem dX1_init_13 : decode cX1_init 13 = .ok (.iconst 0, 1) := by decide +kernel
theorem dX1_init_14 : decode cX1_init 14 = .ok (.putfield 15, 3) := by decide +kernel
theorem dX1_init_17 : decode cX1_init 17 = .ok (.aload_n 0, 1) := by decide +kernel
theorem dX1_init_18 : decode cX1_init 18 = .ok (.iconst 0, 1) := by decide +kernel
theorem dX1_init_19 : decode cX1_init 19 = .ok (.putfield 19, 3) := by decide +kernel
theorem dX1_init_22 : decode cX1_init 22 = .ok (.aload_n 0, 1) := by decide +kernel
theorem dX1_init_23 : decode cX1_init 23 = .ok (.aload_n 1, 1) := by decide +kernel
theorem dX1_init_24 : decode cX1_init 24 = .ok (.putfield 22, 3) := by decide +kernel
theorem dX1_init_27 : decode cX1_init 27 = .ok (.return_, 1) := by decide +kernel
theorem dX1_isKindToo_0 : decode cX1_isKindToo 0 = .ok (.iload_n 0, 1) := by decide +kernel
theorem dX1_isKindToo_1 : decode cX1_isKindToo 1 = .ok (.iconst 0, 1) := by decide +kernel
theorem dX1_isKindToo_2 : decode cX1_isKindToo 2 = .ok (.iconst 5, 1) := by decide +kernel
theorem dX1_isKindToo_3 : decode cX1_isKindToo 3 = .ok (.invokestatic 26, 3) := by decide +kernel
theorem dX1_isKindToo_6 : decode cX1_isKindToo 6 = .ok (.ifCond .eq 20, 3) := by decide +kernel
theorem dX1_isKindToo_9 : decode cX1_isKindToo 9 = .ok (.getstatic 30, 3) := by decide +kernel
theorem dX1_isKindToo_12 : decode cX1_isKindToo 12 = .ok (.iload_n 0, 1) := by decide +kernel
theorem dX1_isKindToo_13 : decode cX1_isKindToo 13 = .ok (.iaload, 1) := by decide +kernel
theorem dX1_isKindToo_14 : decode cX1_isKindToo 14 = .ok (.iload_n 1, 1) := by decide +kernel
theorem dX1_isKindToo_15 : decode cX1_isKindToo 15 = .ok (.ishr, 1) := by decide +kernel
theorem dX1_isKindToo_16 : decode cX1_isKindToo 16 = .ok (.iconst 1, 1) := by decide +kernel
theorem dX1_isKindToo_17 : decode cX1_isKindToo 17 = .ok (.iand, 1) := by decide +kernel
theorem dX1_isKindToo_18 : decode cX1_isKindToo 18 = .ok (.iconst 1, 1) := by decide +kernel
theorem dX1_isKindToo_19 : decode cX1_isKindToo 19 = .ok (.if_icmp .ne 7, 3) := by decide +kernel
theorem dX1_isKindToo_22 : decode cX1_isKindToo 22 = .ok (.iconst 1, 1) := by decide +kernel
theorem dX1_isKindToo_23 : decode cX1_isKindToo 23 = .ok (.goto 4, 3) := by decide +kernel
theorem dX1_isKindToo_26 : decode cX1_isKindToo 26 = .ok (.iconst 0, 1) := by decide +kernel
theorem dX1_isKindToo_27 : decode cX1_isKindToo 27 = .ok (.ireturn, 1) := by decide +kernel
theorem dX1_answer_0 : decode cX1_answer 0 = .ok (.aload_n 0, 1) := by decide +kernel
theorem dX1_answer_1 : decode cX1_answer 1 = .ok (.iconst 0, 1) := by decide +kernel
theorem dX1_answer_2 : decode cX1_answer 2 = .ok (.putfield 15, 3) := by decide +kernel
theorem dX1_answer_5 : decode cX1_answer 5 = .ok (.aload_n 0, 1) := by decide +kernel
theorem dX1_answer_6 : decode cX1_answer 6 = .ok (.iload_n 1, 1) := by decide +kernel
theorem dX1_answer_7 : decode cX1_answer 7 = .ok (.putfield 19, 3) := by decide +kernel
theorem dX1_answer_10 : decode cX1_answer 10 = .ok (.iload_n 2, 1) := by decide +kernel
theorem dX1_answer_11 : decode cX1_answer 11 = .ok (.ifCond .ne 11, 3) := by decide +kernel
theorem dX1_answer_14 : decode cX1_answer 14 = .ok (.aload_n 0, 1) := by decide +kernel
theorem dX1_answer_15 : decode cX1_answer 15 = .ok (.iconst 0, 1) := by decide +kernel
theorem dX1_answer_16 : decode cX1_answer 16 = .ok (.invokevirtual 33, 3) := by decide +kernel
theorem dX1_answer_19 : decode cX1_answer 19 = .ok (.goto 8, 3) := by decide +kernel
theorem dX1_answer_22 : decode cX1_answer 22 = .ok (.aload_n 0, 1) := by decide +kernel
theorem dX1_answer_23 : decode cX1_answer 23 = .ok (.iconst 0, 1) := by decide +kernel
theorem dX1_answer_24 : decode cX1_answer 24 = .ok (.invokevirtual 37, 3) := by decide +kernel
theorem dX1_answer_27 : decode cX1_answer 27 = .ok (.ireturn, 1) := by decide +kernel
theorem dX1_traced_0 : decode cX1_traced 0 = .ok (.iload_n 1, 1) := by decide +kernel
theorem dX1_traced_1 : decode cX1_traced 1 = .ok (.iconst 0, 1) := by decide +kernel
theorem dX1_traced_2 : decode cX1_traced 2 = .ok (.aload_n 0, 1) := by decide +kernel
theorem dX1_traced_3 : decode cX1_traced 3 = .ok (.getfield 15, 3) := by decide +kernel
theorem dX1_traced_6 : decode cX1_traced 6 = .ok (.iconst 1, 1) := by decide +kernel
theorem dX1_traced_7 : decode cX1_traced 7 = .ok (.isub, 1) := by decide +kernel
theorem dX1_traced_8 : decode cX1_traced 8 = .ok (.invokestatic 26, 3) := by decide +kernel
theorem dX1_traced_11 : decode cX1_traced 11 = .ok (.ifCond .eq 12, 3) := by decide +kernel
theorem dX1_traced_14 : decode cX1_traced 14 = .ok (.aload_n 0, 1) := by decide +kernel
theorem dX1_traced_15 : decode cX1_traced 15 = .ok (.getfield 11, 3) := by decide +kernel
theorem dX1_traced_18 : decode cX1_traced 18 = .ok (.iload_n 1, 1) := by decide +kernel
theorem dX1_traced_19 : decode cX1_traced 19 = .ok (.iaload, 1) := by decide +kernel
theorem dX1_traced_20 : decode cX1_traced 20 = .ok (.goto 5, 3) := by decide +kernel
theorem dX1_traced_23 : decode cX1_traced 23 = .ok (.ldc 40, 2) := by decide +kernel
theorem dX1_traced_25 : decode cX1_traced 25 = .ok (.ireturn, 1) := by decide +kernel
theorem dX1_sizeAnew_0 : decode cX1_sizeAnew 0 = .ok (.aload_n 0, 1) := by decide +kernel
theorem dX1_sizeAnew_1 : decode cX1_sizeAnew 1 = .ok (.getfield 22, 3) := by decide +kernel
theorem dX1_sizeAnew_4 : decode cX1_sizeAnew 4 = .ok (.getfield 41, 3) := by decide +kernel
theorem dX1_sizeAnew_7 : decode cX1_sizeAnew 7 = .ok (.aload_n 0, 1) := by decide +kernel
theorem dX1_sizeAnew_8 : decode cX1_sizeAnew 8 = .ok (.getfield 19, 3) := by decide +kernel
theorem dX1_sizeAnew_11 : decode cX1_sizeAnew 11 = .ok (.iaload, 1) := by decide +kernel
theorem dX1_sizeAnew_12 : decode cX1_sizeAnew 12 = .ok (.istore_n 2, 1) := by decide +kernel
theorem dX1_sizeAnew_13 : decode cX1_sizeAnew 13 = .ok (.iload_n 2, 1) := by decide +kernel
theorem dX1_sizeAnew_14 : decode cX1_sizeAnew 14 = .ok (.iconst 0, 1) := by decide +kernel
theorem dX1_sizeAnew_15 : decode cX1_sizeAnew 15 = .ok (.iconst 5, 1) := by decide +kernel
theorem dX1_sizeAnew_16 : decode cX1_sizeAnew 16 = .ok (.invokestatic 26, 3) := by decide +kernel
theorem dX1_sizeAnew_19 : decode cX1_sizeAnew 19 = .ok (.ifCond .eq 16, 3) := by decide +kernel
theorem dX1_sizeAnew_22 : decode cX1_sizeAnew 22 = .ok (.aload_n 0, 1) := by decide +kernel
theorem dX1_sizeAnew_23 : decode cX1_sizeAnew 23 = .ok (.getstatic 46, 3) := by decide +kernel
theorem dX1_sizeAnew_26 : decode cX1_sizeAnew 26 = .ok (.iload_n 2, 1) := by decide +kernel
theorem dX1_sizeAnew_27 : decode cX1_sizeAnew 27 = .ok (.iaload, 1) := by decide +kernel
theorem dX1_sizeAnew_28 : decode cX1_sizeAnew 28 = .ok (.iload_n 1, 1) := by decide +kernel
theorem dX1_sizeAnew_29 : decode cX1_sizeAnew 29 = .ok (.invokevirtual 49, 3) := by decide +kernel
theorem dX1_sizeAnew_32 : decode cX1_sizeAnew 32 = .ok (.goto 4, 3) := by decide +kernel
theorem dX1_sizeAnew_35 : decode cX1_sizeAnew 35 = .ok (.iconst 0, 1) := by decide +kernel
theorem dX1_sizeAnew_36 : decode cX1_sizeAnew 36 = .ok (.ireturn, 1) := by decide +kernel
theorem dX1_markAnew_0 : decode cX1_markAnew 0 = .ok (.aload_n 0, 1) := by decide +kernel
theorem dX1_markAnew_1 : decode cX1_markAnew 1 = .ok (.getfield 22, 3) := by decide +kernel
theorem dX1_markAnew_4 : decode cX1_markAnew 4 = .ok (.getfield 41, 3) := by decide +kernel
theorem dX1_markAnew_7 : decode cX1_markAnew 7 = .ok (.aload_n 0, 1) := by decide +kernel
theorem dX1_markAnew_8 : decode cX1_markAnew 8 = .ok (.getfield 19, 3) := by decide +kernel
theorem dX1_markAnew_11 : decode cX1_markAnew 11 = .ok (.iaload, 1) := by decide +kernel
theorem dX1_markAnew_12 : decode cX1_markAnew 12 = .ok (.istore_n 2, 1) := by decide +kernel
theorem dX1_markAnew_13 : decode cX1_markAnew 13 = .ok (.iload_n 2, 1) := by decide +kernel
theorem dX1_markAnew_14 : decode cX1_markAnew 14 = .ok (.iconst 0, 1) := by decide +kernel
theorem dX1_markAnew_15 : decode cX1_markAnew 15 = .ok (.iconst 5, 1) := by decide +kernel
theorem dX1_markAnew_16 : decode cX1_markAnew 16 = .ok (.invokestatic 26, 3) := by decide +kernel
theorem dX1_markAnew_19 : decode cX1_markAnew 19 = .ok (.ifCond .eq 16, 3) := by decide +kernel
theorem dX1_markAnew_22 : decode cX1_markAnew 22 = .ok (.aload_n 0, 1) := by decide +kernel
theorem dX1_markAnew_23 : decode cX1_markAnew 23 = .ok (.getstatic 53, 3) := by decide +kernel
theorem dX1_markAnew_26 : decode cX1_markAnew 26 = .ok (.iload_n 2, 1) := by decide +kernel
theorem dX1_markAnew_27 : decode cX1_markAnew 27 = .ok (.iaload, 1) := by decide +kernel
theorem dX1_markAnew_28 : decode cX1_markAnew 28 = .ok (.iload_n 1, 1) := by decide +kernel
theorem dX1_markAnew_29 : decode cX1_markAnew 29 = .ok (.invokevirtual 49, 3) := by decide +kernel
theorem dX1_markAnew_32 : decode cX1_markAnew 32 = .ok (.goto 4, 3) := by decide +kernel
theorem dX1_markAnew_35 : decode cX1_markAnew 35 = .ok (.iconst 0, 1) := by decide +kernel
theorem dX1_markAnew_36 : decode cX1_markAnew 36 = .ok (.ireturn, 1) := by decide +kernel
theorem dX1_give_0 : decode cX1_give 0 = .ok (.iload_n 2, 1) := by decide +kernel
theorem dX1_give_1 : decode cX1_give 1 = .ok (.bipush 8, 2) := by decide +kernel
theorem dX1_give_3 : decode cX1_give 3 = .ok (.if_icmp .le 5, 3) := by decide +kernel
theorem dX1_give_6 : decode cX1_give 6 = .ok (.iconst 0, 1) := by decide +kernel
theorem dX1_give_7 : decode cX1_give 7 = .ok (.ireturn, 1) := by decide +kernel
theorem dX1_give_8 : decode cX1_give 8 = .ok (.aload_n 0, 1) := by decide +kernel
theorem dX1_give_9 : decode cX1_give 9 = .ok (.iload_n 1, 1) := by decide +kernel
theorem dX1_give_10 : decode cX1_give 10 = .ok (.invokevirtual 56, 3) := by decide +kernel
theorem dX1_give_13 : decode cX1_give 13 = .ok (.iload_n 2, 1) := by decide +kernel
theorem dX1_give_14 : decode cX1_give 14 = .ok (.iconst 1, 1) := by decide +kernel
theorem dX1_give_15 : decode cX1_give 15 = .ok (.iadd, 1) := by decide +kernel
theorem dX1_give_16 : decode cX1_give 16 = .ok (.istore_n 3, 1) := by decide +kernel
theorem dX1_give_17 : decode cX1_give 17 = .ok (.iload_n 1, 1) := by decide +kernel
theorem dX1_give_18 : decode cX1_give 18 = .ok (.tableswitch 194 10 24 #[74, 87, 101, 111, 122, 194, 194, 194, 194, 194, 132, 137, 158, 170, 184], 74) := by decide +kernel
theorem dX1_give_92 : decode cX1_give 92 = .ok (.aload_n 0, 1) := by decide +kernel
theorem dX1_give_93 : decode cX1_give 93 = .ok (.getfield 22, 3) := by decide +kernel
theorem dX1_give_96 : decode cX1_give 96 = .ok (.getfield 60, 3) := by decide +kernel
theorem dX1_give_99 : decode cX1_give 99 = .ok (.aload_n 0, 1) := by decide +kernel
theorem dX1_give_100 : decode cX1_give 100 = .ok (.getfield 19, 3) := by decide +kernel
theorem dX1_give_103 : decode cX1_give 103 = .ok (.iaload, 1) := by decide +kernel
theorem dX1_give_104 : decode cX1_give 104 = .ok (.ireturn, 1) := by decide +kernel
theorem dX1_give_105 : decode cX1_give 105 = .ok (.aload_n 0, 1) := by decide +kernel
theorem dX1_give_106 : decode cX1_give 106 = .ok (.bipush 10, 2) := by decide +kernel
theorem dX1_give_108 : decode cX1_give 108 = .ok (.iload_n 3, 1) := by decide +kernel
theorem dX1_give_109 : decode cX1_give 109 = .ok (.invokevirtual 49, 3) := by decide +kernel
theorem dX1_give_112 : decode cX1_give 112 = .ok (.aload_n 0, 1) := by decide +kernel
theorem dX1_give_113 : decode cX1_give 113 = .ok (.iload_n 3, 1) := by decide +kernel
theorem dX1_give_114 : decode cX1_give 114 = .ok (.invokevirtual 37, 3) := by decide +kernel
theorem dX1_give_117 : decode cX1_give 117 = .ok (.iadd, 1) := by decide +kernel
theorem dX1_give_118 : decode cX1_give 118 = .ok (.ireturn, 1) := by decide +kernel
theorem dX1_give_119 : decode cX1_give 119 = .ok (.iconst 0, 1) := by decide +kernel
theorem dX1_give_120 : decode cX1_give 120 = .ok (.aload_n 0, 1) := by decide +kernel
theorem dX1_give_121 : decode cX1_give 121 = .ok (.bipush 11, 2) := by decide +kernel
theorem dX1_give_123 : decode cX1_give 123 = .ok (.iload_n 3, 1) := by decide +kernel
theorem dX1_give_124 : decode cX1_give 124 = .ok (.invokevirtual 49, 3) := by decide +kernel
theorem dX1_give_127 : decode cX1_give 127 = .ok (.isub, 1) := by decide +kernel
theorem dX1_give_128 : decode cX1_give 128 = .ok (.ireturn, 1) := by decide +kernel
theorem dX1_give_129 : decode cX1_give 129 = .ok (.aload_n 0, 1) := by decide +kernel
theorem dX1_give_130 : decode cX1_give 130 = .ok (.bipush 10, 2) := by decide +kernel
theorem dX1_give_132 : decode cX1_give 132 = .ok (.iload_n 3, 1) := by decide +kernel
theorem dX1_give_133 : decode cX1_give 133 = .ok (.invokevirtual 49, 3) := by decide +kernel
theorem dX1_give_136 : decode cX1_give 136 = .ok (.bipush 100, 2) := by decide +kernel
theorem dX1_give_138 : decode cX1_give 138 = .ok (.isub, 1) := by decide +kernel
theorem dX1_give_139 : decode cX1_give 139 = .ok (.ireturn, 1) := by decide +kernel
theorem dX1_give_140 : decode cX1_give 140 = .ok (.aload_n 0, 1) := by decide +kernel
theorem dX1_give_141 : decode cX1_give 141 = .ok (.bipush 13, 2) := by decide +kernel
theorem dX1_give_143 : decode cX1_give 143 = .ok (.iload_n 3, 1) := by decide +kernel
theorem dX1_give_144 : decode cX1_give 144 = .ok (.invokevirtual 49, 3) := by decide +kernel
theorem dX1_give_147 : decode cX1_give 147 = .ok (.iconst 2, 1) := by decide +kernel
theorem dX1_give_148 : decode cX1_give 148 = .ok (.imul, 1) := by decide +kernel
theorem dX1_give_149 : decode cX1_give 149 = .ok (.ireturn, 1) := by decide +kernel
theorem dX1_give_150 : decode cX1_give 150 = .ok (.aload_n 0, 1) := by decide +kernel
theorem dX1_give_151 : decode cX1_give 151 = .ok (.getfield 19, 3) := by decide +kernel
theorem dX1_give_154 : decode cX1_give 154 = .ok (.ireturn, 1) := by decide +kernel
theorem dX1_give_155 : decode cX1_give 155 = .ok (.aload_n 0, 1) := by decide +kernel
theorem dX1_give_156 : decode cX1_give 156 = .ok (.bipush 20, 2) := by decide +kernel
theorem dX1_give_158 : decode cX1_give 158 = .ok (.iload_n 3, 1) := by decide +kernel
theorem dX1_give_159 : decode cX1_give 159 = .ok (.invokevirtual 49, 3) := by decide +kernel
theorem dX1_give_162 : decode cX1_give 162 = .ok (.aload_n 0, 1) := by decide +kernel
theorem dX1_give_163 : decode cX1_give 163 = .ok (.getfield 22, 3) := by decide +kernel
theorem dX1_give_166 : decode cX1_give 166 = .ok (.getfield 63, 3) := by decide +kernel
theorem dX1_give_169 : decode cX1_give 169 = .ok (.aload_n 0, 1) := by decide +kernel
theorem dX1_give_170 : decode cX1_give 170 = .ok (.getfield 19, 3) := by decide +kernel
theorem dX1_give_173 : decode cX1_give 173 = .ok (.iaload, 1) := by decide +kernel
theorem dX1_give_174 : decode cX1_give 174 = .ok (.iadd, 1) := by decide +kernel
theorem dX1_give_175 : decode cX1_give 175 = .ok (.ireturn, 1) := by decide +kernel
theorem dX1_give_176 : decode cX1_give 176 = .ok (.aload_n 0, 1) := by decide +kernel
theorem dX1_give_177 : decode cX1_give 177 = .ok (.bipush 21, 2) := by decide +kernel
theorem dX1_give_179 : decode cX1_give 179 = .ok (.iload_n 3, 1) := by decide +kernel
theorem dX1_give_180 : decode cX1_give 180 = .ok (.invokevirtual 49, 3) := by decide +kernel
theorem dX1_give_183 : decode cX1_give 183 = .ok (.sipush 1000, 3) := by decide +kernel
theorem dX1_give_186 : decode cX1_give 186 = .ok (.isub, 1) := by decide +kernel
theorem dX1_give_187 : decode cX1_give 187 = .ok (.ireturn, 1) := by decide +kernel
theorem dX1_give_188 : decode cX1_give 188 = .ok (.aload_n 0, 1) := by decide +kernel
theorem dX1_give_189 : decode cX1_give 189 = .ok (.bipush 20, 2) := by decide +kernel
theorem dX1_give_191 : decode cX1_give 191 = .ok (.iload_n 3, 1) := by decide +kernel
theorem dX1_give_192 : decode cX1_give 192 = .ok (.invokevirtual 49, 3) := by decide +kernel
theorem dX1_give_195 : decode cX1_give 195 = .ok (.aload_n 0, 1) := by decide +kernel
theorem dX1_give_196 : decode cX1_give 196 = .ok (.iload_n 3, 1) := by decide +kernel
theorem dX1_give_197 : decode cX1_give 197 = .ok (.invokevirtual 33, 3) := by decide +kernel
theorem dX1_give_200 : decode cX1_give 200 = .ok (.isub, 1) := by decide +kernel
theorem dX1_give_201 : decode cX1_give 201 = .ok (.ireturn, 1) := by decide +kernel
theorem dX1_give_202 : decode cX1_give 202 = .ok (.aload_n 0, 1) := by decide +kernel
theorem dX1_give_203 : decode cX1_give 203 = .ok (.bipush 21, 2) := by decide +kernel
theorem dX1_give_205 : decode cX1_give 205 = .ok (.iload_n 3, 1) := by decide +kernel
theorem dX1_give_206 : decode cX1_give 206 = .ok (.invokevirtual 49, 3) := by decide +kernel
theorem dX1_give_209 : decode cX1_give 209 = .ok (.iconst 2, 1) := by decide +kernel
theorem dX1_give_210 : decode cX1_give 210 = .ok (.imul, 1) := by decide +kernel
theorem dX1_give_211 : decode cX1_give 211 = .ok (.ireturn, 1) := by decide +kernel
theorem dX1_give_212 : decode cX1_give 212 = .ok (.iconst 0, 1) := by decide +kernel
theorem dX1_give_213 : decode cX1_give 213 = .ok (.ireturn, 1) := by decide +kernel
theorem dX1_leave_0 : decode cX1_leave 0 = .ok (.aload_n 0, 1) := by decide +kernel
theorem dX1_leave_1 : decode cX1_leave 1 = .ok (.getfield 15, 3) := by decide +kernel
theorem dX1_leave_4 : decode cX1_leave 4 = .ok (.bipush 16, 2) := by decide +kernel
theorem dX1_leave_6 : decode cX1_leave 6 = .ok (.if_icmp .ge 23, 3) := by decide +kernel
theorem dX1_leave_9 : decode cX1_leave 9 = .ok (.aload_n 0, 1) := by decide +kernel
theorem dX1_leave_10 : decode cX1_leave 10 = .ok (.getfield 11, 3) := by decide +kernel
theorem dX1_leave_13 : decode cX1_leave 13 = .ok (.aload_n 0, 1) := by decide +kernel
theorem dX1_leave_14 : decode cX1_leave 14 = .ok (.getfield 15, 3) := by decide +kernel
theorem dX1_leave_17 : decode cX1_leave 17 = .ok (.iload_n 1, 1) := by decide +kernel
theorem dX1_leave_18 : decode cX1_leave 18 = .ok (.iastore, 1) := by decide +kernel
theorem dX1_leave_19 : decode cX1_leave 19 = .ok (.aload_n 0, 1) := by decide +kernel
theorem dX1_leave_20 : decode cX1_leave 20 = .ok (.dup, 1) := by decide +kernel
theorem dX1_leave_21 : decode cX1_leave 21 = .ok (.getfield 15, 3) := by decide +kernel
theorem dX1_leave_24 : decode cX1_leave 24 = .ok (.iconst 1, 1) := by decide +kernel
theorem dX1_leave_25 : decode cX1_leave 25 = .ok (.iadd, 1) := by decide +kernel
theorem dX1_leave_26 : decode cX1_leave 26 = .ok (.putfield 15, 3) := by decide +kernel
theorem dX1_leave_29 : decode cX1_leave 29 = .ok (.return_, 1) := by decide +kernel
theorem dX2_init_0 : decode cX2_init 0 = .ok (.aload_n 0, 1) := by decide +kernel
theorem dX2_init_1 : decode cX2_init 1 = .ok (.invokespecial 3, 3) := by decide +kernel
theorem dX2_init_4 : decode cX2_init 4 = .ok (.aload_n 0, 1) := by decide +kernel
theorem dX2_init_5 : decode cX2_init 5 = .ok (.bipush 6, 2) := by decide +kernel
theorem dX2_init_7 : decode cX2_init 7 = .ok (.newarray .int, 2) := by decide +kernel
theorem dX2_init_9 : decode cX2_init 9 = .ok (.putfield 9, 3) := by decide +kernel
theorem dX2_init_12 : decode cX2_init 12 = .ok (.aload_n 0, 1) := by decide +kernel
theorem dX2_init_13 : decode cX2_init 13 = .ok (.iconst 0, 1) := by decide +kernel
theorem dX2_init_14 : decode cX2_init 14 = .ok (.putfield 15, 3) := by decide +kernel
theorem dX2_init_17 : decode cX2_init 17 = .ok (.aload_n 0, 1) := by decide +kernel
theorem dX2_init_18 : decode cX2_init 18 = .ok (.bipush 25, 2) := by decide +kernel
theorem dX2_init_20 : decode cX2_init 20 = .ok (.newarray .int, 2) := by decide +kernel
theorem dX2_init_22 : decode cX2_init 22 = .ok (.putfield 19, 3) := by decide +kernel
theorem dX2_init_25 : decode cX2_init 25 = .ok (.aload_n 0, 1) := by decide +kernel
theorem dX2_init_26 : decode cX2_init 26 = .ok (.bipush 25, 2) := by decide +kernel
theorem dX2_init_28 : decode cX2_init 28 = .ok (.newarray .int, 2) := by decide +kernel
theorem dX2_init_30 : decode cX2_init 30 = .ok (.putfield 22, 3) := by decide +kernel
theorem dX2_init_33 : decode cX2_init 33 = .ok (.aload_n 0, 1) := by decide +kernel
theorem dX2_init_34 : decode cX2_init 34 = .ok (.iconst 0, 1) := by decide +kernel
theorem dX2_init_35 : decode cX2_init 35 = .ok (.putfield 25, 3) := by decide +kernel
theorem dX2_init_38 : decode cX2_init 38 = .ok (.aload_n 0, 1) := by decide +kernel
theorem dX2_init_39 : decode cX2_init 39 = .ok (.iconst 0, 1) := by decide +kernel
theorem dX2_init_40 : decode cX2_init 40 = .ok (.putfield 28, 3) := by decide +kernel
theorem dX2_init_43 : decode cX2_init 43 = .ok (.aload_n 0, 1) := by decide +kernel
theorem dX2_init_44 : decode cX2_init 44 = .ok (.bipush 6, 2) := by decide +kernel
theorem dX2_init_46 : decode cX2_init 46 = .ok (.newarray .int, 2) := by decide +kernel
theorem dX2_init_48 : decode cX2_init 48 = .ok (.putfield 31, 3) := by decide +kernel
theorem dX2_init_51 : decode cX2_init 51 = .ok (.aload_n 0, 1) := by decide +kernel
theorem dX2_init_52 : decode cX2_init 52 = .ok (.bipush 6, 2) := by decide +kernel
theorem dX2_init_54 : decode cX2_init 54 = .ok (.newarray .int, 2) := by decide +kernel
theorem dX2_init_56 : decode cX2_init 56 = .ok (.putfield 34, 3) := by decide +kernel
theorem dX2_init_59 : decode cX2_init 59 = .ok (.aload_n 0, 1) := by decide +kernel
theorem dX2_init_60 : decode cX2_init 60 = .ok (.iconst 0, 1) := by decide +kernel
theorem dX2_init_61 : decode cX2_init 61 = .ok (.putfield 37, 3) := by decide +kernel
theorem dX2_init_64 : decode cX2_init 64 = .ok (.aload_n 0, 1) := by decide +kernel
theorem dX2_init_65 : decode cX2_init 65 = .ok (.bipush 10, 2) := by decide +kernel
theorem dX2_init_67 : decode cX2_init 67 = .ok (.newarray .long, 2) := by decide +kernel
theorem dX2_init_69 : decode cX2_init 69 = .ok (.putfield 40, 3) := by decide +kernel
theorem dX2_init_72 : decode cX2_init 72 = .ok (.aload_n 0, 1) := by decide +kernel
theorem dX2_init_73 : decode cX2_init 73 = .ok (.aload_n 1, 1) := by decide +kernel
theorem dX2_init_74 : decode cX2_init 74 = .ok (.putfield 44, 3) := by decide +kernel
theorem dX2_init_77 : decode cX2_init 77 = .ok (.return_, 1) := by decide +kernel
theorem dX2_beginNow_0 : decode cX2_beginNow 0 = .ok (.aload_n 0, 1) := by decide +kernel
theorem dX2_beginNow_1 : decode cX2_beginNow 1 = .ok (.aload_n 0, 1) := by decide +kernel
theorem dX2_beginNow_2 : decode cX2_beginNow 2 = .ok (.getfield 44, 3) := by decide +kernel
theorem dX2_beginNow_5 : decode cX2_beginNow 5 = .ok (.getfield 48, 3) := by decide +kernel
theorem dX2_beginNow_8 : decode cX2_beginNow 8 = .ok (.putfield 15, 3) := by decide +kernel
theorem dX2_beginNow_11 : decode cX2_beginNow 11 = .ok (.iconst 0, 1) := by decide +kernel
theorem dX2_beginNow_12 : decode cX2_beginNow 12 = .ok (.istore_n 1, 1) := by decide +kernel
theorem dX2_beginNow_13 : decode cX2_beginNow 13 = .ok (.iload_n 1, 1) := by decide +kernel
theorem dX2_beginNow_14 : decode cX2_beginNow 14 = .ok (.aload_n 0, 1) := by decide +kernel
theorem dX2_beginNow_15 : decode cX2_beginNow 15 = .ok (.getfield 44, 3) := by decide +kernel
theorem dX2_beginNow_18 : decode cX2_beginNow 18 = .ok (.getfield 51, 3) := by decide +kernel
theorem dX2_beginNow_21 : decode cX2_beginNow 21 = .ok (.if_icmp .ge 24, 3) := by decide +kernel
theorem dX2_beginNow_24 : decode cX2_beginNow 24 = .ok (.aload_n 0, 1) := by decide +kernel
theorem dX2_beginNow_25 : decode cX2_beginNow 25 = .ok (.getfield 9, 3) := by decide +kernel
theorem dX2_beginNow_28 : decode cX2_beginNow 28 = .ok (.iload_n 1, 1) := by decide +kernel
theorem dX2_beginNow_29 : decode cX2_beginNow 29 = .ok (.aload_n 0, 1) := by decide +kernel
theorem dX2_beginNow_30 : decode cX2_beginNow 30 = .ok (.getfield 44, 3) := by decide +kernel
theorem dX2_beginNow_33 : decode cX2_beginNow 33 = .ok (.getfield 54, 3) := by decide +kernel
theorem dX2_beginNow_36 : decode cX2_beginNow 36 = .ok (.iload_n 1, 1) := by decide +kernel
theorem dX2_beginNow_37 : decode cX2_beginNow 37 = .ok (.iaload, 1) := by decide +kernel
theorem dX2_beginNow_38 : decode cX2_beginNow 38 = .ok (.iastore, 1) := by decide +kernel
theorem dX2_beginNow_39 : decode cX2_beginNow 39 = .ok (.iinc 1 1, 3) := by decide +kernel
theorem dX2_beginNow_42 : decode cX2_beginNow 42 = .ok (.goto (-29), 3) := by decide +kernel
theorem dX2_beginNow_45 : decode cX2_beginNow 45 = .ok (.return_, 1) := by decide +kernel
theorem dX2_passDay_0 : decode cX2_passDay 0 = .ok (.iconst 0, 1) := by decide +kernel
theorem dX2_passDay_1 : decode cX2_passDay 1 = .ok (.istore_n 2, 1) := by decide +kernel
theorem dX2_passDay_2 : decode cX2_passDay 2 = .ok (.iload_n 2, 1) := by decide +kernel
theorem dX2_passDay_3 : decode cX2_passDay 3 = .ok (.aload_n 0, 1) := by decide +kernel
theorem dX2_passDay_4 : decode cX2_passDay 4 = .ok (.getfield 44, 3) := by decide +kernel
theorem dX2_passDay_7 : decode cX2_passDay 7 = .ok (.getfield 51, 3) := by decide +kernel
theorem dX2_passDay_10 : decode cX2_passDay 10 = .ok (.if_icmp .ge 62, 3) := by decide +kernel
theorem dX2_passDay_13 : decode cX2_passDay 13 = .ok (.aload_n 0, 1) := by decide +kernel
theorem dX2_passDay_14 : decode cX2_passDay 14 = .ok (.getfield 9, 3) := by decide +kernel
theorem dX2_passDay_17 : decode cX2_passDay 17 = .ok (.iload_n 2, 1) := by decide +kernel
theorem dX2_passDay_18 : decode cX2_passDay 18 = .ok (.aload_n 0, 1) := by decide +kernel
theorem dX2_passDay_19 : decode cX2_passDay 19 = .ok (.getfield 44, 3) := by decide +kernel
theorem dX2_passDay_22 : decode cX2_passDay 22 = .ok (.iload_n 2, 1) := by decide +kernel
theorem dX2_passDay_23 : decode cX2_passDay 23 = .ok (.aload_n 0, 1) := by decide +kernel
theorem dX2_passDay_24 : decode cX2_passDay 24 = .ok (.getfield 9, 3) := by decide +kernel
theorem dX2_passDay_27 : decode cX2_passDay 27 = .ok (.iload_n 2, 1) := by decide +kernel
theorem dX2_passDay_28 : decode cX2_passDay 28 = .ok (.iaload, 1) := by decide +kernel
theorem dX2_passDay_29 : decode cX2_passDay 29 = .ok (.aload_n 0, 1) := by decide +kernel
theorem dX2_passDay_30 : decode cX2_passDay 30 = .ok (.getfield 15, 3) := by decide +kernel
theorem dX2_passDay_33 : decode cX2_passDay 33 = .ok (.invokevirtual 55, 3) := by decide +kernel
theorem dX2_passDay_36 : decode cX2_passDay 36 = .ok (.iastore, 1) := by decide +kernel
theorem dX2_passDay_37 : decode cX2_passDay 37 = .ok (.iload_n 2, 1) := by decide +kernel
theorem dX2_passDay_38 : decode cX2_passDay 38 = .ok (.iload_n 1, 1) := by decide +kernel
theorem dX2_passDay_39 : decode cX2_passDay 39 = .ok (.if_icmp .ne 27, 3) := by decide +kernel
theorem dX2_passDay_42 : decode cX2_passDay 42 = .ok (.aload_n 0, 1) := by decide +kernel
theorem dX2_passDay_43 : decode cX2_passDay 43 = .ok (.getfield 9, 3) := by decide +kernel
theorem dX2_passDay_46 : decode cX2_passDay 46 = .ok (.iload_n 2, 1) := by decide +kernel
theorem dX2_passDay_47 : decode cX2_passDay 47 = .ok (.aload_n 0, 1) := by decide +kernel
theorem dX2_passDay_48 : decode cX2_passDay 48 = .ok (.getfield 44, 3) := by decide +kernel
theorem dX2_passDay_51 : decode cX2_passDay 51 = .ok (.iload_n 2, 1) := by decide +kernel
theorem dX2_passDay_52 : decode cX2_passDay 52 = .ok (.aload_n 0, 1) := by decide +kernel
theorem dX2_passDay_53 : decode cX2_passDay 53 = .ok (.getfield 9, 3) := by decide +kernel
theorem dX2_passDay_56 : decode cX2_passDay 56 = .ok (.iload_n 2, 1) := by decide +kernel
theorem dX2_passDay_57 : decode cX2_passDay 57 = .ok (.iaload, 1) := by decide +kernel
theorem dX2_passDay_58 : decode cX2_passDay 58 = .ok (.aload_n 0, 1) := by decide +kernel
theorem dX2_passDay_59 : decode cX2_passDay 59 = .ok (.getfield 15, 3) := by decide +kernel
theorem dX2_passDay_62 : decode cX2_passDay 62 = .ok (.invokevirtual 55, 3) := by decide +kernel
theorem dX2_passDay_65 : decode cX2_passDay 65 = .ok (.iastore, 1) := by decide +kernel
theorem dX2_passDay_66 : decode cX2_passDay 66 = .ok (.iinc 2 1, 3) := by decide +kernel
theorem dX2_passDay_69 : decode cX2_passDay 69 = .ok (.goto (-67), 3) := by decide +kernel
theorem dX2_passDay_72 : decode cX2_passDay 72 = .ok (.aload_n 0, 1) := by decide +kernel
theorem dX2_passDay_73 : decode cX2_passDay 73 = .ok (.dup, 1) := by decide +kernel
theorem dX2_passDay_74 : decode cX2_passDay 74 = .ok (.getfield 15, 3) := by decide +kernel
theorem dX2_passDay_77 : decode cX2_passDay 77 = .ok (.iconst 1, 1) := by decide +kernel
theorem dX2_passDay_78 : decode cX2_passDay 78 = .ok (.iadd, 1) := by decide +kernel
theorem dX2_passDay_79 : decode cX2_passDay 79 = .ok (.putfield 15, 3) := by decide +kernel
theorem dX2_passDay_82 : decode cX2_passDay 82 = .ok (.return_, 1) := by decide +kernel
theorem dX2_allOff_0 : decode cX2_allOff 0 = .ok (.iconst 0, 1) := by decide +kernel
theorem dX2_allOff_1 : decode cX2_allOff 1 = .ok (.istore_n 1, 1) := by decide +kernel
theorem dX2_allOff_2 : decode cX2_allOff 2 = .ok (.iconst 0, 1) := by decide +kernel
theorem dX2_allOff_3 : decode cX2_allOff 3 = .ok (.istore_n 2, 1) := by decide +kernel
theorem dX2_allOff_4 : decode cX2_allOff 4 = .ok (.iload_n 2, 1) := by decide +kernel
theorem dX2_allOff_5 : decode cX2_allOff 5 = .ok (.aload_n 0, 1) := by decide +kernel
theorem dX2_allOff_6 : decode cX2_allOff 6 = .ok (.getfield 44, 3) := by decide +kernel
theorem dX2_allOff_9 : decode cX2_allOff 9 = .ok (.getfield 51, 3) := by decide +kernel
theorem dX2_allOff_12 : decode cX2_allOff 12 = .ok (.if_icmp .ge 26, 3) := by decide +kernel
theorem dX2_allOff_15 : decode cX2_allOff 15 = .ok (.iload_n 1, 1) := by decide +kernel
theorem dX2_allOff_16 : decode cX2_allOff 16 = .ok (.aload_n 0, 1) := by decide +kernel
theorem dX2_allOff_17 : decode cX2_allOff 17 = .ok (.getfield 44, 3) := by decide +kernel
theorem dX2_allOff_20 : decode cX2_allOff 20 = .ok (.iload_n 2, 1) := by decide +kernel
theorem dX2_allOff_21 : decode cX2_allOff 21 = .ok (.aload_n 0, 1) := by decide +kernel
theorem dX2_allOff_22 : decode cX2_allOff 22 = .ok (.getfield 9, 3) := by decide +kernel
theorem dX2_allOff_25 : decode cX2_allOff 25 = .ok (.iload_n 2, 1) := by decide +kernel
theorem dX2_allOff_26 : decode cX2_allOff 26 = .ok (.iaload, 1) := by decide +kernel
theorem dX2_allOff_27 : decode cX2_allOff 27 = .ok (.invokevirtual 59, 3) := by decide +kernel
theorem dX2_allOff_30 : decode cX2_allOff 30 = .ok (.iadd, 1) := by decide +kernel
theorem dX2_allOff_31 : decode cX2_allOff 31 = .ok (.istore_n 1, 1) := by decide +kernel
theorem dX2_allOff_32 : decode cX2_allOff 32 = .ok (.iinc 2 1, 3) := by decide +kernel
theorem dX2_allOff_35 : decode cX2_allOff 35 = .ok (.goto (-31), 3) := by decide +kernel
theorem dX2_allOff_38 : decode cX2_allOff 38 = .ok (.iload_n 1, 1) := by decide +kernel
theorem dX2_allOff_39 : decode cX2_allOff 39 = .ok (.ireturn, 1) := by decide +kernel
theorem dX2_isBehind_0 : decode cX2_isBehind 0 = .ok (.aload_n 0, 1) := by decide +kernel
theorem dX2_isBehind_1 : decode cX2_isBehind 1 = .ok (.getfield 44, 3) := by decide +kernel
theorem dX2_isBehind_4 : decode cX2_isBehind 4 = .ok (.getfield 54, 3) := by decide +kernel
theorem dX2_isBehind_7 : decode cX2_isBehind 7 = .ok (.iload_n 1, 1) := by decide +kernel
theorem dX2_isBehind_8 : decode cX2_isBehind 8 = .ok (.iaload, 1) := by decide +kernel
theorem dX2_isBehind_9 : decode cX2_isBehind 9 = .ok (.istore_n 3, 1) := by decide +kernel
theorem dX2_isBehind_10 : decode cX2_isBehind 10 = .ok (.iconst 0, 1) := by decide +kernel
theorem dX2_isBehind_11 : decode cX2_isBehind 11 = .ok (.istore 4, 2) := by decide +kernel
theorem dX2_isBehind_13 : decode cX2_isBehind 13 = .ok (.iload 4, 2) := by decide +kernel
theorem dX2_isBehind_15 : decode cX2_isBehind 15 = .ok (.iload_n 2, 1) := by decide +kernel
theorem dX2_isBehind_16 : decode cX2_isBehind 16 = .ok (.if_icmp .ge 29, 3) := by decide +kernel
theorem dX2_isBehind_19 : decode cX2_isBehind 19 = .ok (.aload_n 0, 1) := by decide +kernel
theorem dX2_isBehind_20 : decode cX2_isBehind 20 = .ok (.getfield 44, 3) := by decide +kernel
theorem dX2_isBehind_23 : decode cX2_isBehind 23 = .ok (.iload_n 1, 1) := by decide +kernel
theorem dX2_isBehind_24 : decode cX2_isBehind 24 = .ok (.iload_n 3, 1) := by decide +kernel
theorem dX2_isBehind_25 : decode cX2_isBehind 25 = .ok (.aload_n 0, 1) := by decide +kernel
theorem dX2_isBehind_26 : decode cX2_isBehind 26 = .ok (.getfield 44, 3) := by decide +kernel
theorem dX2_isBehind_29 : decode cX2_isBehind 29 = .ok (.getfield 48, 3) := by decide +kernel
theorem dX2_isBehind_32 : decode cX2_isBehind 32 = .ok (.iload 4, 2) := by decide +kernel
theorem dX2_isBehind_34 : decode cX2_isBehind 34 = .ok (.iadd, 1) := by decide +kernel
theorem dX2_isBehind_35 : decode cX2_isBehind 35 = .ok (.invokevirtual 55, 3) := by decide +kernel
theorem dX2_isBehind_38 : decode cX2_isBehind 38 = .ok (.istore_n 3, 1) := by decide +kernel
theorem dX2_isBehind_39 : decode cX2_isBehind 39 = .ok (.iinc 4 1, 3) := by decide +kernel
theorem dX2_isBehind_42 : decode cX2_isBehind 42 = .ok (.goto (-29), 3) := by decide +kernel
theorem dX2_isBehind_45 : decode cX2_isBehind 45 = .ok (.iload_n 3, 1) := by decide +kernel
theorem dX2_isBehind_46 : decode cX2_isBehind 46 = .ok (.ireturn, 1) := by decide +kernel
theorem dX2_allOffBehind_0 : decode cX2_allOffBehind 0 = .ok (.aload_n 0, 1) := by decide +kernel
theorem dX2_allOffBehind_1 : decode cX2_allOffBehind 1 = .ok (.invokevirtual 63, 3) := by decide +kernel
theorem dX2_allOffBehind_4 : decode cX2_allOffBehind 4 = .ok (.iconst 0, 1) := by decide +kernel
theorem dX2_allOffBehind_5 : decode cX2_allOffBehind 5 = .ok (.istore_n 2, 1) := by decide +kernel
theorem dX2_allOffBehind_6 : decode cX2_allOffBehind 6 = .ok (.iload_n 2, 1) := by decide +kernel
theorem dX2_allOffBehind_7 : decode cX2_allOffBehind 7 = .ok (.iload_n 1, 1) := by decide +kernel
theorem dX2_allOffBehind_8 : decode cX2_allOffBehind 8 = .ok (.if_icmp .ge 14, 3) := by decide +kernel
theorem dX2_allOffBehind_11 : decode cX2_allOffBehind 11 = .ok (.aload_n 0, 1) := by decide +kernel
theorem dX2_allOffBehind_12 : decode cX2_allOffBehind 12 = .ok (.iconst (-1), 1) := by decide +kernel
theorem dX2_allOffBehind_13 : decode cX2_allOffBehind 13 = .ok (.invokevirtual 66, 3) := by decide +kernel
theorem dX2_allOffBehind_16 : decode cX2_allOffBehind 16 = .ok (.iinc 2 1, 3) := by decide +kernel
theorem dX2_allOffBehind_19 : decode cX2_allOffBehind 19 = .ok (.goto (-13), 3) := by decide +kernel
theorem dX2_allOffBehind_22 : decode cX2_allOffBehind 22 = .ok (.aload_n 0, 1) := by decide +kernel
theorem dX2_allOffBehind_23 : decode cX2_allOffBehind 23 = .ok (.invokevirtual 70, 3) := by decide +kernel
theorem dX2_allOffBehind_26 : decode cX2_allOffBehind 26 = .ok (.ireturn, 1) := by decide +kernel
theorem dX2_firstLost_0 : decode cX2_firstLost 0 = .ok (.aload_n 0, 1) := by decide +kernel
theorem dX2_firstLost_1 : decode cX2_firstLost 1 = .ok (.invokevirtual 63, 3) := by decide +kernel
theorem dX2_firstLost_4 : decode cX2_firstLost 4 = .ok (.iconst 1, 1) := by decide +kernel
theorem dX2_firstLost_5 : decode cX2_firstLost 5 = .ok (.istore_n 2, 1) := by decide +kernel
theorem dX2_firstLost_6 : decode cX2_firstLost 6 = .ok (.iload_n 2, 1) := by decide +kernel
theorem dX2_firstLost_7 : decode cX2_firstLost 7 = .ok (.bipush 60, 2) := by decide +kernel
theorem dX2_firstLost_9 : decode cX2_firstLost 9 = .ok (.if_icmp .gt 35, 3) := by decide +kernel
theorem dX2_firstLost_12 : decode cX2_firstLost 12 = .ok (.aload_n 0, 1) := by decide +kernel
theorem dX2_firstLost_13 : decode cX2_firstLost 13 = .ok (.iconst (-1), 1) := by decide +kernel
theorem dX2_firstLost_14 : decode cX2_firstLost 14 = .ok (.invokevirtual 66, 3) := by decide +kernel
theorem dX2_firstLost_17 : decode cX2_firstLost 17 = .ok (.aload_n 0, 1) := by decide +kernel
theorem dX2_firstLost_18 : decode cX2_firstLost 18 = .ok (.invokevirtual 74, 3) := by decide +kernel
theorem dX2_firstLost_21 : decode cX2_firstLost 21 = .ok (.istore_n 3, 1) := by decide +kernel
theorem dX2_firstLost_22 : decode cX2_firstLost 22 = .ok (.iload_n 3, 1) := by decide +kernel
theorem dX2_firstLost_23 : decode cX2_firstLost 23 = .ok (.ldc 77, 2) := by decide +kernel
theorem dX2_firstLost_25 : decode cX2_firstLost 25 = .ok (.if_icmp .eq 13, 3) := by decide +kernel
theorem dX2_firstLost_28 : decode cX2_firstLost 28 = .ok (.iload_n 1, 1) := by decide +kernel
theorem dX2_firstLost_29 : decode cX2_firstLost 29 = .ok (.ifCond .eq 7, 3) := by decide +kernel
theorem dX2_firstLost_32 : decode cX2_firstLost 32 = .ok (.iload_n 3, 1) := by decide +kernel
theorem dX2_firstLost_33 : decode cX2_firstLost 33 = .ok (.goto 4, 3) := by decide +kernel
theorem dX2_firstLost_36 : decode cX2_firstLost 36 = .ok (.iload_n 2, 1) := by decide +kernel
theorem dX2_firstLost_37 : decode cX2_firstLost 37 = .ok (.ireturn, 1) := by decide +kernel
theorem dX2_firstLost_38 : decode cX2_firstLost 38 = .ok (.iinc 2 1, 3) := by decide +kernel
theorem dX2_firstLost_41 : decode cX2_firstLost 41 = .ok (.goto (-35), 3) := by decide +kernel
theorem dX2_firstLost_44 : decode cX2_firstLost 44 = .ok (.ldc 77, 2) := by decide +kernel
theorem dX2_firstLost_46 : decode cX2_firstLost 46 = .ok (.ireturn, 1) := by decide +kernel
theorem dX2_firstUnlikePerson_0 : decode cX2_firstUnlikePerson 0 = .ok (.iconst 0, 1) := by decide +kernel
theorem dX2_firstUnlikePerson_1 : decode cX2_firstUnlikePerson 1 = .ok (.istore_n 1, 1) := by decide +kernel
theorem dX2_firstUnlikePerson_2 : decode cX2_firstUnlikePerson 2 = .ok (.iload_n 1, 1) := by decide +kernel
theorem dX2_firstUnlikePerson_3 : decode cX2_firstUnlikePerson 3 = .ok (.aload_n 0, 1) := by decide +kernel
theorem dX2_firstUnlikePerson_4 : decode cX2_firstUnlikePerson 4 = .ok (.getfield 44, 3) := by decide +kernel
theorem dX2_firstUnlikePerson_7 : decode cX2_firstUnlikePerson 7 = .ok (.getfield 51, 3) := by decide +kernel
theorem dX2_firstUnlikePerson_10 : decode cX2_firstUnlikePerson 10 = .ok (.if_icmp .ge 46, 3) := by decide +kernel
theorem dX2_firstUnlikePerson_13 : decode cX2_firstUnlikePerson 13 = .ok (.aload_n 0, 1) := by decide +kernel
theorem dX2_firstUnlikePerson_14 : decode cX2_firstUnlikePerson 14 = .ok (.getfield 44, 3) := by decide +kernel
theorem dX2_firstUnlikePerson_17 : decode cX2_firstUnlikePerson 17 = .ok (.iload_n 1, 1) := by decide +kernel
theorem dX2_firstUnlikePerson_18 : decode cX2_firstUnlikePerson 18 = .ok (.invokevirtual 78, 3) := by decide +kernel
theorem dX2_firstUnlikePerson_21 : decode cX2_firstUnlikePerson 21 = .ok (.ifCond .eq 29, 3) := by decide +kernel
theorem dX2_firstUnlikePerson_24 : decode cX2_firstUnlikePerson 24 = .ok (.aload_n 0, 1) := by decide +kernel
theorem dX2_firstUnlikePerson_25 : decode cX2_firstUnlikePerson 25 = .ok (.getfield 44, 3) := by decide +kernel
theorem dX2_firstUnlikePerson_28 : decode cX2_firstUnlikePerson 28 = .ok (.iload_n 1, 1) := by decide +kernel
theorem dX2_firstUnlikePerson_29 : decode cX2_firstUnlikePerson 29 = .ok (.aload_n 0, 1) := by decide +kernel
theorem dX2_firstUnlikePerson_30 : decode cX2_firstUnlikePerson 30 = .ok (.getfield 9, 3) := by decide +kernel
theorem dX2_firstUnlikePerson_33 : decode cX2_firstUnlikePerson 33 = .ok (.iload_n 1, 1) := by decide +kernel
theorem dX2_firstUnlikePerson_34 : decode cX2_firstUnlikePerson 34 = .ok (.iaload, 1) := by decide +kernel
theorem dX2_firstUnlikePerson_35 : decode cX2_firstUnlikePerson 35 = .ok (.invokevirtual 59, 3) := by decide +kernel
theorem dX2_firstUnlikePerson_38 : decode cX2_firstUnlikePerson 38 = .ok (.aload_n 0, 1) := by decide +kernel
theorem dX2_firstUnlikePerson_39 : decode cX2_firstUnlikePerson 39 = .ok (.getfield 44, 3) := by decide +kernel
theorem dX2_firstUnlikePerson_42 : decode cX2_firstUnlikePerson 42 = .ok (.getfield 82, 3) := by decide +kernel
theorem dX2_firstUnlikePerson_45 : decode cX2_firstUnlikePerson 45 = .ok (.if_icmp .le 5, 3) := by decide +kernel
theorem dX2_firstUnlikePerson_48 : decode cX2_firstUnlikePerson 48 = .ok (.iload_n 1, 1) := by decide +kernel
theorem dX2_firstUnlikePerson_49 : decode cX2_firstUnlikePerson 49 = .ok (.ireturn, 1) := by decide +kernel
theorem dX2_firstUnlikePerson_50 : decode cX2_firstUnlikePerson 50 = .ok (.iinc 1 1, 3) := by decide +kernel
theorem dX2_firstUnlikePerson_53 : decode cX2_firstUnlikePerson 53 = .ok (.goto (-51), 3) := by decide +kernel
theorem dX2_firstUnlikePerson_56 : decode cX2_firstUnlikePerson 56 = .ok (.ldc 77, 2) := by decide +kernel
theorem dX2_firstUnlikePerson_58 : decode cX2_firstUnlikePerson 58 = .ok (.ireturn, 1) := by decide +kernel
theorem dX2_planPutBacks_0 : decode cX2_planPutBacks 0 = .ok (.iconst 1, 1) := by decide +kernel
theorem dX2_planPutBacks_1 : decode cX2_planPutBacks 1 = .ok (.istore_n 3, 1) := by decide +kernel
theorem dX2_planPutBacks_2 : decode cX2_planPutBacks 2 = .ok (.iload_n 3, 1) := by decide +kernel
theorem dX2_planPutBacks_3 : decode cX2_planPutBacks 3 = .ok (.iload_n 2, 1) := by decide +kernel
theorem dX2_planPutBacks_4 : decode cX2_planPutBacks 4 = .ok (.if_icmp .gt 17, 3) := by decide +kernel
theorem dX2_planPutBacks_7 : decode cX2_planPutBacks 7 = .ok (.aload_n 0, 1) := by decide +kernel
theorem dX2_planPutBacks_8 : decode cX2_planPutBacks 8 = .ok (.getfield 19, 3) := by decide +kernel
theorem dX2_planPutBacks_11 : decode cX2_planPutBacks 11 = .ok (.iload_n 3, 1) := by decide +kernel
theorem dX2_planPutBacks_12 : decode cX2_planPutBacks 12 = .ok (.ldc 85, 2) := by decide +kernel
theorem dX2_planPutBacks_14 : decode cX2_planPutBacks 14 = .ok (.iastore, 1) := by decide +kernel
theorem dX2_planPutBacks_15 : decode cX2_planPutBacks 15 = .ok (.iinc 3 1, 3) := by decide +kernel
theorem dX2_planPutBacks_18 : decode cX2_planPutBacks 18 = .ok (.goto (-16), 3) := by decide +kernel
theorem dX2_planPutBacks_21 : decode cX2_planPutBacks 21 = .ok (.aload_n 0, 1) := by decide +kernel
theorem dX2_planPutBacks_22 : decode cX2_planPutBacks 22 = .ok (.getfield 19, 3) := by decide +kernel
theorem dX2_planPutBacks_25 : decode cX2_planPutBacks 25 = .ok (.iconst 0, 1) := by decide +kernel
theorem dX2_planPutBacks_26 : decode cX2_planPutBacks 26 = .ok (.iconst 0, 1) := by decide +kernel
theorem dX2_planPutBacks_27 : decode cX2_planPutBacks 27 = .ok (.iastore, 1) := by decide +kernel
theorem dX2_planPutBacks_28 : decode cX2_planPutBacks 28 = .ok (.aload_n 0, 1) := by decide +kernel
theorem dX2_planPutBacks_29 : decode cX2_planPutBacks 29 = .ok (.getfield 22, 3) := by decide +kernel
theorem dX2_planPutBacks_32 : decode cX2_planPutBacks 32 = .ok (.iconst 0, 1) := by decide +kernel
theorem dX2_planPutBacks_33 : decode cX2_planPutBacks 33 = .ok (.iconst 0, 1) := by decide +kernel
theorem dX2_planPutBacks_34 : decode cX2_planPutBacks 34 = .ok (.iastore, 1) := by decide +kernel
theorem dX2_planPutBacks_35 : decode cX2_planPutBacks 35 = .ok (.aload_n 0, 1) := by decide +kernel
theorem dX2_planPutBacks_36 : decode cX2_planPutBacks 36 = .ok (.ldc 85, 2) := by decide +kernel
theorem dX2_planPutBacks_38 : decode cX2_planPutBacks 38 = .ok (.putfield 25, 3) := by decide +kernel
theorem dX2_planPutBacks_41 : decode cX2_planPutBacks 41 = .ok (.iconst 0, 1) := by decide +kernel
theorem dX2_planPutBacks_42 : decode cX2_planPutBacks 42 = .ok (.istore_n 3, 1) := by decide +kernel
theorem dX2_planPutBacks_43 : decode cX2_planPutBacks 43 = .ok (.iload_n 3, 1) := by decide +kernel
theorem dX2_planPutBacks_44 : decode cX2_planPutBacks 44 = .ok (.iload_n 2, 1) := by decide +kernel
theorem dX2_planPutBacks_45 : decode cX2_planPutBacks 45 = .ok (.if_icmp .gt 16, 3) := by decide +kernel
theorem dX2_planPutBacks_48 : decode cX2_planPutBacks 48 = .ok (.aload_n 0, 1) := by decide +kernel
theorem dX2_planPutBacks_49 : decode cX2_planPutBacks 49 = .ok (.iload_n 3, 1) := by decide +kernel
theorem dX2_planPutBacks_50 : decode cX2_planPutBacks 50 = .ok (.iload_n 1, 1) := by decide +kernel
theorem dX2_planPutBacks_51 : decode cX2_planPutBacks 51 = .ok (.iload_n 2, 1) := by decide +kernel
theorem dX2_planPutBacks_52 : decode cX2_planPutBacks 52 = .ok (.invokevirtual 86, 3) := by decide +kernel
theorem dX2_planPutBacks_55 : decode cX2_planPutBacks 55 = .ok (.iinc 3 1, 3) := by decide +kernel
theorem dX2_planPutBacks_58 : decode cX2_planPutBacks 58 = .ok (.goto (-15), 3) := by decide +kernel
theorem dX2_planPutBacks_61 : decode cX2_planPutBacks 61 = .ok (.return_, 1) := by decide +kernel
theorem dX2_goOnFrom_0 : decode cX2_goOnFrom 0 = .ok (.iload_n 1, 1) := by decide +kernel
theorem dX2_goOnFrom_1 : decode cX2_goOnFrom 1 = .ok (.ifCond .ne 15, 3) := by decide +kernel
theorem dX2_goOnFrom_4 : decode cX2_goOnFrom 4 = .ok (.aload_n 0, 1) := by decide +kernel
theorem dX2_goOnFrom_5 : decode cX2_goOnFrom 5 = .ok (.getfield 44, 3) := by decide +kernel
theorem dX2_goOnFrom_8 : decode cX2_goOnFrom 8 = .ok (.getfield 54, 3) := by decide +kernel
theorem dX2_goOnFrom_11 : decode cX2_goOnFrom 11 = .ok (.iload_n 2, 1) := by decide +kernel
theorem dX2_goOnFrom_12 : decode cX2_goOnFrom 12 = .ok (.iaload, 1) := by decide +kernel
theorem dX2_goOnFrom_13 : decode cX2_goOnFrom 13 = .ok (.goto 12, 3) := by decide +kernel
theorem dX2_goOnFrom_16 : decode cX2_goOnFrom 16 = .ok (.aload_n 0, 1) := by decide +kernel
theorem dX2_goOnFrom_17 : decode cX2_goOnFrom 17 = .ok (.getfield 44, 3) := by decide +kernel
theorem dX2_goOnFrom_20 : decode cX2_goOnFrom 20 = .ok (.getfield 90, 3) := by decide +kernel
theorem dX2_goOnFrom_23 : decode cX2_goOnFrom 23 = .ok (.iload_n 2, 1) := by decide +kernel
theorem dX2_goOnFrom_24 : decode cX2_goOnFrom 24 = .ok (.iaload, 1) := by decide +kernel
theorem dX2_goOnFrom_25 : decode cX2_goOnFrom 25 = .ok (.istore 4, 2) := by decide +kernel
theorem dX2_goOnFrom_27 : decode cX2_goOnFrom 27 = .ok (.iload_n 1, 1) := by decide +kernel
theorem dX2_goOnFrom_28 : decode cX2_goOnFrom 28 = .ok (.iconst 1, 1) := by decide +kernel
theorem dX2_goOnFrom_29 : decode cX2_goOnFrom 29 = .ok (.iadd, 1) := by decide +kernel
theorem dX2_goOnFrom_30 : decode cX2_goOnFrom 30 = .ok (.istore 5, 2) := by decide +kernel
theorem dX2_goOnFrom_32 : decode cX2_goOnFrom 32 = .ok (.iload 5, 2) := by decide +kernel
theorem dX2_goOnFrom_34 : decode cX2_goOnFrom 34 = .ok (.iload_n 3, 1) := by decide +kernel
theorem dX2_goOnFrom_35 : decode cX2_goOnFrom 35 = .ok (.if_icmp .gt 114, 3) := by decide +kernel
theorem dX2_goOnFrom_38 : decode cX2_goOnFrom 38 = .ok (.aload_n 0, 1) := by decide +kernel
theorem dX2_goOnFrom_39 : decode cX2_goOnFrom 39 = .ok (.getfield 44, 3) := by decide +kernel
theorem dX2_goOnFrom_42 : decode cX2_goOnFrom 42 = .ok (.iload_n 2, 1) := by decide +kernel
theorem dX2_goOnFrom_43 : decode cX2_goOnFrom 43 = .ok (.iload 4, 2) := by decide +kernel
theorem dX2_goOnFrom_45 : decode cX2_goOnFrom 45 = .ok (.aload_n 0, 1) := by decide +kernel
theorem dX2_goOnFrom_46 : decode cX2_goOnFrom 46 = .ok (.getfield 44, 3) := by decide +kernel
theorem dX2_goOnFrom_49 : decode cX2_goOnFrom 49 = .ok (.getfield 48, 3) := by decide +kernel
theorem dX2_goOnFrom_52 : decode cX2_goOnFrom 52 = .ok (.iload 5, 2) := by decide +kernel
theorem dX2_goOnFrom_54 : decode cX2_goOnFrom 54 = .ok (.iadd, 1) := by decide +kernel
theorem dX2_goOnFrom_55 : decode cX2_goOnFrom 55 = .ok (.iconst 1, 1) := by decide +kernel
theorem dX2_goOnFrom_56 : decode cX2_goOnFrom 56 = .ok (.isub, 1) := by decide +kernel
theorem dX2_goOnFrom_57 : decode cX2_goOnFrom 57 = .ok (.invokevirtual 55, 3) := by decide +kernel
theorem dX2_goOnFrom_60 : decode cX2_goOnFrom 60 = .ok (.istore 4, 2) := by decide +kernel
theorem dX2_goOnFrom_62 : decode cX2_goOnFrom 62 = .ok (.aload_n 0, 1) := by decide +kernel
theorem dX2_goOnFrom_63 : decode cX2_goOnFrom 63 = .ok (.getfield 19, 3) := by decide +kernel
theorem dX2_goOnFrom_66 : decode cX2_goOnFrom 66 = .ok (.iload_n 1, 1) := by decide +kernel
theorem dX2_goOnFrom_67 : decode cX2_goOnFrom 67 = .ok (.iaload, 1) := by decide +kernel
theorem dX2_goOnFrom_68 : decode cX2_goOnFrom 68 = .ok (.aload_n 0, 1) := by decide +kernel
theorem dX2_goOnFrom_69 : decode cX2_goOnFrom 69 = .ok (.getfield 44, 3) := by decide +kernel
theorem dX2_goOnFrom_72 : decode cX2_goOnFrom 72 = .ok (.iload_n 2, 1) := by decide +kernel
theorem dX2_goOnFrom_73 : decode cX2_goOnFrom 73 = .ok (.iload 4, 2) := by decide +kernel
theorem dX2_goOnFrom_75 : decode cX2_goOnFrom 75 = .ok (.invokevirtual 93, 3) := by decide +kernel
theorem dX2_goOnFrom_78 : decode cX2_goOnFrom 78 = .ok (.iadd, 1) := by decide +kernel
theorem dX2_goOnFrom_79 : decode cX2_goOnFrom 79 = .ok (.istore 6, 2) := by decide +kernel
theorem dX2_goOnFrom_81 : decode cX2_goOnFrom 81 = .ok (.iload 6, 2) := by decide +kernel
theorem dX2_goOnFrom_83 : decode cX2_goOnFrom 83 = .ok (.aload_n 0, 1) := by decide +kernel
theorem dX2_goOnFrom_84 : decode cX2_goOnFrom 84 = .ok (.getfield 19, 3) := by decide +kernel
theorem dX2_goOnFrom_87 : decode cX2_goOnFrom 87 = .ok (.iload 5, 2) := by decide +kernel
theorem dX2_goOnFrom_89 : decode cX2_goOnFrom 89 = .ok (.iaload, 1) := by decide +kernel
theorem dX2_goOnFrom_90 : decode cX2_goOnFrom 90 = .ok (.if_icmp .ge 32, 3) := by decide +kernel
theorem dX2_goOnFrom_93 : decode cX2_goOnFrom 93 = .ok (.aload_n 0, 1) := by decide +kernel
theorem dX2_goOnFrom_94 : decode cX2_goOnFrom 94 = .ok (.getfield 19, 3) := by decide +kernel
theorem dX2_goOnFrom_97 : decode cX2_goOnFrom 97 = .ok (.iload 5, 2) := by decide +kernel
theorem dX2_goOnFrom_99 : decode cX2_goOnFrom 99 = .ok (.iload 6, 2) := by decide +kernel
theorem dX2_goOnFrom_101 : decode cX2_goOnFrom 101 = .ok (.iastore, 1) := by decide +kernel
theorem dX2_goOnFrom_102 : decode cX2_goOnFrom 102 = .ok (.aload_n 0, 1) := by decide +kernel
theorem dX2_goOnFrom_103 : decode cX2_goOnFrom 103 = .ok (.getfield 22, 3) := by decide +kernel
theorem dX2_goOnFrom_106 : decode cX2_goOnFrom 106 = .ok (.iload 5, 2) := by decide +kernel
theorem dX2_goOnFrom_108 : decode cX2_goOnFrom 108 = .ok (.aload_n 0, 1) := by decide +kernel
theorem dX2_goOnFrom_109 : decode cX2_goOnFrom 109 = .ok (.getfield 22, 3) := by decide +kernel
theorem dX2_goOnFrom_112 : decode cX2_goOnFrom 112 = .ok (.iload_n 1, 1) := by decide +kernel
theorem dX2_goOnFrom_113 : decode cX2_goOnFrom 113 = .ok (.iaload, 1) := by decide +kernel
theorem dX2_goOnFrom_114 : decode cX2_goOnFrom 114 = .ok (.iconst 1, 1) := by decide +kernel
theorem dX2_goOnFrom_115 : decode cX2_goOnFrom 115 = .ok (.iload 5, 2) := by decide +kernel
theorem dX2_goOnFrom_117 : decode cX2_goOnFrom 117 = .ok (.iconst 1, 1) := by decide +kernel
theorem dX2_goOnFrom_118 : decode cX2_goOnFrom 118 = .ok (.isub, 1) := by decide +kernel
theorem dX2_goOnFrom_119 : decode cX2_goOnFrom 119 = .ok (.ishl, 1) := by decide +kernel
theorem dX2_goOnFrom_120 : decode cX2_goOnFrom 120 = .ok (.ior, 1) := by decide +kernel
theorem dX2_goOnFrom_121 : decode cX2_goOnFrom 121 = .ok (.iastore, 1) := by decide +kernel
theorem dX2_goOnFrom_122 : decode cX2_goOnFrom 122 = .ok (.aload_n 0, 1) := by decide +kernel
theorem dX2_goOnFrom_123 : decode cX2_goOnFrom 123 = .ok (.getfield 44, 3) := by decide +kernel
theorem dX2_goOnFrom_126 : decode cX2_goOnFrom 126 = .ok (.iload_n 2, 1) := by decide +kernel
theorem dX2_goOnFrom_127 : decode cX2_goOnFrom 127 = .ok (.iload 4, 2) := by decide +kernel
theorem dX2_goOnFrom_129 : decode cX2_goOnFrom 129 = .ok (.invokevirtual 59, 3) := by decide +kernel
theorem dX2_goOnFrom_132 : decode cX2_goOnFrom 132 = .ok (.aload_n 0, 1) := by decide +kernel
theorem dX2_goOnFrom_133 : decode cX2_goOnFrom 133 = .ok (.getfield 44, 3) := by decide +kernel
theorem dX2_goOnFrom_136 : decode cX2_goOnFrom 136 = .ok (.getfield 82, 3) := by decide +kernel
theorem dX2_goOnFrom_139 : decode cX2_goOnFrom 139 = .ok (.if_icmp .le 4, 3) := by decide +kernel
theorem dX2_goOnFrom_142 : decode cX2_goOnFrom 142 = .ok (.return_, 1) := by decide +kernel
theorem dX2_goOnFrom_143 : decode cX2_goOnFrom 143 = .ok (.iinc 5 1, 3) := by decide +kernel
theorem dX2_goOnFrom_146 : decode cX2_goOnFrom 146 = .ok (.goto (-114), 3) := by decide +kernel
theorem dX2_goOnFrom_149 : decode cX2_goOnFrom 149 = .ok (.aload_n 0, 1) := by decide +kernel
theorem dX2_goOnFrom_150 : decode cX2_goOnFrom 150 = .ok (.getfield 19, 3) := by decide +kernel
theorem dX2_goOnFrom_153 : decode cX2_goOnFrom 153 = .ok (.iload_n 1, 1) := by decide +kernel
theorem dX2_goOnFrom_154 : decode cX2_goOnFrom 154 = .ok (.iaload, 1) := by decide +kernel
theorem dX2_goOnFrom_155 : decode cX2_goOnFrom 155 = .ok (.aload_n 0, 1) := by decide +kernel
theorem dX2_goOnFrom_156 : decode cX2_goOnFrom 156 = .ok (.getfield 25, 3) := by decide +kernel
theorem dX2_goOnFrom_159 : decode cX2_goOnFrom 159 = .ok (.if_icmp .ge 23, 3) := by decide +kernel
theorem dX2_goOnFrom_162 : decode cX2_goOnFrom 162 = .ok (.aload_n 0, 1) := by decide +kernel
theorem dX2_goOnFrom_163 : decode cX2_goOnFrom 163 = .ok (.aload_n 0, 1) := by decide +kernel
theorem dX2_goOnFrom_164 : decode cX2_goOnFrom 164 = .ok (.getfield 19, 3) := by decide +kernel
theorem dX2_goOnFrom_167 : decode cX2_goOnFrom 167 = .ok (.iload_n 1, 1) := by decide +kernel
theorem dX2_goOnFrom_168 : decode cX2_goOnFrom 168 = .ok (.iaload, 1) := by decide +kernel
theorem dX2_goOnFrom_169 : decode cX2_goOnFrom 169 = .ok (.putfield 25, 3) := by decide +kernel
theorem dX2_goOnFrom_172 : decode cX2_goOnFrom 172 = .ok (.aload_n 0, 1) := by decide +kernel
theorem dX2_goOnFrom_173 : decode cX2_goOnFrom 173 = .ok (.aload_n 0, 1) := by decide +kernel
theorem dX2_goOnFrom_174 : decode cX2_goOnFrom 174 = .ok (.getfield 22, 3) := by decide +kernel
theorem dX2_goOnFrom_177 : decode cX2_goOnFrom 177 = .ok (.iload_n 1, 1) := by decide +kernel
theorem dX2_goOnFrom_178 : decode cX2_goOnFrom 178 = .ok (.iaload, 1) := by decide +kernel
theorem dX2_goOnFrom_179 : decode cX2_goOnFrom 179 = .ok (.putfield 28, 3) := by decide +kernel
theorem dX2_goOnFrom_182 : decode cX2_goOnFrom 182 = .ok (.return_, 1) := by decide +kernel
theorem dX2_planPlaces_0 : decode cX2_planPlaces 0 = .ok (.aload_n 0, 1) := by decide +kernel
theorem dX2_planPlaces_1 : decode cX2_planPlaces 1 = .ok (.ldc 85, 2) := by decide +kernel
theorem dX2_planPlaces_3 : decode cX2_planPlaces 3 = .ok (.putfield 37, 3) := by decide +kernel
theorem dX2_planPlaces_6 : decode cX2_planPlaces 6 = .ok (.aload_n 0, 1) := by decide +kernel
theorem dX2_planPlaces_7 : decode cX2_planPlaces 7 = .ok (.iconst 0, 1) := by decide +kernel
theorem dX2_planPlaces_8 : decode cX2_planPlaces 8 = .ok (.iconst 0, 1) := by decide +kernel
theorem dX2_planPlaces_9 : decode cX2_planPlaces 9 = .ok (.iconst 0, 1) := by decide +kernel
theorem dX2_planPlaces_10 : decode cX2_planPlaces 10 = .ok (.invokevirtual 96, 3) := by decide +kernel
theorem dX2_planPlaces_13 : decode cX2_planPlaces 13 = .ok (.return_, 1) := by decide +kernel
theorem dX2_placeFrom_0 : decode cX2_placeFrom 0 = .ok (.iload_n 1, 1) := by decide +kernel
theorem dX2_placeFrom_1 : decode cX2_placeFrom 1 = .ok (.aload_n 0, 1) := by decide +kernel
theorem dX2_placeFrom_2 : decode cX2_placeFrom 2 = .ok (.getfield 44, 3) := by decide +kernel
theorem dX2_placeFrom_5 : decode cX2_placeFrom 5 = .ok (.getfield 51, 3) := by decide +kernel
theorem dX2_placeFrom_8 : decode cX2_placeFrom 8 = .ok (.if_icmp .lt 9, 3) := by decide +kernel
theorem dX2_placeFrom_11 : decode cX2_placeFrom 11 = .ok (.aload_n 0, 1) := by decide +kernel
theorem dX2_placeFrom_12 : decode cX2_placeFrom 12 = .ok (.iload_n 3, 1) := by decide +kernel
theorem dX2_placeFrom_13 : decode cX2_placeFrom 13 = .ok (.invokevirtual 99, 3) := by decide +kernel
theorem dX2_placeFrom_16 : decode cX2_placeFrom 16 = .ok (.return_, 1) := by decide +kernel
theorem dX2_placeFrom_17 : decode cX2_placeFrom 17 = .ok (.aload_n 0, 1) := by decide +kernel
theorem dX2_placeFrom_18 : decode cX2_placeFrom 18 = .ok (.getfield 44, 3) := by decide +kernel
theorem dX2_placeFrom_21 : decode cX2_placeFrom 21 = .ok (.iload_n 1, 1) := by decide +kernel
theorem dX2_placeFrom_22 : decode cX2_placeFrom 22 = .ok (.invokevirtual 78, 3) := by decide +kernel
theorem dX2_placeFrom_25 : decode cX2_placeFrom 25 = .ok (.ifCond .ne 20, 3) := by decide +kernel
theorem dX2_placeFrom_28 : decode cX2_placeFrom 28 = .ok (.aload_n 0, 1) := by decide +kernel
theorem dX2_placeFrom_29 : decode cX2_placeFrom 29 = .ok (.getfield 31, 3) := by decide +kernel
theorem dX2_placeFrom_32 : decode cX2_placeFrom 32 = .ok (.iload_n 1, 1) := by decide +kernel
theorem dX2_placeFrom_33 : decode cX2_placeFrom 33 = .ok (.iload_n 1, 1) := by decide +kernel
theorem dX2_placeFrom_34 : decode cX2_placeFrom 34 = .ok (.iastore, 1) := by decide +kernel
theorem dX2_placeFrom_35 : decode cX2_placeFrom 35 = .ok (.aload_n 0, 1) := by decide +kernel
theorem dX2_placeFrom_36 : decode cX2_placeFrom 36 = .ok (.iload_n 1, 1) := by decide +kernel
theorem dX2_placeFrom_37 : decode cX2_placeFrom 37 = .ok (.iconst 1, 1) := by decide +kernel
theorem dX2_placeFrom_38 : decode cX2_placeFrom 38 = .ok (.iadd, 1) := by decide +kernel
theorem dX2_placeFrom_39 : decode cX2_placeFrom 39 = .ok (.iload_n 2, 1) := by decide +kernel
theorem dX2_placeFrom_40 : decode cX2_placeFrom 40 = .ok (.iload_n 3, 1) := by decide +kernel
theorem dX2_placeFrom_41 : decode cX2_placeFrom 41 = .ok (.invokevirtual 96, 3) := by decide +kernel
theorem dX2_placeFrom_44 : decode cX2_placeFrom 44 = .ok (.return_, 1) := by decide +kernel
theorem dX2_placeFrom_45 : decode cX2_placeFrom 45 = .ok (.iconst 0, 1) := by decide +kernel
theorem dX2_placeFrom_46 : decode cX2_placeFrom 46 = .ok (.istore 4, 2) := by decide +kernel
theorem dX2_placeFrom_48 : decode cX2_placeFrom 48 = .ok (.iload 4, 2) := by decide +kernel
theorem dX2_placeFrom_50 : decode cX2_placeFrom 50 = .ok (.aload_n 0, 1) := by decide +kernel
theorem dX2_placeFrom_51 : decode cX2_placeFrom 51 = .ok (.getfield 44, 3) := by decide +kernel
theorem dX2_placeFrom_54 : decode cX2_placeFrom 54 = .ok (.getfield 51, 3) := by decide +kernel
theorem dX2_placeFrom_57 : decode cX2_placeFrom 57 = .ok (.if_icmp .ge 71, 3) := by decide +kernel
theorem dX2_placeFrom_60 : decode cX2_placeFrom 60 = .ok (.aload_n 0, 1) := by decide +kernel
theorem dX2_placeFrom_61 : decode cX2_placeFrom 61 = .ok (.getfield 44, 3) := by decide +kernel
theorem dX2_placeFrom_64 : decode cX2_placeFrom 64 = .ok (.iload 4, 2) := by decide +kernel
theorem dX2_placeFrom_66 : decode cX2_placeFrom 66 = .ok (.invokevirtual 78, 3) := by decide +kernel
theorem dX2_placeFrom_69 : decode cX2_placeFrom 69 = .ok (.ifCond .eq 53, 3) := by decide +kernel
theorem dX2_placeFrom_72 : decode cX2_placeFrom 72 = .ok (.iload_n 2, 1) := by decide +kernel
theorem dX2_placeFrom_73 : decode cX2_placeFrom 73 = .ok (.iload 4, 2) := by decide +kernel
theorem dX2_placeFrom_75 : decode cX2_placeFrom 75 = .ok (.ishr, 1) := by decide +kernel
theorem dX2_placeFrom_76 : decode cX2_placeFrom 76 = .ok (.iconst 1, 1) := by decide +kernel
theorem dX2_placeFrom_77 : decode cX2_placeFrom 77 = .ok (.iand, 1) := by decide +kernel
theorem dX2_placeFrom_78 : decode cX2_placeFrom 78 = .ok (.ifCond .ne 44, 3) := by decide +kernel
theorem dX2_placeFrom_81 : decode cX2_placeFrom 81 = .ok (.aload_n 0, 1) := by decide +kernel
theorem dX2_placeFrom_82 : decode cX2_placeFrom 82 = .ok (.getfield 31, 3) := by decide +kernel
theorem dX2_placeFrom_85 : decode cX2_placeFrom 85 = .ok (.iload_n 1, 1) := by decide +kernel
theorem dX2_placeFrom_86 : decode cX2_placeFrom 86 = .ok (.iload 4, 2) := by decide +kernel
theorem dX2_placeFrom_88 : decode cX2_placeFrom 88 = .ok (.iastore, 1) := by decide +kernel
theorem dX2_placeFrom_89 : decode cX2_placeFrom 89 = .ok (.aload_n 0, 1) := by decide +kernel
theorem dX2_placeFrom_90 : decode cX2_placeFrom 90 = .ok (.iload_n 1, 1) := by decide +kernel
theorem dX2_placeFrom_91 : decode cX2_placeFrom 91 = .ok (.iconst 1, 1) := by decide +kernel
theorem dX2_placeFrom_92 : decode cX2_placeFrom 92 = .ok (.iadd, 1) := by decide +kernel
theorem dX2_placeFrom_93 : decode cX2_placeFrom 93 = .ok (.iload_n 2, 1) := by decide +kernel
theorem dX2_placeFrom_94 : decode cX2_placeFrom 94 = .ok (.iconst 1, 1) := by decide +kernel
theorem dX2_placeFrom_95 : decode cX2_placeFrom 95 = .ok (.iload 4, 2) := by decide +kernel
theorem dX2_placeFrom_97 : decode cX2_placeFrom 97 = .ok (.ishl, 1) := by decide +kernel
theorem dX2_placeFrom_98 : decode cX2_placeFrom 98 = .ok (.ior, 1) := by decide +kernel
theorem dX2_placeFrom_99 : decode cX2_placeFrom 99 = .ok (.iload_n 3, 1) := by decide +kernel
theorem dX2_placeFrom_100 : decode cX2_placeFrom 100 = .ok (.aload_n 0, 1) := by decide +kernel
theorem dX2_placeFrom_101 : decode cX2_placeFrom 101 = .ok (.getfield 44, 3) := by decide +kernel
theorem dX2_placeFrom_104 : decode cX2_placeFrom 104 = .ok (.iload 4, 2) := by decide +kernel
theorem dX2_placeFrom_106 : decode cX2_placeFrom 106 = .ok (.aload_n 0, 1) := by decide +kernel
theorem dX2_placeFrom_107 : decode cX2_placeFrom 107 = .ok (.getfield 44, 3) := by decide +kernel
theorem dX2_placeFrom_110 : decode cX2_placeFrom 110 = .ok (.getfield 54, 3) := by decide +kernel
theorem dX2_placeFrom_113 : decode cX2_placeFrom 113 = .ok (.iload_n 1, 1) := by decide +kernel
theorem dX2_placeFrom_114 : decode cX2_placeFrom 114 = .ok (.iaload, 1) := by decide +kernel
theorem dX2_placeFrom_115 : decode cX2_placeFrom 115 = .ok (.invokevirtual 59, 3) := by decide +kernel
theorem dX2_placeFrom_118 : decode cX2_placeFrom 118 = .ok (.iadd, 1) := by decide +kernel
theorem dX2_placeFrom_119 : decode cX2_placeFrom 119 = .ok (.invokevirtual 96, 3) := by decide +kernel
theorem dX2_placeFrom_122 : decode cX2_placeFrom 122 = .ok (.iinc 4 1, 3) := by decide +kernel
theorem dX2_placeFrom_125 : decode cX2_placeFrom 125 = .ok (.goto (-77), 3) := by decide +kernel
theorem dX2_placeFrom_128 : decode cX2_placeFrom 128 = .ok (.return_, 1) := by decide +kernel
theorem dX2_keepPlacesIfBest_0 : decode cX2_keepPlacesIfBest 0 = .ok (.iload_n 1, 1) := by decide +kernel
theorem dX2_keepPlacesIfBest_1 : decode cX2_keepPlacesIfBest 1 = .ok (.aload_n 0, 1) := by decide +kernel
theorem dX2_keepPlacesIfBest_2 : decode cX2_keepPlacesIfBest 2 = .ok (.getfield 37, 3) := by decide +kernel
theorem dX2_keepPlacesIfBest_5 : decode cX2_keepPlacesIfBest 5 = .ok (.if_icmp .ge 39, 3) := by decide +kernel
theorem dX2_keepPlacesIfBest_8 : decode cX2_keepPlacesIfBest 8 = .ok (.aload_n 0, 1) := by decide +kernel
theorem dX2_keepPlacesIfBest_9 : decode cX2_keepPlacesIfBest 9 = .ok (.iload_n 1, 1) := by decide +kernel
theorem dX2_keepPlacesIfBest_10 : decode cX2_keepPlacesIfBest 10 = .ok (.putfield 37, 3) := by decide +kernel
theorem dX2_keepPlacesIfBest_13 : decode cX2_keepPlacesIfBest 13 = .ok (.iconst 0, 1) := by decide +kernel
theorem dX2_keepPlacesIfBest_14 : decode cX2_keepPlacesIfBest 14 = .ok (.istore_n 2, 1) := by decide +kernel
theorem dX2_keepPlacesIfBest_15 : decode cX2_keepPlacesIfBest 15 = .ok (.iload_n 2, 1) := by decide +kernel
theorem dX2_keepPlacesIfBest_16 : decode cX2_keepPlacesIfBest 16 = .ok (.aload_n 0, 1) := by decide +kernel
theorem dX2_keepPlacesIfBest_17 : decode cX2_keepPlacesIfBest 17 = .ok (.getfield 44, 3) := by decide +kernel
theorem dX2_keepPlacesIfBest_20 : decode cX2_keepPlacesIfBest 20 = .ok (.getfield 51, 3) := by decide +kernel
theorem dX2_keepPlacesIfBest_23 : decode cX2_keepPlacesIfBest 23 = .ok (.if_icmp .ge 21, 3) := by decide +kernel
theorem dX2_keepPlacesIfBest_26 : decode cX2_keepPlacesIfBest 26 = .ok (.aload_n 0, 1) := by decide +kernel
theorem dX2_keepPlacesIfBest_27 : decode cX2_keepPlacesIfBest 27 = .ok (.getfield 34, 3) := by decide +kernel
theorem dX2_keepPlacesIfBest_30 : decode cX2_keepPlacesIfBest 30 = .ok (.iload_n 2, 1) := by decide +kernel
theorem dX2_keepPlacesIfBest_31 : decode cX2_keepPlacesIfBest 31 = .ok (.aload_n 0, 1) := by decide +kernel
theorem dX2_keepPlacesIfBest_32 : decode cX2_keepPlacesIfBest 32 = .ok (.getfield 31, 3) := by decide +kernel
theorem dX2_keepPlacesIfBest_35 : decode cX2_keepPlacesIfBest 35 = .ok (.iload_n 2, 1) := by decide +kernel
theorem dX2_keepPlacesIfBest_36 : decode cX2_keepPlacesIfBest 36 = .ok (.iaload, 1) := by decide +kernel
theorem dX2_keepPlacesIfBest_37 : decode cX2_keepPlacesIfBest 37 = .ok (.iastore, 1) := by decide +kernel
theorem dX2_keepPlacesIfBest_38 : decode cX2_keepPlacesIfBest 38 = .ok (.iinc 2 1, 3) := by decide +kernel
theorem dX2_keepPlacesIfBest_41 : decode cX2_keepPlacesIfBest 41 = .ok (.goto (-26), 3) := by decide +kernel
theorem dX2_keepPlacesIfBest_44 : decode cX2_keepPlacesIfBest 44 = .ok (.return_, 1) := by decide +kernel
theorem dX2_mostDaysUnseen_0 : decode cX2_mostDaysUnseen 0 = .ok (.bipush 30, 2) := by decide +kernel
theorem dX2_mostDaysUnseen_2 : decode cX2_mostDaysUnseen 2 = .ok (.istore_n 3, 1) := by decide +kernel
theorem dX2_mostDaysUnseen_3 : decode cX2_mostDaysUnseen 3 = .ok (.iload_n 3, 1) := by decide +kernel
theorem dX2_mostDaysUnseen_4 : decode cX2_mostDaysUnseen 4 = .ok (.iconst 1, 1) := by decide +kernel
theorem dX2_mostDaysUnseen_5 : decode cX2_mostDaysUnseen 5 = .ok (.if_icmp .lt 21, 3) := by decide +kernel
theorem dX2_mostDaysUnseen_8 : decode cX2_mostDaysUnseen 8 = .ok (.aload_n 0, 1) := by decide +kernel
theorem dX2_mostDaysUnseen_9 : decode cX2_mostDaysUnseen 9 = .ok (.iload_n 1, 1) := by decide +kernel
theorem dX2_mostDaysUnseen_10 : decode cX2_mostDaysUnseen 10 = .ok (.iload_n 2, 1) := by decide +kernel
theorem dX2_mostDaysUnseen_11 : decode cX2_mostDaysUnseen 11 = .ok (.iload_n 3, 1) := by decide +kernel
theorem dX2_mostDaysUnseen_12 : decode cX2_mostDaysUnseen 12 = .ok (.invokevirtual 102, 3) := by decide +kernel
theorem dX2_mostDaysUnseen_15 : decode cX2_mostDaysUnseen 15 = .ok (.ifCond .eq 5, 3) := by decide +kernel
theorem dX2_mostDaysUnseen_18 : decode cX2_mostDaysUnseen 18 = .ok (.iload_n 3, 1) := by decide +kernel
theorem dX2_mostDaysUnseen_19 : decode cX2_mostDaysUnseen 19 = .ok (.ireturn, 1) := by decide +kernel
theorem dX2_mostDaysUnseen_20 : decode cX2_mostDaysUnseen 20 = .ok (.iinc 3 (-1), 3) := by decide +kernel
theorem dX2_mostDaysUnseen_23 : decode cX2_mostDaysUnseen 23 = .ok (.goto (-20), 3) := by decide +kernel
theorem dX2_mostDaysUnseen_26 : decode cX2_mostDaysUnseen 26 = .ok (.ldc 77, 2) := by decide +kernel
theorem dX2_mostDaysUnseen_28 : decode cX2_mostDaysUnseen 28 = .ok (.ireturn, 1) := by decide +kernel
theorem dX2_isNeverOffByMore_0 : decode cX2_isNeverOffByMore 0 = .ok (.aload_n 0, 1) := by decide +kernel
theorem dX2_isNeverOffByMore_1 : decode cX2_isNeverOffByMore 1 = .ok (.getfield 44, 3) := by decide +kernel
theorem dX2_isNeverOffByMore_4 : decode cX2_isNeverOffByMore 4 = .ok (.getfield 90, 3) := by decide +kernel
theorem dX2_isNeverOffByMore_7 : decode cX2_isNeverOffByMore 7 = .ok (.iload_n 1, 1) := by decide +kernel
theorem dX2_isNeverOffByMore_8 : decode cX2_isNeverOffByMore 8 = .ok (.iaload, 1) := by decide +kernel
theorem dX2_isNeverOffByMore_9 : decode cX2_isNeverOffByMore 9 = .ok (.istore 4, 2) := by decide +kernel
theorem dX2_isNeverOffByMore_11 : decode cX2_isNeverOffByMore 11 = .ok (.iconst 0, 1) := by decide +kernel
theorem dX2_isNeverOffByMore_12 : decode cX2_isNeverOffByMore 12 = .ok (.istore 5, 2) := by decide +kernel
theorem dX2_isNeverOffByMore_14 : decode cX2_isNeverOffByMore 14 = .ok (.iconst 0, 1) := by decide +kernel
theorem dX2_isNeverOffByMore_15 : decode cX2_isNeverOffByMore 15 = .ok (.istore 6, 2) := by decide +kernel
theorem dX2_isNeverOffByMore_17 : decode cX2_isNeverOffByMore 17 = .ok (.iload 6, 2) := by decide +kernel
theorem dX2_isNeverOffByMore_19 : decode cX2_isNeverOffByMore 19 = .ok (.bipush 60, 2) := by decide +kernel
theorem dX2_isNeverOffByMore_21 : decode cX2_isNeverOffByMore 21 = .ok (.if_icmp .ge 70, 3) := by decide +kernel
theorem dX2_isNeverOffByMore_24 : decode cX2_isNeverOffByMore 24 = .ok (.aload_n 0, 1) := by decide +kernel
theorem dX2_isNeverOffByMore_25 : decode cX2_isNeverOffByMore 25 = .ok (.getfield 44, 3) := by decide +kernel
theorem dX2_isNeverOffByMore_28 : decode cX2_isNeverOffByMore 28 = .ok (.iload_n 1, 1) := by decide +kernel
theorem dX2_isNeverOffByMore_29 : decode cX2_isNeverOffByMore 29 = .ok (.iload 4, 2) := by decide +kernel
theorem dX2_isNeverOffByMore_31 : decode cX2_isNeverOffByMore 31 = .ok (.aload_n 0, 1) := by decide +kernel
theorem dX2_isNeverOffByMore_32 : decode cX2_isNeverOffByMore 32 = .ok (.getfield 44, 3) := by decide +kernel
theorem dX2_isNeverOffByMore_35 : decode cX2_isNeverOffByMore 35 = .ok (.getfield 48, 3) := by decide +kernel
theorem dX2_isNeverOffByMore_38 : decode cX2_isNeverOffByMore 38 = .ok (.iload 6, 2) := by decide +kernel
theorem dX2_isNeverOffByMore_40 : decode cX2_isNeverOffByMore 40 = .ok (.iadd, 1) := by decide +kernel
theorem dX2_isNeverOffByMore_41 : decode cX2_isNeverOffByMore 41 = .ok (.invokevirtual 55, 3) := by decide +kernel
theorem dX2_isNeverOffByMore_44 : decode cX2_isNeverOffByMore 44 = .ok (.istore 4, 2) := by decide +kernel
theorem dX2_isNeverOffByMore_46 : decode cX2_isNeverOffByMore 46 = .ok (.aload_n 0, 1) := by decide +kernel
theorem dX2_isNeverOffByMore_47 : decode cX2_isNeverOffByMore 47 = .ok (.getfield 44, 3) := by decide +kernel
theorem dX2_isNeverOffByMore_50 : decode cX2_isNeverOffByMore 50 = .ok (.iload_n 1, 1) := by decide +kernel
theorem dX2_isNeverOffByMore_51 : decode cX2_isNeverOffByMore 51 = .ok (.iload 4, 2) := by decide +kernel
theorem dX2_isNeverOffByMore_53 : decode cX2_isNeverOffByMore 53 = .ok (.invokevirtual 59, 3) := by decide +kernel
theorem dX2_isNeverOffByMore_56 : decode cX2_isNeverOffByMore 56 = .ok (.iload_n 2, 1) := by decide +kernel
theorem dX2_isNeverOffByMore_57 : decode cX2_isNeverOffByMore 57 = .ok (.if_icmp .le 5, 3) := by decide +kernel
theorem dX2_isNeverOffByMore_60 : decode cX2_isNeverOffByMore 60 = .ok (.iconst 0, 1) := by decide +kernel
theorem dX2_isNeverOffByMore_61 : decode cX2_isNeverOffByMore 61 = .ok (.ireturn, 1) := by decide +kernel
theorem dX2_isNeverOffByMore_62 : decode cX2_isNeverOffByMore 62 = .ok (.iinc 5 1, 3) := by decide +kernel
theorem dX2_isNeverOffByMore_65 : decode cX2_isNeverOffByMore 65 = .ok (.iload 5, 2) := by decide +kernel
theorem dX2_isNeverOffByMore_67 : decode cX2_isNeverOffByMore 67 = .ok (.iload_n 3, 1) := by decide +kernel
theorem dX2_isNeverOffByMore_68 : decode cX2_isNeverOffByMore 68 = .ok (.if_icmp .ne 17, 3) := by decide +kernel
theorem dX2_isNeverOffByMore_71 : decode cX2_isNeverOffByMore 71 = .ok (.aload_n 0, 1) := by decide +kernel
theorem dX2_isNeverOffByMore_72 : decode cX2_isNeverOffByMore 72 = .ok (.getfield 44, 3) := by decide +kernel
theorem dX2_isNeverOffByMore_75 : decode cX2_isNeverOffByMore 75 = .ok (.getfield 90, 3) := by decide +kernel
theorem dX2_isNeverOffByMore_78 : decode cX2_isNeverOffByMore 78 = .ok (.iload_n 1, 1) := by decide +kernel
theorem dX2_isNeverOffByMore_79 : decode cX2_isNeverOffByMore 79 = .ok (.iaload, 1) := by decide +kernel
theorem dX2_isNeverOffByMore_80 : decode cX2_isNeverOffByMore 80 = .ok (.istore 4, 2) := by decide +kernel
theorem dX2_isNeverOffByMore_82 : decode cX2_isNeverOffByMore 82 = .ok (.iconst 0, 1) := by decide +kernel
theorem dX2_isNeverOffByMore_83 : decode cX2_isNeverOffByMore 83 = .ok (.istore 5, 2) := by decide +kernel
theorem dX2_isNeverOffByMore_85 : decode cX2_isNeverOffByMore 85 = .ok (.iinc 6 1, 3) := by decide +kernel
theorem dX2_isNeverOffByMore_88 : decode cX2_isNeverOffByMore 88 = .ok (.goto (-71), 3) := by decide +kernel
theorem dX2_isNeverOffByMore_91 : decode cX2_isNeverOffByMore 91 = .ok (.iconst 1, 1) := by decide +kernel
theorem dX2_isNeverOffByMore_92 : decode cX2_isNeverOffByMore 92 = .ok (.ireturn, 1) := by decide +kernel
theorem dX2_firstReturn_0 : decode cX2_firstReturn 0 = .ok (.aload_n 0, 1) := by decide +kernel
theorem dX2_firstReturn_1 : decode cX2_firstReturn 1 = .ok (.invokevirtual 63, 3) := by decide +kernel
theorem dX2_firstReturn_4 : decode cX2_firstReturn 4 = .ok (.iconst 1, 1) := by decide +kernel
theorem dX2_firstReturn_5 : decode cX2_firstReturn 5 = .ok (.istore_n 1, 1) := by decide +kernel
theorem dX2_firstReturn_6 : decode cX2_firstReturn 6 = .ok (.iload_n 1, 1) := by decide +kernel
theorem dX2_firstReturn_7 : decode cX2_firstReturn 7 = .ok (.bipush 100, 2) := by decide +kernel
theorem dX2_firstReturn_9 : decode cX2_firstReturn 9 = .ok (.if_icmp .gt 31, 3) := by decide +kernel
theorem dX2_firstReturn_12 : decode cX2_firstReturn 12 = .ok (.aload_n 0, 1) := by decide +kernel
theorem dX2_firstReturn_13 : decode cX2_firstReturn 13 = .ok (.iconst (-1), 1) := by decide +kernel
theorem dX2_firstReturn_14 : decode cX2_firstReturn 14 = .ok (.invokevirtual 66, 3) := by decide +kernel
theorem dX2_firstReturn_17 : decode cX2_firstReturn 17 = .ok (.aload_n 0, 1) := by decide +kernel
theorem dX2_firstReturn_18 : decode cX2_firstReturn 18 = .ok (.iload_n 1, 1) := by decide +kernel
theorem dX2_firstReturn_19 : decode cX2_firstReturn 19 = .ok (.invokevirtual 106, 3) := by decide +kernel
theorem dX2_firstReturn_22 : decode cX2_firstReturn 22 = .ok (.ifCond .eq 12, 3) := by decide +kernel
theorem dX2_firstReturn_25 : decode cX2_firstReturn 25 = .ok (.aload_n 0, 1) := by decide +kernel
theorem dX2_firstReturn_26 : decode cX2_firstReturn 26 = .ok (.invokevirtual 109, 3) := by decide +kernel
theorem dX2_firstReturn_29 : decode cX2_firstReturn 29 = .ok (.ifCond .eq 5, 3) := by decide +kernel
theorem dX2_firstReturn_32 : decode cX2_firstReturn 32 = .ok (.iload_n 1, 1) := by decide +kernel
theorem dX2_firstReturn_33 : decode cX2_firstReturn 33 = .ok (.ireturn, 1) := by decide +kernel
theorem dX2_firstReturn_34 : decode cX2_firstReturn 34 = .ok (.iinc 1 1, 3) := by decide +kernel
theorem dX2_firstReturn_37 : decode cX2_firstReturn 37 = .ok (.goto (-31), 3) := by decide +kernel
theorem dX2_firstReturn_40 : decode cX2_firstReturn 40 = .ok (.ldc 77, 2) := by decide +kernel
theorem dX2_firstReturn_42 : decode cX2_firstReturn 42 = .ok (.ireturn, 1) := by decide +kernel
theorem dX2_isWholeRound_0 : decode cX2_isWholeRound 0 = .ok (.iload_n 1, 1) := by decide +kernel
theorem dX2_isWholeRound_1 : decode cX2_isWholeRound 1 = .ok (.bipush 14, 2) := by decide +kernel
theorem dX2_isWholeRound_3 : decode cX2_isWholeRound 3 = .ok (.irem, 1) := by decide +kernel
theorem dX2_isWholeRound_4 : decode cX2_isWholeRound 4 = .ok (.ifCond .eq 5, 3) := by decide +kernel
theorem dX2_isWholeRound_7 : decode cX2_isWholeRound 7 = .ok (.iconst 0, 1) := by decide +kernel
theorem dX2_isWholeRound_8 : decode cX2_isWholeRound 8 = .ok (.ireturn, 1) := by decide +kernel
theorem dX2_isWholeRound_9 : decode cX2_isWholeRound 9 = .ok (.iconst 0, 1) := by decide +kernel
theorem dX2_isWholeRound_10 : decode cX2_isWholeRound 10 = .ok (.istore_n 2, 1) := by decide +kernel
theorem dX2_isWholeRound_11 : decode cX2_isWholeRound 11 = .ok (.iload_n 2, 1) := by decide +kernel
theorem dX2_isWholeRound_12 : decode cX2_isWholeRound 12 = .ok (.aload_n 0, 1) := by decide +kernel
theorem dX2_isWholeRound_13 : decode cX2_isWholeRound 13 = .ok (.getfield 44, 3) := by decide +kernel
theorem dX2_isWholeRound_16 : decode cX2_isWholeRound 16 = .ok (.getfield 51, 3) := by decide +kernel
theorem dX2_isWholeRound_19 : decode cX2_isWholeRound 19 = .ok (.if_icmp .ge 42, 3) := by decide +kernel
theorem dX2_isWholeRound_22 : decode cX2_isWholeRound 22 = .ok (.aload_n 0, 1) := by decide +kernel
theorem dX2_isWholeRound_23 : decode cX2_isWholeRound 23 = .ok (.getfield 44, 3) := by decide +kernel
theorem dX2_isWholeRound_26 : decode cX2_isWholeRound 26 = .ok (.getfield 113, 3) := by decide +kernel
theorem dX2_isWholeRound_29 : decode cX2_isWholeRound 29 = .ok (.iload_n 2, 1) := by decide +kernel
theorem dX2_isWholeRound_30 : decode cX2_isWholeRound 30 = .ok (.iaload, 1) := by decide +kernel
theorem dX2_isWholeRound_31 : decode cX2_isWholeRound 31 = .ok (.istore_n 3, 1) := by decide +kernel
theorem dX2_isWholeRound_32 : decode cX2_isWholeRound 32 = .ok (.aload_n 0, 1) := by decide +kernel
theorem dX2_isWholeRound_33 : decode cX2_isWholeRound 33 = .ok (.getfield 44, 3) := by decide +kernel
theorem dX2_isWholeRound_36 : decode cX2_isWholeRound 36 = .ok (.iload_n 2, 1) := by decide +kernel
theorem dX2_isWholeRound_37 : decode cX2_isWholeRound 37 = .ok (.invokevirtual 78, 3) := by decide +kernel
theorem dX2_isWholeRound_40 : decode cX2_isWholeRound 40 = .ok (.ifCond .eq 15, 3) := by decide +kernel
theorem dX2_isWholeRound_43 : decode cX2_isWholeRound 43 = .ok (.iload_n 3, 1) := by decide +kernel
theorem dX2_isWholeRound_44 : decode cX2_isWholeRound 44 = .ok (.ifCond .le 11, 3) := by decide +kernel
theorem dX2_isWholeRound_47 : decode cX2_isWholeRound 47 = .ok (.iload_n 1, 1) := by decide +kernel
theorem dX2_isWholeRound_48 : decode cX2_isWholeRound 48 = .ok (.iload_n 3, 1) := by decide +kernel
theorem dX2_isWholeRound_49 : decode cX2_isWholeRound 49 = .ok (.irem, 1) := by decide +kernel
theorem dX2_isWholeRound_50 : decode cX2_isWholeRound 50 = .ok (.ifCond .eq 5, 3) := by decide +kernel
theorem dX2_isWholeRound_53 : decode cX2_isWholeRound 53 = .ok (.iconst 0, 1) := by decide +kernel
theorem dX2_isWholeRound_54 : decode cX2_isWholeRound 54 = .ok (.ireturn, 1) := by decide +kernel
theorem dX2_isWholeRound_55 : decode cX2_isWholeRound 55 = .ok (.iinc 2 1, 3) := by decide +kernel
theorem dX2_isWholeRound_58 : decode cX2_isWholeRound 58 = .ok (.goto (-47), 3) := by decide +kernel
theorem dX2_isWholeRound_61 : decode cX2_isWholeRound 61 = .ok (.iconst 1, 1) := by decide +kernel
theorem dX2_isWholeRound_62 : decode cX2_isWholeRound 62 = .ok (.ireturn, 1) := by decide +kernel
theorem dX2_isAllAsNow_0 : decode cX2_isAllAsNow 0 = .ok (.iconst 0, 1) := by decide +kernel
theorem dX2_isAllAsNow_1 : decode cX2_isAllAsNow 1 = .ok (.istore_n 1, 1) := by decide +kernel
theorem dX2_isAllAsNow_2 : decode cX2_isAllAsNow 2 = .ok (.iload_n 1, 1) := by decide +kernel
theorem dX2_isAllAsNow_3 : decode cX2_isAllAsNow 3 = .ok (.aload_n 0, 1) := by decide +kernel
theorem dX2_isAllAsNow_4 : decode cX2_isAllAsNow 4 = .ok (.getfield 44, 3) := by decide +kernel
theorem dX2_isAllAsNow_7 : decode cX2_isAllAsNow 7 = .ok (.getfield 51, 3) := by decide +kernel
theorem dX2_isAllAsNow_10 : decode cX2_isAllAsNow 10 = .ok (.if_icmp .ge 29, 3) := by decide +kernel
theorem dX2_isAllAsNow_13 : decode cX2_isAllAsNow 13 = .ok (.aload_n 0, 1) := by decide +kernel
theorem dX2_isAllAsNow_14 : decode cX2_isAllAsNow 14 = .ok (.getfield 9, 3) := by decide +kernel
theorem dX2_isAllAsNow_17 : decode cX2_isAllAsNow 17 = .ok (.iload_n 1, 1) := by decide +kernel
theorem dX2_isAllAsNow_18 : decode cX2_isAllAsNow 18 = .ok (.iaload, 1) := by decide +kernel
theorem dX2_isAllAsNow_19 : decode cX2_isAllAsNow 19 = .ok (.aload_n 0, 1) := by decide +kernel
theorem dX2_isAllAsNow_20 : decode cX2_isAllAsNow 20 = .ok (.getfield 44, 3) := by decide +kernel
theorem dX2_isAllAsNow_23 : decode cX2_isAllAsNow 23 = .ok (.getfield 54, 3) := by decide +kernel
theorem dX2_isAllAsNow_26 : decode cX2_isAllAsNow 26 = .ok (.iload_n 1, 1) := by decide +kernel
theorem dX2_isAllAsNow_27 : decode cX2_isAllAsNow 27 = .ok (.iaload, 1) := by decide +kernel
theorem dX2_isAllAsNow_28 : decode cX2_isAllAsNow 28 = .ok (.if_icmp .eq 5, 3) := by decide +kernel
theorem dX2_isAllAsNow_31 : decode cX2_isAllAsNow 31 = .ok (.iconst 0, 1) := by decide +kernel
theorem dX2_isAllAsNow_32 : decode cX2_isAllAsNow 32 = .ok (.ireturn, 1) := by decide +kernel
theorem dX2_isAllAsNow_33 : decode cX2_isAllAsNow 33 = .ok (.iinc 1 1, 3) := by decide +kernel
theorem dX2_isAllAsNow_36 : decode cX2_isAllAsNow 36 = .ok (.goto (-34), 3) := by decide +kernel
theorem dX2_isAllAsNow_39 : decode cX2_isAllAsNow 39 = .ok (.iconst 1, 1) := by decide +kernel
theorem dX2_isAllAsNow_40 : decode cX2_isAllAsNow 40 = .ok (.ireturn, 1) := by decide +kernel
theorem dX2_hasteBits_0 : decode cX2_hasteBits 0 = .ok (.aload_n 0, 1) := by decide +kernel
theorem dX2_hasteBits_1 : decode cX2_hasteBits 1 = .ok (.iconst (-1), 1) := by decide +kernel
theorem dX2_hasteBits_2 : decode cX2_hasteBits 2 = .ok (.aload_n 1, 1) := by decide +kernel
theorem dX2_hasteBits_3 : decode cX2_hasteBits 3 = .ok (.iload_n 2, 1) := by decide +kernel
theorem dX2_hasteBits_4 : decode cX2_hasteBits 4 = .ok (.iload_n 3, 1) := by decide +kernel
theorem dX2_hasteBits_5 : decode cX2_hasteBits 5 = .ok (.iload 4, 2) := by decide +kernel
theorem dX2_hasteBits_7 : decode cX2_hasteBits 7 = .ok (.invokevirtual 116, 3) := by decide +kernel
theorem dX2_hasteBits_10 : decode cX2_hasteBits 10 = .ok (.ifCond .eq 8, 3) := by decide +kernel
theorem dX2_hasteBits_13 : decode cX2_hasteBits 13 = .ok (.bipush 64, 2) := by decide +kernel
theorem dX2_hasteBits_15 : decode cX2_hasteBits 15 = .ok (.goto 4, 3) := by decide +kernel
theorem dX2_hasteBits_18 : decode cX2_hasteBits 18 = .ok (.iconst 0, 1) := by decide +kernel
theorem dX2_hasteBits_19 : decode cX2_hasteBits 19 = .ok (.istore 5, 2) := by decide +kernel
theorem dX2_hasteBits_21 : decode cX2_hasteBits 21 = .ok (.iconst 0, 1) := by decide +kernel
theorem dX2_hasteBits_22 : decode cX2_hasteBits 22 = .ok (.istore 6, 2) := by decide +kernel
theorem dX2_hasteBits_24 : decode cX2_hasteBits 24 = .ok (.iload 6, 2) := by decide +kernel
theorem dX2_hasteBits_26 : decode cX2_hasteBits 26 = .ok (.aload_n 0, 1) := by decide +kernel
theorem dX2_hasteBits_27 : decode cX2_hasteBits 27 = .ok (.getfield 44, 3) := by decide +kernel
theorem dX2_hasteBits_30 : decode cX2_hasteBits 30 = .ok (.getfield 51, 3) := by decide +kernel
theorem dX2_hasteBits_33 : decode cX2_hasteBits 33 = .ok (.if_icmp .ge 36, 3) := by decide +kernel
theorem dX2_hasteBits_36 : decode cX2_hasteBits 36 = .ok (.iload 5, 2) := by decide +kernel
theorem dX2_hasteBits_38 : decode cX2_hasteBits 38 = .ok (.aload_n 0, 1) := by decide +kernel
theorem dX2_hasteBits_39 : decode cX2_hasteBits 39 = .ok (.iload 6, 2) := by decide +kernel
theorem dX2_hasteBits_41 : decode cX2_hasteBits 41 = .ok (.aload_n 1, 1) := by decide +kernel
theorem dX2_hasteBits_42 : decode cX2_hasteBits 42 = .ok (.iload_n 2, 1) := by decide +kernel
theorem dX2_hasteBits_43 : decode cX2_hasteBits 43 = .ok (.iload_n 3, 1) := by decide +kernel
theorem dX2_hasteBits_44 : decode cX2_hasteBits 44 = .ok (.iload 4, 2) := by decide +kernel
theorem dX2_hasteBits_46 : decode cX2_hasteBits 46 = .ok (.invokevirtual 116, 3) := by decide +kernel
theorem dX2_hasteBits_49 : decode cX2_hasteBits 49 = .ok (.ifCond .eq 10, 3) := by decide +kernel
theorem dX2_hasteBits_52 : decode cX2_hasteBits 52 = .ok (.iconst 1, 1) := by decide +kernel
theorem dX2_hasteBits_53 : decode cX2_hasteBits 53 = .ok (.iload 6, 2) := by decide +kernel
theorem dX2_hasteBits_55 : decode cX2_hasteBits 55 = .ok (.ishl, 1) := by decide +kernel
theorem dX2_hasteBits_56 : decode cX2_hasteBits 56 = .ok (.goto 4, 3) := by decide +kernel
theorem dX2_hasteBits_59 : decode cX2_hasteBits 59 = .ok (.iconst 0, 1) := by decide +kernel
theorem dX2_hasteBits_60 : decode cX2_hasteBits 60 = .ok (.ior, 1) := by decide +kernel
theorem dX2_hasteBits_61 : decode cX2_hasteBits 61 = .ok (.istore 5, 2) := by decide +kernel
theorem dX2_hasteBits_63 : decode cX2_hasteBits 63 = .ok (.iinc 6 1, 3) := by decide +kernel
theorem dX2_hasteBits_66 : decode cX2_hasteBits 66 = .ok (.goto (-42), 3) := by decide +kernel
theorem dX2_hasteBits_69 : decode cX2_hasteBits 69 = .ok (.iload 5, 2) := by decide +kernel
theorem dX2_hasteBits_71 : decode cX2_hasteBits 71 = .ok (.ireturn, 1) := by decide +kernel
theorem dX2_isToldIfHasty_0 : decode cX2_isToldIfHasty 0 = .ok (.aload_n 0, 1) := by decide +kernel
theorem dX2_isToldIfHasty_1 : decode cX2_isToldIfHasty 1 = .ok (.invokevirtual 63, 3) := by decide +kernel
theorem dX2_isToldIfHasty_4 : decode cX2_isToldIfHasty 4 = .ok (.iconst 0, 1) := by decide +kernel
theorem dX2_isToldIfHasty_5 : decode cX2_isToldIfHasty 5 = .ok (.istore 6, 2) := by decide +kernel
theorem dX2_isToldIfHasty_7 : decode cX2_isToldIfHasty 7 = .ok (.iload 6, 2) := by decide +kernel
theorem dX2_isToldIfHasty_9 : decode cX2_isToldIfHasty 9 = .ok (.iload 5, 2) := by decide +kernel
theorem dX2_isToldIfHasty_11 : decode cX2_isToldIfHasty 11 = .ok (.if_icmp .ge 33, 3) := by decide +kernel
theorem dX2_isToldIfHasty_14 : decode cX2_isToldIfHasty 14 = .ok (.aload_n 0, 1) := by decide +kernel
theorem dX2_isToldIfHasty_15 : decode cX2_isToldIfHasty 15 = .ok (.iload_n 1, 1) := by decide +kernel
theorem dX2_isToldIfHasty_16 : decode cX2_isToldIfHasty 16 = .ok (.invokevirtual 66, 3) := by decide +kernel
theorem dX2_isToldIfHasty_19 : decode cX2_isToldIfHasty 19 = .ok (.aload_n 0, 1) := by decide +kernel
theorem dX2_isToldIfHasty_20 : decode cX2_isToldIfHasty 20 = .ok (.invokevirtual 70, 3) := by decide +kernel
theorem dX2_isToldIfHasty_23 : decode cX2_isToldIfHasty 23 = .ok (.aload_n 2, 1) := by decide +kernel
theorem dX2_isToldIfHasty_24 : decode cX2_isToldIfHasty 24 = .ok (.iload_n 3, 1) := by decide +kernel
theorem dX2_isToldIfHasty_25 : decode cX2_isToldIfHasty 25 = .ok (.iload 4, 2) := by decide +kernel
theorem dX2_isToldIfHasty_27 : decode cX2_isToldIfHasty 27 = .ok (.iload 6, 2) := by decide +kernel
theorem dX2_isToldIfHasty_29 : decode cX2_isToldIfHasty 29 = .ok (.iadd, 1) := by decide +kernel
theorem dX2_isToldIfHasty_30 : decode cX2_isToldIfHasty 30 = .ok (.invokevirtual 120, 3) := by decide +kernel
theorem dX2_isToldIfHasty_33 : decode cX2_isToldIfHasty 33 = .ok (.if_icmp .eq 5, 3) := by decide +kernel
theorem dX2_isToldIfHasty_36 : decode cX2_isToldIfHasty 36 = .ok (.iconst 0, 1) := by decide +kernel
theorem dX2_isToldIfHasty_37 : decode cX2_isToldIfHasty 37 = .ok (.ireturn, 1) := by decide +kernel
theorem dX2_isToldIfHasty_38 : decode cX2_isToldIfHasty 38 = .ok (.iinc 6 1, 3) := by decide +kernel
theorem dX2_isToldIfHasty_41 : decode cX2_isToldIfHasty 41 = .ok (.goto (-34), 3) := by decide +kernel
theorem dX2_isToldIfHasty_44 : decode cX2_isToldIfHasty 44 = .ok (.iconst 1, 1) := by decide +kernel
theorem dX2_isToldIfHasty_45 : decode cX2_isToldIfHasty 45 = .ok (.ireturn, 1) := by decide +kernel
theorem dX2_kindBits_0 : decode cX2_kindBits 0 = .ok (.iconst 0, 1) := by decide +kernel
theorem dX2_kindBits_1 : decode cX2_kindBits 1 = .ok (.istore 6, 2) := by decide +kernel
theorem dX2_kindBits_3 : decode cX2_kindBits 3 = .ok (.iconst 1, 1) := by decide +kernel
theorem dX2_kindBits_4 : decode cX2_kindBits 4 = .ok (.istore 7, 2) := by decide +kernel
theorem dX2_kindBits_6 : decode cX2_kindBits 6 = .ok (.iload 7, 2) := by decide +kernel
theorem dX2_kindBits_8 : decode cX2_kindBits 8 = .ok (.iconst 5, 1) := by decide +kernel
theorem dX2_kindBits_9 : decode cX2_kindBits 9 = .ok (.if_icmp .gt 38, 3) := by decide +kernel
theorem dX2_kindBits_12 : decode cX2_kindBits 12 = .ok (.iload 6, 2) := by decide +kernel
theorem dX2_kindBits_14 : decode cX2_kindBits 14 = .ok (.aload_n 0, 1) := by decide +kernel
theorem dX2_kindBits_15 : decode cX2_kindBits 15 = .ok (.iload 7, 2) := by decide +kernel
theorem dX2_kindBits_17 : decode cX2_kindBits 17 = .ok (.iload_n 1, 1) := by decide +kernel
theorem dX2_kindBits_18 : decode cX2_kindBits 18 = .ok (.aload_n 2, 1) := by decide +kernel
theorem dX2_kindBits_19 : decode cX2_kindBits 19 = .ok (.iload_n 3, 1) := by decide +kernel
theorem dX2_kindBits_20 : decode cX2_kindBits 20 = .ok (.iload 4, 2) := by decide +kernel
theorem dX2_kindBits_22 : decode cX2_kindBits 22 = .ok (.iload 5, 2) := by decide +kernel
theorem dX2_kindBits_24 : decode cX2_kindBits 24 = .ok (.invokevirtual 125, 3) := by decide +kernel
theorem dX2_kindBits_27 : decode cX2_kindBits 27 = .ok (.ifCond .eq 10, 3) := by decide +kernel
theorem dX2_kindBits_30 : decode cX2_kindBits 30 = .ok (.iconst 1, 1) := by decide +kernel
theorem dX2_kindBits_31 : decode cX2_kindBits 31 = .ok (.iload 7, 2) := by decide +kernel
theorem dX2_kindBits_33 : decode cX2_kindBits 33 = .ok (.ishl, 1) := by decide +kernel
theorem dX2_kindBits_34 : decode cX2_kindBits 34 = .ok (.goto 4, 3) := by decide +kernel
theorem dX2_kindBits_37 : decode cX2_kindBits 37 = .ok (.iconst 0, 1) := by decide +kernel
theorem dX2_kindBits_38 : decode cX2_kindBits 38 = .ok (.ior, 1) := by decide +kernel
theorem dX2_kindBits_39 : decode cX2_kindBits 39 = .ok (.istore 6, 2) := by decide +kernel
theorem dX2_kindBits_41 : decode cX2_kindBits 41 = .ok (.iinc 7 1, 3) := by decide +kernel
theorem dX2_kindBits_44 : decode cX2_kindBits 44 = .ok (.goto (-38), 3) := by decide +kernel
theorem dX2_kindBits_47 : decode cX2_kindBits 47 = .ok (.iload 6, 2) := by decide +kernel
theorem dX2_kindBits_49 : decode cX2_kindBits 49 = .ok (.ireturn, 1) := by decide +kernel
theorem dX2_isToldIfOf_0 : decode cX2_isToldIfOf 0 = .ok (.aload_n 0, 1) := by decide +kernel
theorem dX2_isToldIfOf_1 : decode cX2_isToldIfOf 1 = .ok (.getfield 44, 3) := by decide +kernel
theorem dX2_isToldIfOf_4 : decode cX2_isToldIfOf 4 = .ok (.getfield 54, 3) := by decide +kernel
theorem dX2_isToldIfOf_7 : decode cX2_isToldIfOf 7 = .ok (.iload_n 2, 1) := by decide +kernel
theorem dX2_isToldIfOf_8 : decode cX2_isToldIfOf 8 = .ok (.iaload, 1) := by decide +kernel
theorem dX2_isToldIfOf_9 : decode cX2_isToldIfOf 9 = .ok (.istore 7, 2) := by decide +kernel
theorem dX2_isToldIfOf_11 : decode cX2_isToldIfOf 11 = .ok (.iconst 0, 1) := by decide +kernel
theorem dX2_isToldIfOf_12 : decode cX2_isToldIfOf 12 = .ok (.istore 8, 2) := by decide +kernel
theorem dX2_isToldIfOf_14 : decode cX2_isToldIfOf 14 = .ok (.iload 8, 2) := by decide +kernel
theorem dX2_isToldIfOf_16 : decode cX2_isToldIfOf 16 = .ok (.iload 6, 2) := by decide +kernel
theorem dX2_isToldIfOf_18 : decode cX2_isToldIfOf 18 = .ok (.if_icmp .ge 50, 3) := by decide +kernel
theorem dX2_isToldIfOf_21 : decode cX2_isToldIfOf 21 = .ok (.aload_n 0, 1) := by decide +kernel
theorem dX2_isToldIfOf_22 : decode cX2_isToldIfOf 22 = .ok (.getfield 44, 3) := by decide +kernel
theorem dX2_isToldIfOf_25 : decode cX2_isToldIfOf 25 = .ok (.iload_n 1, 1) := by decide +kernel
theorem dX2_isToldIfOf_26 : decode cX2_isToldIfOf 26 = .ok (.iload_n 2, 1) := by decide +kernel
theorem dX2_isToldIfOf_27 : decode cX2_isToldIfOf 27 = .ok (.iload 7, 2) := by decide +kernel
theorem dX2_isToldIfOf_29 : decode cX2_isToldIfOf 29 = .ok (.aload_n 0, 1) := by decide +kernel
theorem dX2_isToldIfOf_30 : decode cX2_isToldIfOf 30 = .ok (.getfield 44, 3) := by decide +kernel
theorem dX2_isToldIfOf_33 : decode cX2_isToldIfOf 33 = .ok (.getfield 48, 3) := by decide +kernel
theorem dX2_isToldIfOf_36 : decode cX2_isToldIfOf 36 = .ok (.iload 8, 2) := by decide +kernel
theorem dX2_isToldIfOf_38 : decode cX2_isToldIfOf 38 = .ok (.iadd, 1) := by decide +kernel
theorem dX2_isToldIfOf_39 : decode cX2_isToldIfOf 39 = .ok (.invokevirtual 129, 3) := by decide +kernel
theorem dX2_isToldIfOf_42 : decode cX2_isToldIfOf 42 = .ok (.istore 7, 2) := by decide +kernel
theorem dX2_isToldIfOf_44 : decode cX2_isToldIfOf 44 = .ok (.iload 7, 2) := by decide +kernel
theorem dX2_isToldIfOf_46 : decode cX2_isToldIfOf 46 = .ok (.aload_n 3, 1) := by decide +kernel
theorem dX2_isToldIfOf_47 : decode cX2_isToldIfOf 47 = .ok (.iload 4, 2) := by decide +kernel
theorem dX2_isToldIfOf_49 : decode cX2_isToldIfOf 49 = .ok (.iload 5, 2) := by decide +kernel
theorem dX2_isToldIfOf_51 : decode cX2_isToldIfOf 51 = .ok (.iload 8, 2) := by decide +kernel
theorem dX2_isToldIfOf_53 : decode cX2_isToldIfOf 53 = .ok (.iadd, 1) := by decide +kernel
theorem dX2_isToldIfOf_54 : decode cX2_isToldIfOf 54 = .ok (.invokevirtual 120, 3) := by decide +kernel
theorem dX2_isToldIfOf_57 : decode cX2_isToldIfOf 57 = .ok (.if_icmp .eq 5, 3) := by decide +kernel
theorem dX2_isToldIfOf_60 : decode cX2_isToldIfOf 60 = .ok (.iconst 0, 1) := by decide +kernel
theorem dX2_isToldIfOf_61 : decode cX2_isToldIfOf 61 = .ok (.ireturn, 1) := by decide +kernel
theorem dX2_isToldIfOf_62 : decode cX2_isToldIfOf 62 = .ok (.iinc 8 1, 3) := by decide +kernel
theorem dX2_isToldIfOf_65 : decode cX2_isToldIfOf 65 = .ok (.goto (-51), 3) := by decide +kernel
theorem dX2_isToldIfOf_68 : decode cX2_isToldIfOf 68 = .ok (.iconst 1, 1) := by decide +kernel
theorem dX2_isToldIfOf_69 : decode cX2_isToldIfOf 69 = .ok (.ireturn, 1) := by decide +kernel
theorem dX2_mostOff_0 : decode cX2_mostOff 0 = .ok (.aload_n 0, 1) := by decide +kernel
theorem dX2_mostOff_1 : decode cX2_mostOff 1 = .ok (.invokevirtual 63, 3) := by decide +kernel
theorem dX2_mostOff_4 : decode cX2_mostOff 4 = .ok (.aload_n 0, 1) := by decide +kernel
theorem dX2_mostOff_5 : decode cX2_mostOff 5 = .ok (.invokevirtual 133, 3) := by decide +kernel
theorem dX2_mostOff_8 : decode cX2_mostOff 8 = .ok (.istore_n 2, 1) := by decide +kernel
theorem dX2_mostOff_9 : decode cX2_mostOff 9 = .ok (.iconst 0, 1) := by decide +kernel
theorem dX2_mostOff_10 : decode cX2_mostOff 10 = .ok (.istore_n 3, 1) := by decide +kernel
theorem dX2_mostOff_11 : decode cX2_mostOff 11 = .ok (.iload_n 3, 1) := by decide +kernel
theorem dX2_mostOff_12 : decode cX2_mostOff 12 = .ok (.iload_n 1, 1) := by decide +kernel
theorem dX2_mostOff_13 : decode cX2_mostOff 13 = .ok (.if_icmp .ge 23, 3) := by decide +kernel
theorem dX2_mostOff_16 : decode cX2_mostOff 16 = .ok (.aload_n 0, 1) := by decide +kernel
theorem dX2_mostOff_17 : decode cX2_mostOff 17 = .ok (.iconst (-1), 1) := by decide +kernel
theorem dX2_mostOff_18 : decode cX2_mostOff 18 = .ok (.invokevirtual 66, 3) := by decide +kernel
theorem dX2_mostOff_21 : decode cX2_mostOff 21 = .ok (.iload_n 2, 1) := by decide +kernel
theorem dX2_mostOff_22 : decode cX2_mostOff 22 = .ok (.aload_n 0, 1) := by decide +kernel
theorem dX2_mostOff_23 : decode cX2_mostOff 23 = .ok (.invokevirtual 133, 3) := by decide +kernel
theorem dX2_mostOff_26 : decode cX2_mostOff 26 = .ok (.invokestatic 136, 3) := by decide +kernel
theorem dX2_mostOff_29 : decode cX2_mostOff 29 = .ok (.istore_n 2, 1) := by decide +kernel
theorem dX2_mostOff_30 : decode cX2_mostOff 30 = .ok (.iinc 3 1, 3) := by decide +kernel
theorem dX2_mostOff_33 : decode cX2_mostOff 33 = .ok (.goto (-22), 3) := by decide +kernel
theorem dX2_mostOff_36 : decode cX2_mostOff 36 = .ok (.iload_n 2, 1) := by decide +kernel
theorem dX2_mostOff_37 : decode cX2_mostOff 37 = .ok (.ireturn, 1) := by decide +kernel
theorem dX2_mostOffThen_0 : decode cX2_mostOffThen 0 = .ok (.iconst 0, 1) := by decide +kernel
theorem dX2_mostOffThen_1 : decode cX2_mostOffThen 1 = .ok (.istore_n 1, 1) := by decide +kernel
theorem dX2_mostOffThen_2 : decode cX2_mostOffThen 2 = .ok (.iconst 0, 1) := by decide +kernel
theorem dX2_mostOffThen_3 : decode cX2_mostOffThen 3 = .ok (.istore_n 2, 1) := by decide +kernel
theorem dX2_mostOffThen_4 : decode cX2_mostOffThen 4 = .ok (.iload_n 2, 1) := by decide +kernel
theorem dX2_mostOffThen_5 : decode cX2_mostOffThen 5 = .ok (.aload_n 0, 1) := by decide +kernel
theorem dX2_mostOffThen_6 : decode cX2_mostOffThen 6 = .ok (.getfield 44, 3) := by decide +kernel
theorem dX2_mostOffThen_9 : decode cX2_mostOffThen 9 = .ok (.getfield 51, 3) := by decide +kernel
theorem dX2_mostOffThen_12 : decode cX2_mostOffThen 12 = .ok (.if_icmp .ge 28, 3) := by decide +kernel
theorem dX2_mostOffThen_15 : decode cX2_mostOffThen 15 = .ok (.iload_n 1, 1) := by decide +kernel
theorem dX2_mostOffThen_16 : decode cX2_mostOffThen 16 = .ok (.aload_n 0, 1) := by decide +kernel
theorem dX2_mostOffThen_17 : decode cX2_mostOffThen 17 = .ok (.getfield 44, 3) := by decide +kernel
theorem dX2_mostOffThen_20 : decode cX2_mostOffThen 20 = .ok (.iload_n 2, 1) := by decide +kernel
theorem dX2_mostOffThen_21 : decode cX2_mostOffThen 21 = .ok (.aload_n 0, 1) := by decide +kernel
theorem dX2_mostOffThen_22 : decode cX2_mostOffThen 22 = .ok (.getfield 9, 3) := by decide +kernel
theorem dX2_mostOffThen_25 : decode cX2_mostOffThen 25 = .ok (.iload_n 2, 1) := by decide +kernel
theorem dX2_mostOffThen_26 : decode cX2_mostOffThen 26 = .ok (.iaload, 1) := by decide +kernel
theorem dX2_mostOffThen_27 : decode cX2_mostOffThen 27 = .ok (.invokevirtual 59, 3) := by decide +kernel
theorem dX2_mostOffThen_30 : decode cX2_mostOffThen 30 = .ok (.invokestatic 136, 3) := by decide +kernel
theorem dX2_mostOffThen_33 : decode cX2_mostOffThen 33 = .ok (.istore_n 1, 1) := by decide +kernel
theorem dX2_mostOffThen_34 : decode cX2_mostOffThen 34 = .ok (.iinc 2 1, 3) := by decide +kernel
theorem dX2_mostOffThen_37 : decode cX2_mostOffThen 37 = .ok (.goto (-33), 3) := by decide +kernel
theorem dX2_mostOffThen_40 : decode cX2_mostOffThen 40 = .ok (.iload_n 1, 1) := by decide +kernel
theorem dX2_mostOffThen_41 : decode cX2_mostOffThen 41 = .ok (.ireturn, 1) := by decide +kernel
theorem dX2_fractionAlike_0 : decode cX2_fractionAlike 0 = .ok (.aload_n 0, 1) := by decide +kernel
theorem dX2_fractionAlike_1 : decode cX2_fractionAlike 1 = .ok (.iload_n 2, 1) := by decide +kernel
theorem dX2_fractionAlike_2 : decode cX2_fractionAlike 2 = .ok (.iload_n 3, 1) := by decide +kernel
theorem dX2_fractionAlike_3 : decode cX2_fractionAlike 3 = .ok (.invokevirtual 141, 3) := by decide +kernel
theorem dX2_fractionAlike_6 : decode cX2_fractionAlike 6 = .ok (.lconst 0, 1) := by decide +kernel
theorem dX2_fractionAlike_7 : decode cX2_fractionAlike 7 = .ok (.lstore 5, 2) := by decide +kernel
theorem dX2_fractionAlike_9 : decode cX2_fractionAlike 9 = .ok (.lconst 0, 1) := by decide +kernel
theorem dX2_fractionAlike_10 : decode cX2_fractionAlike 10 = .ok (.lstore 7, 2) := by decide +kernel
theorem dX2_fractionAlike_12 : decode cX2_fractionAlike 12 = .ok (.aload_n 0, 1) := by decide +kernel
theorem dX2_fractionAlike_13 : decode cX2_fractionAlike 13 = .ok (.getfield 44, 3) := by decide +kernel
theorem dX2_fractionAlike_16 : decode cX2_fractionAlike 16 = .ok (.getfield 54, 3) := by decide +kernel
theorem dX2_fractionAlike_19 : decode cX2_fractionAlike 19 = .ok (.iload_n 1, 1) := by decide +kernel
theorem dX2_fractionAlike_20 : decode cX2_fractionAlike 20 = .ok (.iaload, 1) := by decide +kernel
theorem dX2_fractionAlike_21 : decode cX2_fractionAlike 21 = .ok (.istore 9, 2) := by decide +kernel
theorem dX2_fractionAlike_23 : decode cX2_fractionAlike 23 = .ok (.iconst 0, 1) := by decide +kernel
theorem dX2_fractionAlike_24 : decode cX2_fractionAlike 24 = .ok (.istore 10, 2) := by decide +kernel
theorem dX2_fractionAlike_26 : decode cX2_fractionAlike 26 = .ok (.iload 10, 2) := by decide +kernel
theorem dX2_fractionAlike_28 : decode cX2_fractionAlike 28 = .ok (.iload_n 3, 1) := by decide +kernel
theorem dX2_fractionAlike_29 : decode cX2_fractionAlike 29 = .ok (.if_icmp .gt 76, 3) := by decide +kernel
theorem dX2_fractionAlike_32 : decode cX2_fractionAlike 32 = .ok (.lload 7, 2) := by decide +kernel
theorem dX2_fractionAlike_34 : decode cX2_fractionAlike 34 = .ok (.aload_n 0, 1) := by decide +kernel
theorem dX2_fractionAlike_35 : decode cX2_fractionAlike 35 = .ok (.getfield 40, 3) := by decide +kernel
theorem dX2_fractionAlike_38 : decode cX2_fractionAlike 38 = .ok (.iload 10, 2) := by decide +kernel
theorem dX2_fractionAlike_40 : decode cX2_fractionAlike 40 = .ok (.laload, 1) := by decide +kernel
theorem dX2_fractionAlike_41 : decode cX2_fractionAlike 41 = .ok (.ladd, 1) := by decide +kernel
theorem dX2_fractionAlike_42 : decode cX2_fractionAlike 42 = .ok (.lstore 7, 2) := by decide +kernel
theorem dX2_fractionAlike_44 : decode cX2_fractionAlike 44 = .ok (.lload 5, 2) := by decide +kernel
theorem dX2_fractionAlike_46 : decode cX2_fractionAlike 46 = .ok (.aload_n 0, 1) := by decide +kernel
theorem dX2_fractionAlike_47 : decode cX2_fractionAlike 47 = .ok (.getfield 44, 3) := by decide +kernel
theorem dX2_fractionAlike_50 : decode cX2_fractionAlike 50 = .ok (.iload_n 1, 1) := by decide +kernel
theorem dX2_fractionAlike_51 : decode cX2_fractionAlike 51 = .ok (.iload 9, 2) := by decide +kernel
theorem dX2_fractionAlike_53 : decode cX2_fractionAlike 53 = .ok (.invokevirtual 59, 3) := by decide +kernel
theorem dX2_fractionAlike_56 : decode cX2_fractionAlike 56 = .ok (.aload_n 0, 1) := by decide +kernel
theorem dX2_fractionAlike_57 : decode cX2_fractionAlike 57 = .ok (.getfield 44, 3) := by decide +kernel
theorem dX2_fractionAlike_60 : decode cX2_fractionAlike 60 = .ok (.getfield 82, 3) := by decide +kernel
theorem dX2_fractionAlike_63 : decode cX2_fractionAlike 63 = .ok (.if_icmp .gt 13, 3) := by decide +kernel
theorem dX2_fractionAlike_66 : decode cX2_fractionAlike 66 = .ok (.aload_n 0, 1) := by decide +kernel
theorem dX2_fractionAlike_67 : decode cX2_fractionAlike 67 = .ok (.getfield 40, 3) := by decide +kernel
theorem dX2_fractionAlike_70 : decode cX2_fractionAlike 70 = .ok (.iload 10, 2) := by decide +kernel
theorem dX2_fractionAlike_72 : decode cX2_fractionAlike 72 = .ok (.laload, 1) := by decide +kernel
theorem dX2_fractionAlike_73 : decode cX2_fractionAlike 73 = .ok (.goto 4, 3) := by decide +kernel
theorem dX2_fractionAlike_76 : decode cX2_fractionAlike 76 = .ok (.lconst 0, 1) := by decide +kernel
theorem dX2_fractionAlike_77 : decode cX2_fractionAlike 77 = .ok (.ladd, 1) := by decide +kernel
theorem dX2_fractionAlike_78 : decode cX2_fractionAlike 78 = .ok (.lstore 5, 2) := by decide +kernel
theorem dX2_fractionAlike_80 : decode cX2_fractionAlike 80 = .ok (.aload_n 0, 1) := by decide +kernel
theorem dX2_fractionAlike_81 : decode cX2_fractionAlike 81 = .ok (.getfield 44, 3) := by decide +kernel
theorem dX2_fractionAlike_84 : decode cX2_fractionAlike 84 = .ok (.iload_n 1, 1) := by decide +kernel
theorem dX2_fractionAlike_85 : decode cX2_fractionAlike 85 = .ok (.iload 9, 2) := by decide +kernel
theorem dX2_fractionAlike_87 : decode cX2_fractionAlike 87 = .ok (.aload_n 0, 1) := by decide +kernel
theorem dX2_fractionAlike_88 : decode cX2_fractionAlike 88 = .ok (.getfield 44, 3) := by decide +kernel
theorem dX2_fractionAlike_91 : decode cX2_fractionAlike 91 = .ok (.getfield 48, 3) := by decide +kernel
theorem dX2_fractionAlike_94 : decode cX2_fractionAlike 94 = .ok (.invokevirtual 55, 3) := by decide +kernel
theorem dX2_fractionAlike_97 : decode cX2_fractionAlike 97 = .ok (.istore 9, 2) := by decide +kernel
theorem dX2_fractionAlike_99 : decode cX2_fractionAlike 99 = .ok (.iinc 10 1, 3) := by decide +kernel
theorem dX2_fractionAlike_102 : decode cX2_fractionAlike 102 = .ok (.goto (-76), 3) := by decide +kernel
theorem dX2_fractionAlike_105 : decode cX2_fractionAlike 105 = .ok (.lload 5, 2) := by decide +kernel
theorem dX2_fractionAlike_107 : decode cX2_fractionAlike 107 = .ok (.lload 7, 2) := by decide +kernel
theorem dX2_fractionAlike_109 : decode cX2_fractionAlike 109 = .ok (.invokestatic 145, 3) := by decide +kernel
theorem dX2_fractionAlike_112 : decode cX2_fractionAlike 112 = .ok (.lstore 10, 2) := by decide +kernel
theorem dX2_fractionAlike_114 : decode cX2_fractionAlike 114 = .ok (.lload 10, 2) := by decide +kernel
theorem dX2_fractionAlike_116 : decode cX2_fractionAlike 116 = .ok (.lconst 0, 1) := by decide +kernel
theorem dX2_fractionAlike_117 : decode cX2_fractionAlike 117 = .ok (.lcmp, 1) := by decide +kernel
theorem dX2_fractionAlike_118 : decode cX2_fractionAlike 118 = .ok (.ifCond .ne 7, 3) := by decide +kernel
theorem dX2_fractionAlike_121 : decode cX2_fractionAlike 121 = .ok (.ldc2_w 149, 3) := by decide +kernel
theorem dX2_fractionAlike_124 : decode cX2_fractionAlike 124 = .ok (.lreturn, 1) := by decide +kernel
theorem dX2_fractionAlike_125 : decode cX2_fractionAlike 125 = .ok (.iload 4, 2) := by decide +kernel
theorem dX2_fractionAlike_127 : decode cX2_fractionAlike 127 = .ok (.ifCond .eq 11, 3) := by decide +kernel
theorem dX2_fractionAlike_130 : decode cX2_fractionAlike 130 = .ok (.lload 7, 2) := by decide +kernel
theorem dX2_fractionAlike_132 : decode cX2_fractionAlike 132 = .ok (.lload 10, 2) := by decide +kernel
theorem dX2_fractionAlike_134 : decode cX2_fractionAlike 134 = .ok (.ldiv, 1) := by decide +kernel
theorem dX2_fractionAlike_135 : decode cX2_fractionAlike 135 = .ok (.goto 8, 3) := by decide +kernel
theorem dX2_fractionAlike_138 : decode cX2_fractionAlike 138 = .ok (.lload 5, 2) := by decide +kernel
theorem dX2_fractionAlike_140 : decode cX2_fractionAlike 140 = .ok (.lload 10, 2) := by decide +kernel
theorem dX2_fractionAlike_142 : decode cX2_fractionAlike 142 = .ok (.ldiv, 1) := by decide +kernel
theorem dX2_fractionAlike_143 : decode cX2_fractionAlike 143 = .ok (.lreturn, 1) := by decide +kernel
theorem dX2_countWays_0 : decode cX2_countWays 0 = .ok (.iconst 0, 1) := by decide +kernel
theorem dX2_countWays_1 : decode cX2_countWays 1 = .ok (.istore_n 3, 1) := by decide +kernel
theorem dX2_countWays_2 : decode cX2_countWays 2 = .ok (.iload_n 3, 1) := by decide +kernel
theorem dX2_countWays_3 : decode cX2_countWays 3 = .ok (.bipush 9, 2) := by decide +kernel
theorem dX2_countWays_5 : decode cX2_countWays 5 = .ok (.if_icmp .gt 16, 3) := by decide +kernel
theorem dX2_countWays_8 : decode cX2_countWays 8 = .ok (.aload_n 0, 1) := by decide +kernel
theorem dX2_countWays_9 : decode cX2_countWays 9 = .ok (.getfield 40, 3) := by decide +kernel
theorem dX2_countWays_12 : decode cX2_countWays 12 = .ok (.iload_n 3, 1) := by decide +kernel
theorem dX2_countWays_13 : decode cX2_countWays 13 = .ok (.lconst 0, 1) := by decide +kernel
theorem dX2_countWays_14 : decode cX2_countWays 14 = .ok (.lastore, 1) := by decide +kernel
theorem dX2_countWays_15 : decode cX2_countWays 15 = .ok (.iinc 3 1, 3) := by decide +kernel
theorem dX2_countWays_18 : decode cX2_countWays 18 = .ok (.goto (-16), 3) := by decide +kernel
theorem dX2_countWays_21 : decode cX2_countWays 21 = .ok (.aload_n 0, 1) := by decide +kernel
theorem dX2_countWays_22 : decode cX2_countWays 22 = .ok (.getfield 40, 3) := by decide +kernel
theorem dX2_countWays_25 : decode cX2_countWays 25 = .ok (.iconst 0, 1) := by decide +kernel
theorem dX2_countWays_26 : decode cX2_countWays 26 = .ok (.lconst 1, 1) := by decide +kernel
theorem dX2_countWays_27 : decode cX2_countWays 27 = .ok (.lastore, 1) := by decide +kernel
theorem dX2_countWays_28 : decode cX2_countWays 28 = .ok (.iconst 1, 1) := by decide +kernel
theorem dX2_countWays_29 : decode cX2_countWays 29 = .ok (.istore_n 3, 1) := by decide +kernel
theorem dX2_countWays_30 : decode cX2_countWays 30 = .ok (.iload_n 3, 1) := by decide +kernel
theorem dX2_countWays_31 : decode cX2_countWays 31 = .ok (.iload_n 2, 1) := by decide +kernel
theorem dX2_countWays_32 : decode cX2_countWays 32 = .ok (.if_icmp .gt 71, 3) := by decide +kernel
theorem dX2_countWays_35 : decode cX2_countWays 35 = .ok (.iload_n 3, 1) := by decide +kernel
theorem dX2_countWays_36 : decode cX2_countWays 36 = .ok (.istore 4, 2) := by decide +kernel
theorem dX2_countWays_38 : decode cX2_countWays 38 = .ok (.iload 4, 2) := by decide +kernel
theorem dX2_countWays_40 : decode cX2_countWays 40 = .ok (.iconst 1, 1) := by decide +kernel
theorem dX2_countWays_41 : decode cX2_countWays 41 = .ok (.if_icmp .lt 42, 3) := by decide +kernel
theorem dX2_countWays_44 : decode cX2_countWays 44 = .ok (.aload_n 0, 1) := by decide +kernel
theorem dX2_countWays_45 : decode cX2_countWays 45 = .ok (.getfield 40, 3) := by decide +kernel
theorem dX2_countWays_48 : decode cX2_countWays 48 = .ok (.iload 4, 2) := by decide +kernel
theorem dX2_countWays_50 : decode cX2_countWays 50 = .ok (.aload_n 0, 1) := by decide +kernel
theorem dX2_countWays_51 : decode cX2_countWays 51 = .ok (.getfield 40, 3) := by decide +kernel
theorem dX2_countWays_54 : decode cX2_countWays 54 = .ok (.iload 4, 2) := by decide +kernel
theorem dX2_countWays_56 : decode cX2_countWays 56 = .ok (.laload, 1) := by decide +kernel
theorem dX2_countWays_57 : decode cX2_countWays 57 = .ok (.bipush 10, 2) := by decide +kernel
theorem dX2_countWays_59 : decode cX2_countWays 59 = .ok (.iload_n 1, 1) := by decide +kernel
theorem dX2_countWays_60 : decode cX2_countWays 60 = .ok (.isub, 1) := by decide +kernel
theorem dX2_countWays_61 : decode cX2_countWays 61 = .ok (.i2l, 1) := by decide +kernel
theorem dX2_countWays_62 : decode cX2_countWays 62 = .ok (.lmul, 1) := by decide +kernel
theorem dX2_countWays_63 : decode cX2_countWays 63 = .ok (.aload_n 0, 1) := by decide +kernel
theorem dX2_countWays_64 : decode cX2_countWays 64 = .ok (.getfield 40, 3) := by decide +kernel
theorem dX2_countWays_67 : decode cX2_countWays 67 = .ok (.iload 4, 2) := by decide +kernel
theorem dX2_countWays_69 : decode cX2_countWays 69 = .ok (.iconst 1, 1) := by decide +kernel
theorem dX2_countWays_70 : decode cX2_countWays 70 = .ok (.isub, 1) := by decide +kernel
theorem dX2_countWays_71 : decode cX2_countWays 71 = .ok (.laload, 1) := by decide +kernel
theorem dX2_countWays_72 : decode cX2_countWays 72 = .ok (.iload_n 1, 1) := by decide +kernel
theorem dX2_countWays_73 : decode cX2_countWays 73 = .ok (.i2l, 1) := by decide +kernel
theorem dX2_countWays_74 : decode cX2_countWays 74 = .ok (.lmul, 1) := by decide +kernel
theorem dX2_countWays_75 : decode cX2_countWays 75 = .ok (.ladd, 1) := by decide +kernel
theorem dX2_countWays_76 : decode cX2_countWays 76 = .ok (.lastore, 1) := by decide +kernel
theorem dX2_countWays_77 : decode cX2_countWays 77 = .ok (.iinc 4 (-1), 3) := by decide +kernel
theorem dX2_countWays_80 : decode cX2_countWays 80 = .ok (.goto (-42), 3) := by decide +kernel
theorem dX2_countWays_83 : decode cX2_countWays 83 = .ok (.aload_n 0, 1) := by decide +kernel
theorem dX2_countWays_84 : decode cX2_countWays 84 = .ok (.getfield 40, 3) := by decide +kernel
theorem dX2_countWays_87 : decode cX2_countWays 87 = .ok (.iconst 0, 1) := by decide +kernel
theorem dX2_countWays_88 : decode cX2_countWays 88 = .ok (.dup2, 1) := by decide +kernel
theorem dX2_countWays_89 : decode cX2_countWays 89 = .ok (.laload, 1) := by decide +kernel
theorem dX2_countWays_90 : decode cX2_countWays 90 = .ok (.bipush 10, 2) := by decide +kernel
theorem dX2_countWays_92 : decode cX2_countWays 92 = .ok (.iload_n 1, 1) := by decide +kernel
theorem dX2_countWays_93 : decode cX2_countWays 93 = .ok (.isub, 1) := by decide +kernel
theorem dX2_countWays_94 : decode cX2_countWays 94 = .ok (.i2l, 1) := by decide +kernel
theorem dX2_countWays_95 : decode cX2_countWays 95 = .ok (.lmul, 1) := by decide +kernel
theorem dX2_countWays_96 : decode cX2_countWays 96 = .ok (.lastore, 1) := by decide +kernel
theorem dX2_countWays_97 : decode cX2_countWays 97 = .ok (.iinc 3 1, 3) := by decide +kernel
theorem dX2_countWays_100 : decode cX2_countWays 100 = .ok (.goto (-70), 3) := by decide +kernel
theorem dX2_countWays_103 : decode cX2_countWays 103 = .ok (.return_, 1) := by decide +kernel
theorem dX2_greatestDivisor_0 : decode cX2_greatestDivisor 0 = .ok (.lload_n 2, 1) := by decide +kernel
theorem dX2_greatestDivisor_1 : decode cX2_greatestDivisor 1 = .ok (.lstore 4, 2) := by decide +kernel
theorem dX2_greatestDivisor_3 : decode cX2_greatestDivisor 3 = .ok (.lload_n 0, 1) := by decide +kernel
theorem dX2_greatestDivisor_4 : decode cX2_greatestDivisor 4 = .ok (.lstore 6, 2) := by decide +kernel
theorem dX2_greatestDivisor_6 : decode cX2_greatestDivisor 6 = .ok (.iconst 0, 1) := by decide +kernel
theorem dX2_greatestDivisor_7 : decode cX2_greatestDivisor 7 = .ok (.istore 8, 2) := by decide +kernel
theorem dX2_greatestDivisor_9 : decode cX2_greatestDivisor 9 = .ok (.iload 8, 2) := by decide +kernel
theorem dX2_greatestDivisor_11 : decode cX2_greatestDivisor 11 = .ok (.sipush 1000, 3) := by decide +kernel
theorem dX2_greatestDivisor_14 : decode cX2_greatestDivisor 14 = .ok (.if_icmp .ge 31, 3) := by decide +kernel
theorem dX2_greatestDivisor_17 : decode cX2_greatestDivisor 17 = .ok (.lload 6, 2) := by decide +kernel
theorem dX2_greatestDivisor_19 : decode cX2_greatestDivisor 19 = .ok (.lconst 0, 1) := by decide +kernel
theorem dX2_greatestDivisor_20 : decode cX2_greatestDivisor 20 = .ok (.lcmp, 1) := by decide +kernel
theorem dX2_greatestDivisor_21 : decode cX2_greatestDivisor 21 = .ok (.ifCond .eq 24, 3) := by decide +kernel
theorem dX2_greatestDivisor_24 : decode cX2_greatestDivisor 24 = .ok (.lload 4, 2) := by decide +kernel
theorem dX2_greatestDivisor_26 : decode cX2_greatestDivisor 26 = .ok (.lload 6, 2) := by decide +kernel
theorem dX2_greatestDivisor_28 : decode cX2_greatestDivisor 28 = .ok (.lrem, 1) := by decide +kernel
theorem dX2_greatestDivisor_29 : decode cX2_greatestDivisor 29 = .ok (.lstore 9, 2) := by decide +kernel
theorem dX2_greatestDivisor_31 : decode cX2_greatestDivisor 31 = .ok (.lload 6, 2) := by decide +kernel
theorem dX2_greatestDivisor_33 : decode cX2_greatestDivisor 33 = .ok (.lstore 4, 2) := by decide +kernel
theorem dX2_greatestDivisor_35 : decode cX2_greatestDivisor 35 = .ok (.lload 9, 2) := by decide +kernel
theorem dX2_greatestDivisor_37 : decode cX2_greatestDivisor 37 = .ok (.lstore 6, 2) := by decide +kernel
theorem dX2_greatestDivisor_39 : decode cX2_greatestDivisor 39 = .ok (.iinc 8 1, 3) := by decide +kernel
theorem dX2_greatestDivisor_42 : decode cX2_greatestDivisor 42 = .ok (.goto (-33), 3) := by decide +kernel
theorem dX2_greatestDivisor_45 : decode cX2_greatestDivisor 45 = .ok (.lload 4, 2) := by decide +kernel
theorem dX2_greatestDivisor_47 : decode cX2_greatestDivisor 47 = .ok (.lreturn, 1) := by decide +kernel
theorem dX2_pricesOfLeaves_0 : decode cX2_pricesOfLeaves 0 = .ok (.aload_n 0, 1) := by decide +kernel
theorem dX2_pricesOfLeaves_1 : decode cX2_pricesOfLeaves 1 = .ok (.invokevirtual 63, 3) := by decide +kernel
theorem dX2_pricesOfLeaves_4 : decode cX2_pricesOfLeaves 4 = .ok (.iconst 0, 1) := by decide +kernel
theorem dX2_pricesOfLeaves_5 : decode cX2_pricesOfLeaves 5 = .ok (.istore_n 2, 1) := by decide +kernel
theorem dX2_pricesOfLeaves_6 : decode cX2_pricesOfLeaves 6 = .ok (.iconst 0, 1) := by decide +kernel
theorem dX2_pricesOfLeaves_7 : decode cX2_pricesOfLeaves 7 = .ok (.istore_n 3, 1) := by decide +kernel
theorem dX2_pricesOfLeaves_8 : decode cX2_pricesOfLeaves 8 = .ok (.iload_n 3, 1) := by decide +kernel
theorem dX2_pricesOfLeaves_9 : decode cX2_pricesOfLeaves 9 = .ok (.iload_n 1, 1) := by decide +kernel
theorem dX2_pricesOfLeaves_10 : decode cX2_pricesOfLeaves 10 = .ok (.if_icmp .ge 21, 3) := by decide +kernel
theorem dX2_pricesOfLeaves_13 : decode cX2_pricesOfLeaves 13 = .ok (.aload_n 0, 1) := by decide +kernel
theorem dX2_pricesOfLeaves_14 : decode cX2_pricesOfLeaves 14 = .ok (.iconst (-1), 1) := by decide +kernel
theorem dX2_pricesOfLeaves_15 : decode cX2_pricesOfLeaves 15 = .ok (.invokevirtual 66, 3) := by decide +kernel
theorem dX2_pricesOfLeaves_18 : decode cX2_pricesOfLeaves 18 = .ok (.iload_n 2, 1) := by decide +kernel
theorem dX2_pricesOfLeaves_19 : decode cX2_pricesOfLeaves 19 = .ok (.aload_n 0, 1) := by decide +kernel
theorem dX2_pricesOfLeaves_20 : decode cX2_pricesOfLeaves 20 = .ok (.invokevirtual 151, 3) := by decide +kernel
theorem dX2_pricesOfLeaves_23 : decode cX2_pricesOfLeaves 23 = .ok (.iadd, 1) := by decide +kernel
theorem dX2_pricesOfLeaves_24 : decode cX2_pricesOfLeaves 24 = .ok (.istore_n 2, 1) := by decide +kernel
theorem dX2_pricesOfLeaves_25 : decode cX2_pricesOfLeaves 25 = .ok (.iinc 3 1, 3) := by decide +kernel
theorem dX2_pricesOfLeaves_28 : decode cX2_pricesOfLeaves 28 = .ok (.goto (-20), 3) := by decide +kernel
theorem dX2_pricesOfLeaves_31 : decode cX2_pricesOfLeaves 31 = .ok (.iload_n 2, 1) := by decide +kernel
theorem dX2_pricesOfLeaves_32 : decode cX2_pricesOfLeaves 32 = .ok (.ireturn, 1) := by decide +kernel
theorem dX2_pricesOfFallen_0 : decode cX2_pricesOfFallen 0 = .ok (.iconst 0, 1) := by decide +kernel
theorem dX2_pricesOfFallen_1 : decode cX2_pricesOfFallen 1 = .ok (.istore_n 1, 1) := by decide +kernel
theorem dX2_pricesOfFallen_2 : decode cX2_pricesOfFallen 2 = .ok (.iconst 0, 1) := by decide +kernel
theorem dX2_pricesOfFallen_3 : decode cX2_pricesOfFallen 3 = .ok (.istore_n 2, 1) := by decide +kernel
theorem dX2_pricesOfFallen_4 : decode cX2_pricesOfFallen 4 = .ok (.iload_n 2, 1) := by decide +kernel
theorem dX2_pricesOfFallen_5 : decode cX2_pricesOfFallen 5 = .ok (.aload_n 0, 1) := by decide +kernel
theorem dX2_pricesOfFallen_6 : decode cX2_pricesOfFallen 6 = .ok (.getfield 44, 3) := by decide +kernel
theorem dX2_pricesOfFallen_9 : decode cX2_pricesOfFallen 9 = .ok (.getfield 51, 3) := by decide +kernel
theorem dX2_pricesOfFallen_12 : decode cX2_pricesOfFallen 12 = .ok (.if_icmp .ge 77, 3) := by decide +kernel
theorem dX2_pricesOfFallen_15 : decode cX2_pricesOfFallen 15 = .ok (.aload_n 0, 1) := by decide +kernel
theorem dX2_pricesOfFallen_16 : decode cX2_pricesOfFallen 16 = .ok (.getfield 44, 3) := by decide +kernel
theorem dX2_pricesOfFallen_19 : decode cX2_pricesOfFallen 19 = .ok (.iload_n 2, 1) := by decide +kernel
theorem dX2_pricesOfFallen_20 : decode cX2_pricesOfFallen 20 = .ok (.aload_n 0, 1) := by decide +kernel
theorem dX2_pricesOfFallen_21 : decode cX2_pricesOfFallen 21 = .ok (.getfield 9, 3) := by decide +kernel
theorem dX2_pricesOfFallen_24 : decode cX2_pricesOfFallen 24 = .ok (.iload_n 2, 1) := by decide +kernel
theorem dX2_pricesOfFallen_25 : decode cX2_pricesOfFallen 25 = .ok (.iaload, 1) := by decide +kernel
theorem dX2_pricesOfFallen_26 : decode cX2_pricesOfFallen 26 = .ok (.invokevirtual 59, 3) := by decide +kernel
theorem dX2_pricesOfFallen_29 : decode cX2_pricesOfFallen 29 = .ok (.istore_n 3, 1) := by decide +kernel
theorem dX2_pricesOfFallen_30 : decode cX2_pricesOfFallen 30 = .ok (.aload_n 0, 1) := by decide +kernel
theorem dX2_pricesOfFallen_31 : decode cX2_pricesOfFallen 31 = .ok (.getfield 44, 3) := by decide +kernel
theorem dX2_pricesOfFallen_34 : decode cX2_pricesOfFallen 34 = .ok (.getfield 154, 3) := by decide +kernel
theorem dX2_pricesOfFallen_37 : decode cX2_pricesOfFallen 37 = .ok (.iload_n 2, 1) := by decide +kernel
theorem dX2_pricesOfFallen_38 : decode cX2_pricesOfFallen 38 = .ok (.iaload, 1) := by decide +kernel
theorem dX2_pricesOfFallen_39 : decode cX2_pricesOfFallen 39 = .ok (.iconst 2, 1) := by decide +kernel
theorem dX2_pricesOfFallen_40 : decode cX2_pricesOfFallen 40 = .ok (.if_icmp .ne 43, 3) := by decide +kernel
theorem dX2_pricesOfFallen_43 : decode cX2_pricesOfFallen 43 = .ok (.iload_n 3, 1) := by decide +kernel
theorem dX2_pricesOfFallen_44 : decode cX2_pricesOfFallen 44 = .ok (.aload_n 0, 1) := by decide +kernel
theorem dX2_pricesOfFallen_45 : decode cX2_pricesOfFallen 45 = .ok (.getfield 44, 3) := by decide +kernel
theorem dX2_pricesOfFallen_48 : decode cX2_pricesOfFallen 48 = .ok (.getfield 82, 3) := by decide +kernel
theorem dX2_pricesOfFallen_51 : decode cX2_pricesOfFallen 51 = .ok (.if_icmp .le 32, 3) := by decide +kernel
theorem dX2_pricesOfFallen_54 : decode cX2_pricesOfFallen 54 = .ok (.iload_n 1, 1) := by decide +kernel
theorem dX2_pricesOfFallen_55 : decode cX2_pricesOfFallen 55 = .ok (.aload_n 0, 1) := by decide +kernel
theorem dX2_pricesOfFallen_56 : decode cX2_pricesOfFallen 56 = .ok (.getfield 44, 3) := by decide +kernel
theorem dX2_pricesOfFallen_59 : decode cX2_pricesOfFallen 59 = .ok (.getfield 157, 3) := by decide +kernel
theorem dX2_pricesOfFallen_62 : decode cX2_pricesOfFallen 62 = .ok (.iload_n 2, 1) := by decide +kernel
theorem dX2_pricesOfFallen_63 : decode cX2_pricesOfFallen 63 = .ok (.iaload, 1) := by decide +kernel
theorem dX2_pricesOfFallen_64 : decode cX2_pricesOfFallen 64 = .ok (.iload_n 3, 1) := by decide +kernel
theorem dX2_pricesOfFallen_65 : decode cX2_pricesOfFallen 65 = .ok (.imul, 1) := by decide +kernel
theorem dX2_pricesOfFallen_66 : decode cX2_pricesOfFallen 66 = .ok (.iadd, 1) := by decide +kernel
theorem dX2_pricesOfFallen_67 : decode cX2_pricesOfFallen 67 = .ok (.istore_n 1, 1) := by decide +kernel
theorem dX2_pricesOfFallen_68 : decode cX2_pricesOfFallen 68 = .ok (.aload_n 0, 1) := by decide +kernel
theorem dX2_pricesOfFallen_69 : decode cX2_pricesOfFallen 69 = .ok (.getfield 9, 3) := by decide +kernel
theorem dX2_pricesOfFallen_72 : decode cX2_pricesOfFallen 72 = .ok (.iload_n 2, 1) := by decide +kernel
theorem dX2_pricesOfFallen_73 : decode cX2_pricesOfFallen 73 = .ok (.aload_n 0, 1) := by decide +kernel
theorem dX2_pricesOfFallen_74 : decode cX2_pricesOfFallen 74 = .ok (.getfield 44, 3) := by decide +kernel
theorem dX2_pricesOfFallen_77 : decode cX2_pricesOfFallen 77 = .ok (.getfield 90, 3) := by decide +kernel
theorem dX2_pricesOfFallen_80 : decode cX2_pricesOfFallen 80 = .ok (.iload_n 2, 1) := by decide +kernel
theorem dX2_pricesOfFallen_81 : decode cX2_pricesOfFallen 81 = .ok (.iaload, 1) := by decide +kernel
theorem dX2_pricesOfFallen_82 : decode cX2_pricesOfFallen 82 = .ok (.iastore, 1) := by decide +kernel
theorem dX2_pricesOfFallen_83 : decode cX2_pricesOfFallen 83 = .ok (.iinc 2 1, 3) := by decide +kernel
theorem dX2_pricesOfFallen_86 : decode cX2_pricesOfFallen 86 = .ok (.goto (-82), 3) := by decide +kernel
theorem dX2_pricesOfFallen_89 : decode cX2_pricesOfFallen 89 = .ok (.iload_n 1, 1) := by decide +kernel
theorem dX2_pricesOfFallen_90 : decode cX2_pricesOfFallen 90 = .ok (.ireturn, 1) := by decide +kernel
theorem dX2_costByDraws_0 : decode cX2_costByDraws 0 = .ok (.aload_n 0, 1) := by decide +kernel
theorem dX2_costByDraws_1 : decode cX2_costByDraws 1 = .ok (.invokevirtual 63, 3) := by decide +kernel
theorem dX2_costByDraws_4 : decode cX2_costByDraws 4 = .ok (.iconst 0, 1) := by decide +kernel
theorem dX2_costByDraws_5 : decode cX2_costByDraws 5 = .ok (.istore_n 3, 1) := by decide +kernel
theorem dX2_costByDraws_6 : decode cX2_costByDraws 6 = .ok (.iload_n 2, 1) := by decide +kernel
theorem dX2_costByDraws_7 : decode cX2_costByDraws 7 = .ok (.i2l, 1) := by decide +kernel
theorem dX2_costByDraws_8 : decode cX2_costByDraws 8 = .ok (.lstore 4, 2) := by decide +kernel
theorem dX2_costByDraws_10 : decode cX2_costByDraws 10 = .ok (.iconst 0, 1) := by decide +kernel
theorem dX2_costByDraws_11 : decode cX2_costByDraws 11 = .ok (.istore 6, 2) := by decide +kernel
theorem dX2_costByDraws_13 : decode cX2_costByDraws 13 = .ok (.iload 6, 2) := by decide +kernel
theorem dX2_costByDraws_15 : decode cX2_costByDraws 15 = .ok (.iload_n 1, 1) := by decide +kernel
theorem dX2_costByDraws_16 : decode cX2_costByDraws 16 = .ok (.if_icmp .ge 35, 3) := by decide +kernel
theorem dX2_costByDraws_19 : decode cX2_costByDraws 19 = .ok (.lload 4, 2) := by decide +kernel
theorem dX2_costByDraws_21 : decode cX2_costByDraws 21 = .ok (.ldc2_w 160, 3) := by decide +kernel
theorem dX2_costByDraws_24 : decode cX2_costByDraws 24 = .ok (.lmul, 1) := by decide +kernel
theorem dX2_costByDraws_25 : decode cX2_costByDraws 25 = .ok (.ldc2_w 162, 3) := by decide +kernel
theorem dX2_costByDraws_28 : decode cX2_costByDraws 28 = .ok (.lrem, 1) := by decide +kernel
theorem dX2_costByDraws_29 : decode cX2_costByDraws 29 = .ok (.lstore 4, 2) := by decide +kernel
theorem dX2_costByDraws_31 : decode cX2_costByDraws 31 = .ok (.iload_n 3, 1) := by decide +kernel
theorem dX2_costByDraws_32 : decode cX2_costByDraws 32 = .ok (.aload_n 0, 1) := by decide +kernel
theorem dX2_costByDraws_33 : decode cX2_costByDraws 33 = .ok (.lload 4, 2) := by decide +kernel
theorem dX2_costByDraws_35 : decode cX2_costByDraws 35 = .ok (.invokevirtual 164, 3) := by decide +kernel
theorem dX2_costByDraws_38 : decode cX2_costByDraws 38 = .ok (.iadd, 1) := by decide +kernel
theorem dX2_costByDraws_39 : decode cX2_costByDraws 39 = .ok (.istore_n 3, 1) := by decide +kernel
theorem dX2_costByDraws_40 : decode cX2_costByDraws 40 = .ok (.aload_n 0, 1) := by decide +kernel
theorem dX2_costByDraws_41 : decode cX2_costByDraws 41 = .ok (.iconst (-1), 1) := by decide +kernel
theorem dX2_costByDraws_42 : decode cX2_costByDraws 42 = .ok (.invokevirtual 66, 3) := by decide +kernel
theorem dX2_costByDraws_45 : decode cX2_costByDraws 45 = .ok (.iinc 6 1, 3) := by decide +kernel
theorem dX2_costByDraws_48 : decode cX2_costByDraws 48 = .ok (.goto (-35), 3) := by decide +kernel
theorem dX2_costByDraws_51 : decode cX2_costByDraws 51 = .ok (.iload_n 3, 1) := by decide +kernel
theorem dX2_costByDraws_52 : decode cX2_costByDraws 52 = .ok (.ireturn, 1) := by decide +kernel
theorem dX2_putBackDrawn_0 : decode cX2_putBackDrawn 0 = .ok (.aload_n 0, 1) := by decide +kernel
theorem dX2_putBackDrawn_1 : decode cX2_putBackDrawn 1 = .ok (.getfield 44, 3) := by decide +kernel
theorem dX2_putBackDrawn_4 : decode cX2_putBackDrawn 4 = .ok (.getfield 51, 3) := by decide +kernel
theorem dX2_putBackDrawn_7 : decode cX2_putBackDrawn 7 = .ok (.ifCond .ne 5, 3) := by decide +kernel
theorem dX2_putBackDrawn_10 : decode cX2_putBackDrawn 10 = .ok (.iconst 0, 1) := by decide +kernel
theorem dX2_putBackDrawn_11 : decode cX2_putBackDrawn 11 = .ok (.ireturn, 1) := by decide +kernel
theorem dX2_putBackDrawn_12 : decode cX2_putBackDrawn 12 = .ok (.lload_n 1, 1) := by decide +kernel
theorem dX2_putBackDrawn_13 : decode cX2_putBackDrawn 13 = .ok (.aload_n 0, 1) := by decide +kernel
theorem dX2_putBackDrawn_14 : decode cX2_putBackDrawn 14 = .ok (.getfield 44, 3) := by decide +kernel
theorem dX2_putBackDrawn_17 : decode cX2_putBackDrawn 17 = .ok (.getfield 51, 3) := by decide +kernel
theorem dX2_putBackDrawn_20 : decode cX2_putBackDrawn 20 = .ok (.i2l, 1) := by decide +kernel
theorem dX2_putBackDrawn_21 : decode cX2_putBackDrawn 21 = .ok (.lrem, 1) := by decide +kernel
theorem dX2_putBackDrawn_22 : decode cX2_putBackDrawn 22 = .ok (.l2i, 1) := by decide +kernel
theorem dX2_putBackDrawn_23 : decode cX2_putBackDrawn 23 = .ok (.istore_n 3, 1) := by decide +kernel
theorem dX2_putBackDrawn_24 : decode cX2_putBackDrawn 24 = .ok (.aload_n 0, 1) := by decide +kernel
theorem dX2_putBackDrawn_25 : decode cX2_putBackDrawn 25 = .ok (.getfield 44, 3) := by decide +kernel
theorem dX2_putBackDrawn_28 : decode cX2_putBackDrawn 28 = .ok (.iload_n 3, 1) := by decide +kernel
theorem dX2_putBackDrawn_29 : decode cX2_putBackDrawn 29 = .ok (.invokevirtual 168, 3) := by decide +kernel
theorem dX2_putBackDrawn_32 : decode cX2_putBackDrawn 32 = .ok (.ifCond .eq 31, 3) := by decide +kernel
theorem dX2_putBackDrawn_35 : decode cX2_putBackDrawn 35 = .ok (.aload_n 0, 1) := by decide +kernel
theorem dX2_putBackDrawn_36 : decode cX2_putBackDrawn 36 = .ok (.getfield 44, 3) := by decide +kernel
theorem dX2_putBackDrawn_39 : decode cX2_putBackDrawn 39 = .ok (.iload_n 3, 1) := by decide +kernel
theorem dX2_putBackDrawn_40 : decode cX2_putBackDrawn 40 = .ok (.invokevirtual 78, 3) := by decide +kernel
theorem dX2_putBackDrawn_43 : decode cX2_putBackDrawn 43 = .ok (.ifCond .ne 20, 3) := by decide +kernel
theorem dX2_putBackDrawn_46 : decode cX2_putBackDrawn 46 = .ok (.aload_n 0, 1) := by decide +kernel
theorem dX2_putBackDrawn_47 : decode cX2_putBackDrawn 47 = .ok (.getfield 44, 3) := by decide +kernel
theorem dX2_putBackDrawn_50 : decode cX2_putBackDrawn 50 = .ok (.iload_n 3, 1) := by decide +kernel
theorem dX2_putBackDrawn_51 : decode cX2_putBackDrawn 51 = .ok (.aload_n 0, 1) := by decide +kernel
theorem dX2_putBackDrawn_52 : decode cX2_putBackDrawn 52 = .ok (.getfield 9, 3) := by decide +kernel
theorem dX2_putBackDrawn_55 : decode cX2_putBackDrawn 55 = .ok (.iload_n 3, 1) := by decide +kernel
theorem dX2_putBackDrawn_56 : decode cX2_putBackDrawn 56 = .ok (.iaload, 1) := by decide +kernel
theorem dX2_putBackDrawn_57 : decode cX2_putBackDrawn 57 = .ok (.invokevirtual 59, 3) := by decide +kernel
theorem dX2_putBackDrawn_60 : decode cX2_putBackDrawn 60 = .ok (.ifCond .ne 5, 3) := by decide +kernel
theorem dX2_putBackDrawn_63 : decode cX2_putBackDrawn 63 = .ok (.iconst 0, 1) := by decide +kernel
theorem dX2_putBackDrawn_64 : decode cX2_putBackDrawn 64 = .ok (.ireturn, 1) := by decide +kernel
theorem dX2_putBackDrawn_65 : decode cX2_putBackDrawn 65 = .ok (.aload_n 0, 1) := by decide +kernel
theorem dX2_putBackDrawn_66 : decode cX2_putBackDrawn 66 = .ok (.getfield 44, 3) := by decide +kernel
theorem dX2_putBackDrawn_69 : decode cX2_putBackDrawn 69 = .ok (.iload_n 3, 1) := by decide +kernel
theorem dX2_putBackDrawn_70 : decode cX2_putBackDrawn 70 = .ok (.aload_n 0, 1) := by decide +kernel
theorem dX2_putBackDrawn_71 : decode cX2_putBackDrawn 71 = .ok (.getfield 9, 3) := by decide +kernel
theorem dX2_putBackDrawn_74 : decode cX2_putBackDrawn 74 = .ok (.iload_n 3, 1) := by decide +kernel
theorem dX2_putBackDrawn_75 : decode cX2_putBackDrawn 75 = .ok (.iaload, 1) := by decide +kernel
theorem dX2_putBackDrawn_76 : decode cX2_putBackDrawn 76 = .ok (.invokevirtual 93, 3) := by decide +kernel
theorem dX2_putBackDrawn_79 : decode cX2_putBackDrawn 79 = .ok (.istore 4, 2) := by decide +kernel
theorem dX2_putBackDrawn_81 : decode cX2_putBackDrawn 81 = .ok (.aload_n 0, 1) := by decide +kernel
theorem dX2_putBackDrawn_82 : decode cX2_putBackDrawn 82 = .ok (.getfield 9, 3) := by decide +kernel
theorem dX2_putBackDrawn_85 : decode cX2_putBackDrawn 85 = .ok (.iload_n 3, 1) := by decide +kernel
theorem dX2_putBackDrawn_86 : decode cX2_putBackDrawn 86 = .ok (.aload_n 0, 1) := by decide +kernel
theorem dX2_putBackDrawn_87 : decode cX2_putBackDrawn 87 = .ok (.getfield 44, 3) := by decide +kernel
theorem dX2_putBackDrawn_90 : decode cX2_putBackDrawn 90 = .ok (.getfield 90, 3) := by decide +kernel
theorem dX2_putBackDrawn_93 : decode cX2_putBackDrawn 93 = .ok (.iload_n 3, 1) := by decide +kernel
theorem dX2_putBackDrawn_94 : decode cX2_putBackDrawn 94 = .ok (.iaload, 1) := by decide +kernel
theorem dX2_putBackDrawn_95 : decode cX2_putBackDrawn 95 = .ok (.iastore, 1) := by decide +kernel
theorem dX2_putBackDrawn_96 : decode cX2_putBackDrawn 96 = .ok (.iload 4, 2) := by decide +kernel
theorem dX2_putBackDrawn_98 : decode cX2_putBackDrawn 98 = .ok (.ireturn, 1) := by decide +kernel
theorem dX3_init_0 : decode cX3_init 0 = .ok (.aload_n 0, 1) := by decide +kernel
theorem dX3_init_1 : decode cX3_init 1 = .ok (.invokespecial 3, 3) := by decide +kernel
theorem dX3_init_4 : decode cX3_init 4 = .ok (.aload_n 0, 1) := by decide +kernel
theorem dX3_init_5 : decode cX3_init 5 = .ok (.iconst 0, 1) := by decide +kernel
theorem dX3_init_6 : decode cX3_init 6 = .ok (.putfield 9, 3) := by decide +kernel
theorem dX3_init_9 : decode cX3_init 9 = .ok (.aload_n 0, 1) := by decide +kernel
theorem dX3_init_10 : decode cX3_init 10 = .ok (.iconst 0, 1) := by decide +kernel
theorem dX3_init_11 : decode cX3_init 11 = .ok (.putfield 15, 3) := by decide +kernel
theorem dX3_init_14 : decode cX3_init 14 = .ok (.aload_n 0, 1) := by decide +kernel
theorem dX3_init_15 : decode cX3_init 15 = .ok (.iconst 0, 1) := by decide +kernel
theorem dX3_init_16 : decode cX3_init 16 = .ok (.putfield 18, 3) := by decide +kernel
theorem dX3_init_19 : decode cX3_init 19 = .ok (.aload_n 0, 1) := by decide +kernel
theorem dX3_init_20 : decode cX3_init 20 = .ok (.iconst 0, 1) := by decide +kernel
theorem dX3_init_21 : decode cX3_init 21 = .ok (.putfield 21, 3) := by decide +kernel
theorem dX3_init_24 : decode cX3_init 24 = .ok (.aload_n 0, 1) := by decide +kernel
theorem dX3_init_25 : decode cX3_init 25 = .ok (.iconst 0, 1) := by decide +kernel
theorem dX3_init_26 : decode cX3_init 26 = .ok (.putfield 24, 3) := by decide +kernel
theorem dX3_init_29 : decode cX3_init 29 = .ok (.aload_n 0, 1) := by decide +kernel
theorem dX3_init_30 : decode cX3_init 30 = .ok (.bipush 6, 2) := by decide +kernel
theorem dX3_init_32 : decode cX3_init 32 = .ok (.newarray .int, 2) := by decide +kernel
theorem dX3_init_34 : decode cX3_init 34 = .ok (.putfield 27, 3) := by decide +kernel
theorem dX3_init_37 : decode cX3_init 37 = .ok (.aload_n 0, 1) := by decide +kernel
theorem dX3_init_38 : decode cX3_init 38 = .ok (.bipush 6, 2) := by decide +kernel
theorem dX3_init_40 : decode cX3_init 40 = .ok (.newarray .int, 2) := by decide +kernel
theorem dX3_init_42 : decode cX3_init 42 = .ok (.putfield 31, 3) := by decide +kernel
theorem dX3_init_45 : decode cX3_init 45 = .ok (.aload_n 0, 1) := by decide +kernel
theorem dX3_init_46 : decode cX3_init 46 = .ok (.bipush 6, 2) := by decide +kernel
theorem dX3_init_48 : decode cX3_init 48 = .ok (.newarray .int, 2) := by decide +kernel
theorem dX3_init_50 : decode cX3_init 50 = .ok (.putfield 34, 3) := by decide +kernel
theorem dX3_init_53 : decode cX3_init 53 = .ok (.aload_n 0, 1) := by decide +kernel
theorem dX3_init_54 : decode cX3_init 54 = .ok (.bipush 6, 2) := by decide +kernel
theorem dX3_init_56 : decode cX3_init 56 = .ok (.newarray .int, 2) := by decide +kernel
theorem dX3_init_58 : decode cX3_init 58 = .ok (.putfield 37, 3) := by decide +kernel
theorem dX3_init_61 : decode cX3_init 61 = .ok (.aload_n 0, 1) := by decide +kernel
theorem dX3_init_62 : decode cX3_init 62 = .ok (.bipush 6, 2) := by decide +kernel
theorem dX3_init_64 : decode cX3_init 64 = .ok (.newarray .int, 2) := by decide +kernel
theorem dX3_init_66 : decode cX3_init 66 = .ok (.putfield 40, 3) := by decide +kernel
theorem dX3_init_69 : decode cX3_init 69 = .ok (.aload_n 0, 1) := by decide +kernel
theorem dX3_init_70 : decode cX3_init 70 = .ok (.bipush 6, 2) := by decide +kernel
theorem dX3_init_72 : decode cX3_init 72 = .ok (.newarray .int, 2) := by decide +kernel
theorem dX3_init_74 : decode cX3_init 74 = .ok (.putfield 43, 3) := by decide +kernel
theorem dX3_init_77 : decode cX3_init 77 = .ok (.return_, 1) := by decide +kernel
theorem dX3_takeAll_0 : decode cX3_takeAll 0 = .ok (.aload_n 0, 1) := by decide +kernel
theorem dX3_takeAll_1 : decode cX3_takeAll 1 = .ok (.aload_n 1, 1) := by decide +kernel
theorem dX3_takeAll_2 : decode cX3_takeAll 2 = .ok (.getfield 9, 3) := by decide +kernel
theorem dX3_takeAll_5 : decode cX3_takeAll 5 = .ok (.putfield 9, 3) := by decide +kernel
theorem dX3_takeAll_8 : decode cX3_takeAll 8 = .ok (.aload_n 0, 1) := by decide +kernel
theorem dX3_takeAll_9 : decode cX3_takeAll 9 = .ok (.aload_n 1, 1) := by decide +kernel
theorem dX3_takeAll_10 : decode cX3_takeAll 10 = .ok (.getfield 15, 3) := by decide +kernel
theorem dX3_takeAll_13 : decode cX3_takeAll 13 = .ok (.putfield 15, 3) := by decide +kernel
theorem dX3_takeAll_16 : decode cX3_takeAll 16 = .ok (.aload_n 0, 1) := by decide +kernel
theorem dX3_takeAll_17 : decode cX3_takeAll 17 = .ok (.aload_n 1, 1) := by decide +kernel
theorem dX3_takeAll_18 : decode cX3_takeAll 18 = .ok (.getfield 18, 3) := by decide +kernel
theorem dX3_takeAll_21 : decode cX3_takeAll 21 = .ok (.putfield 18, 3) := by decide +kernel
theorem dX3_takeAll_24 : decode cX3_takeAll 24 = .ok (.aload_n 0, 1) := by decide +kernel
theorem dX3_takeAll_25 : decode cX3_takeAll 25 = .ok (.aload_n 1, 1) := by decide +kernel
theorem dX3_takeAll_26 : decode cX3_takeAll 26 = .ok (.getfield 21, 3) := by decide +kernel
theorem dX3_takeAll_29 : decode cX3_takeAll 29 = .ok (.putfield 21, 3) := by decide +kernel
theorem dX3_takeAll_32 : decode cX3_takeAll 32 = .ok (.aload_n 0, 1) := by decide +kernel
theorem dX3_takeAll_33 : decode cX3_takeAll 33 = .ok (.aload_n 1, 1) := by decide +kernel
theorem dX3_takeAll_34 : decode cX3_takeAll 34 = .ok (.getfield 24, 3) := by decide +kernel
theorem dX3_takeAll_37 : decode cX3_takeAll 37 = .ok (.putfield 24, 3) := by decide +kernel
theorem dX3_takeAll_40 : decode cX3_takeAll 40 = .ok (.iconst 0, 1) := by decide +kernel
theorem dX3_takeAll_41 : decode cX3_takeAll 41 = .ok (.istore_n 2, 1) := by decide +kernel
theorem dX3_takeAll_42 : decode cX3_takeAll 42 = .ok (.iload_n 2, 1) := by decide +kernel
theorem dX3_takeAll_43 : decode cX3_takeAll 43 = .ok (.bipush 6, 2) := by decide +kernel
theorem dX3_takeAll_45 : decode cX3_takeAll 45 = .ok (.if_icmp .ge 81, 3) := by decide +kernel
theorem dX3_takeAll_48 : decode cX3_takeAll 48 = .ok (.aload_n 0, 1) := by decide +kernel
theorem dX3_takeAll_49 : decode cX3_takeAll 49 = .ok (.getfield 27, 3) := by decide +kernel
theorem dX3_takeAll_52 : decode cX3_takeAll 52 = .ok (.iload_n 2, 1) := by decide +kernel
theorem dX3_takeAll_53 : decode cX3_takeAll 53 = .ok (.aload_n 1, 1) := by decide +kernel
theorem dX3_takeAll_54 : decode cX3_takeAll 54 = .ok (.getfield 27, 3) := by decide +kernel
theorem dX3_takeAll_57 : decode cX3_takeAll 57 = .ok (.iload_n 2, 1) := by decide +kernel
theorem dX3_takeAll_58 : decode cX3_takeAll 58 = .ok (.iaload, 1) := by decide +kernel
theorem dX3_takeAll_59 : decode cX3_takeAll 59 = .ok (.iastore, 1) := by decide +kernel
theorem dX3_takeAll_60 : decode cX3_takeAll 60 = .ok (.aload_n 0, 1) := by decide +kernel
theorem dX3_takeAll_61 : decode cX3_takeAll 61 = .ok (.getfield 31, 3) := by decide +kernel
theorem dX3_takeAll_64 : decode cX3_takeAll 64 = .ok (.iload_n 2, 1) := by decide +kernel
theorem dX3_takeAll_65 : decode cX3_takeAll 65 = .ok (.aload_n 1, 1) := by decide +kernel
theorem dX3_takeAll_66 : decode cX3_takeAll 66 = .ok (.getfield 31, 3) := by decide +kernel
theorem dX3_takeAll_69 : decode cX3_takeAll 69 = .ok (.iload_n 2, 1) := by decide +kernel
theorem dX3_takeAll_70 : decode cX3_takeAll 70 = .ok (.iaload, 1) := by decide +kernel
theorem dX3_takeAll_71 : decode cX3_takeAll 71 = .ok (.iastore, 1) := by decide +kernel
theorem dX3_takeAll_72 : decode cX3_takeAll 72 = .ok (.aload_n 0, 1) := by decide +kernel
theorem dX3_takeAll_73 : decode cX3_takeAll 73 = .ok (.getfield 34, 3) := by decide +kernel
theorem dX3_takeAll_76 : decode cX3_takeAll 76 = .ok (.iload_n 2, 1) := by decide +kernel
theorem dX3_takeAll_77 : decode cX3_takeAll 77 = .ok (.aload_n 1, 1) := by decide +kernel
theorem dX3_takeAll_78 : decode cX3_takeAll 78 = .ok (.getfield 34, 3) := by decide +kernel
theorem dX3_takeAll_81 : decode cX3_takeAll 81 = .ok (.iload_n 2, 1) := by decide +kernel
theorem dX3_takeAll_82 : decode cX3_takeAll 82 = .ok (.iaload, 1) := by decide +kernel
theorem dX3_takeAll_83 : decode cX3_takeAll 83 = .ok (.iastore, 1) := by decide +kernel
theorem dX3_takeAll_84 : decode cX3_takeAll 84 = .ok (.aload_n 0, 1) := by decide +kernel
theorem dX3_takeAll_85 : decode cX3_takeAll 85 = .ok (.getfield 37, 3) := by decide +kernel
theorem dX3_takeAll_88 : decode cX3_takeAll 88 = .ok (.iload_n 2, 1) := by decide +kernel
theorem dX3_takeAll_89 : decode cX3_takeAll 89 = .ok (.aload_n 1, 1) := by decide +kernel
theorem dX3_takeAll_90 : decode cX3_takeAll 90 = .ok (.getfield 37, 3) := by decide +kernel
theorem dX3_takeAll_93 : decode cX3_takeAll 93 = .ok (.iload_n 2, 1) := by decide +kernel
theorem dX3_takeAll_94 : decode cX3_takeAll 94 = .ok (.iaload, 1) := by decide +kernel
theorem dX3_takeAll_95 : decode cX3_takeAll 95 = .ok (.iastore, 1) := by decide +kernel
theorem dX3_takeAll_96 : decode cX3_takeAll 96 = .ok (.aload_n 0, 1) := by decide +kernel
theorem dX3_takeAll_97 : decode cX3_takeAll 97 = .ok (.getfield 40, 3) := by decide +kernel
theorem dX3_takeAll_100 : decode cX3_takeAll 100 = .ok (.iload_n 2, 1) := by decide +kernel
theorem dX3_takeAll_101 : decode cX3_takeAll 101 = .ok (.aload_n 1, 1) := by decide +kernel
theorem dX3_takeAll_102 : decode cX3_takeAll 102 = .ok (.getfield 40, 3) := by decide +kernel
theorem dX3_takeAll_105 : decode cX3_takeAll 105 = .ok (.iload_n 2, 1) := by decide +kernel
theorem dX3_takeAll_106 : decode cX3_takeAll 106 = .ok (.iaload, 1) := by decide +kernel
theorem dX3_takeAll_107 : decode cX3_takeAll 107 = .ok (.iastore, 1) := by decide +kernel
theorem dX3_takeAll_108 : decode cX3_takeAll 108 = .ok (.aload_n 0, 1) := by decide +kernel
theorem dX3_takeAll_109 : decode cX3_takeAll 109 = .ok (.getfield 43, 3) := by decide +kernel
theorem dX3_takeAll_112 : decode cX3_takeAll 112 = .ok (.iload_n 2, 1) := by decide +kernel
theorem dX3_takeAll_113 : decode cX3_takeAll 113 = .ok (.aload_n 1, 1) := by decide +kernel
theorem dX3_takeAll_114 : decode cX3_takeAll 114 = .ok (.getfield 43, 3) := by decide +kernel
theorem dX3_takeAll_117 : decode cX3_takeAll 117 = .ok (.iload_n 2, 1) := by decide +kernel
theorem dX3_takeAll_118 : decode cX3_takeAll 118 = .ok (.iaload, 1) := by decide +kernel
theorem dX3_takeAll_119 : decode cX3_takeAll 119 = .ok (.iastore, 1) := by decide +kernel
theorem dX3_takeAll_120 : decode cX3_takeAll 120 = .ok (.iinc 2 1, 3) := by decide +kernel
theorem dX3_takeAll_123 : decode cX3_takeAll 123 = .ok (.goto (-81), 3) := by decide +kernel
theorem dX3_takeAll_126 : decode cX3_takeAll 126 = .ok (.return_, 1) := by decide +kernel
theorem dX3_beginAnew_0 : decode cX3_beginAnew 0 = .ok (.aload_n 0, 1) := by decide +kernel
theorem dX3_beginAnew_1 : decode cX3_beginAnew 1 = .ok (.iconst 0, 1) := by decide +kernel
theorem dX3_beginAnew_2 : decode cX3_beginAnew 2 = .ok (.putfield 21, 3) := by decide +kernel
theorem dX3_beginAnew_5 : decode cX3_beginAnew 5 = .ok (.aload_n 0, 1) := by decide +kernel
theorem dX3_beginAnew_6 : decode cX3_beginAnew 6 = .ok (.iconst 0, 1) := by decide +kernel
theorem dX3_beginAnew_7 : decode cX3_beginAnew 7 = .ok (.putfield 24, 3) := by decide +kernel
theorem dX3_beginAnew_10 : decode cX3_beginAnew 10 = .ok (.iconst 0, 1) := by decide +kernel
theorem dX3_beginAnew_11 : decode cX3_beginAnew 11 = .ok (.istore_n 1, 1) := by decide +kernel
theorem dX3_beginAnew_12 : decode cX3_beginAnew 12 = .ok (.iload_n 1, 1) := by decide +kernel
theorem dX3_beginAnew_13 : decode cX3_beginAnew 13 = .ok (.bipush 6, 2) := by decide +kernel
theorem dX3_beginAnew_15 : decode cX3_beginAnew 15 = .ok (.if_icmp .ge 21, 3) := by decide +kernel
theorem dX3_beginAnew_18 : decode cX3_beginAnew 18 = .ok (.aload_n 0, 1) := by decide +kernel
theorem dX3_beginAnew_19 : decode cX3_beginAnew 19 = .ok (.getfield 43, 3) := by decide +kernel
theorem dX3_beginAnew_22 : decode cX3_beginAnew 22 = .ok (.iload_n 1, 1) := by decide +kernel
theorem dX3_beginAnew_23 : decode cX3_beginAnew 23 = .ok (.aload_n 0, 1) := by decide +kernel
theorem dX3_beginAnew_24 : decode cX3_beginAnew 24 = .ok (.getfield 31, 3) := by decide +kernel
theorem dX3_beginAnew_27 : decode cX3_beginAnew 27 = .ok (.iload_n 1, 1) := by decide +kernel
theorem dX3_beginAnew_28 : decode cX3_beginAnew 28 = .ok (.iaload, 1) := by decide +kernel
theorem dX3_beginAnew_29 : decode cX3_beginAnew 29 = .ok (.iastore, 1) := by decide +kernel
theorem dX3_beginAnew_30 : decode cX3_beginAnew 30 = .ok (.iinc 1 1, 3) := by decide +kernel
theorem dX3_beginAnew_33 : decode cX3_beginAnew 33 = .ok (.goto (-21), 3) := by decide +kernel
theorem dX3_beginAnew_36 : decode cX3_beginAnew 36 = .ok (.return_, 1) := by decide +kernel
theorem dX3_has_0 : decode cX3_has 0 = .ok (.iload_n 1, 1) := by decide +kernel
theorem dX3_has_1 : decode cX3_has 1 = .ok (.iconst 0, 1) := by decide +kernel
theorem dX3_has_2 : decode cX3_has 2 = .ok (.aload_n 0, 1) := by decide +kernel
theorem dX3_has_3 : decode cX3_has 3 = .ok (.getfield 9, 3) := by decide +kernel
theorem dX3_has_6 : decode cX3_has 6 = .ok (.iconst 1, 1) := by decide +kernel
theorem dX3_has_7 : decode cX3_has 7 = .ok (.isub, 1) := by decide +kernel
theorem dX3_has_8 : decode cX3_has 8 = .ok (.invokestatic 46, 3) := by decide +kernel
theorem dX3_has_11 : decode cX3_has 11 = .ok (.ireturn, 1) := by decide +kernel
theorem dX3_isPersonAt_0 : decode cX3_isPersonAt 0 = .ok (.aload_n 0, 1) := by decide +kernel
theorem dX3_isPersonAt_1 : decode cX3_isPersonAt 1 = .ok (.getfield 27, 3) := by decide +kernel
theorem dX3_isPersonAt_4 : decode cX3_isPersonAt 4 = .ok (.iload_n 1, 1) := by decide +kernel
theorem dX3_isPersonAt_5 : decode cX3_isPersonAt 5 = .ok (.iaload, 1) := by decide +kernel
theorem dX3_isPersonAt_6 : decode cX3_isPersonAt 6 = .ok (.iconst 4, 1) := by decide +kernel
theorem dX3_isPersonAt_7 : decode cX3_isPersonAt 7 = .ok (.if_icmp .eq 13, 3) := by decide +kernel
theorem dX3_isPersonAt_10 : decode cX3_isPersonAt 10 = .ok (.aload_n 0, 1) := by decide +kernel
theorem dX3_isPersonAt_11 : decode cX3_isPersonAt 11 = .ok (.getfield 27, 3) := by decide +kernel
theorem dX3_isPersonAt_14 : decode cX3_isPersonAt 14 = .ok (.iload_n 1, 1) := by decide +kernel
theorem dX3_isPersonAt_15 : decode cX3_isPersonAt 15 = .ok (.iaload, 1) := by decide +kernel
theorem dX3_isPersonAt_16 : decode cX3_isPersonAt 16 = .ok (.iconst 5, 1) := by decide +kernel
theorem dX3_isPersonAt_17 : decode cX3_isPersonAt 17 = .ok (.if_icmp .ne 7, 3) := by decide +kernel
theorem dX3_isPersonAt_20 : decode cX3_isPersonAt 20 = .ok (.iconst 1, 1) := by decide +kernel
theorem dX3_isPersonAt_21 : decode cX3_isPersonAt 21 = .ok (.goto 4, 3) := by decide +kernel
theorem dX3_isPersonAt_24 : decode cX3_isPersonAt 24 = .ok (.iconst 0, 1) := by decide +kernel
theorem dX3_isPersonAt_25 : decode cX3_isPersonAt 25 = .ok (.ireturn, 1) := by decide +kernel
theorem dX3_offIf_0 : decode cX3_offIf 0 = .ok (.iload_n 2, 1) := by decide +kernel
theorem dX3_offIf_1 : decode cX3_offIf 1 = .ok (.aload_n 0, 1) := by decide +kernel
theorem dX3_offIf_2 : decode cX3_offIf 2 = .ok (.getfield 31, 3) := by decide +kernel
theorem dX3_offIf_5 : decode cX3_offIf 5 = .ok (.iload_n 1, 1) := by decide +kernel
theorem dX3_offIf_6 : decode cX3_offIf 6 = .ok (.iaload, 1) := by decide +kernel
theorem dX3_offIf_7 : decode cX3_offIf 7 = .ok (.isub, 1) := by decide +kernel
theorem dX3_offIf_8 : decode cX3_offIf 8 = .ok (.invokestatic 50, 3) := by decide +kernel
theorem dX3_offIf_11 : decode cX3_offIf 11 = .ok (.ireturn, 1) := by decide +kernel
theorem dX3_offOf_0 : decode cX3_offOf 0 = .ok (.aload_n 0, 1) := by decide +kernel
theorem dX3_offOf_1 : decode cX3_offOf 1 = .ok (.iload_n 1, 1) := by decide +kernel
theorem dX3_offOf_2 : decode cX3_offOf 2 = .ok (.aload_n 0, 1) := by decide +kernel
theorem dX3_offOf_3 : decode cX3_offOf 3 = .ok (.getfield 43, 3) := by decide +kernel
theorem dX3_offOf_6 : decode cX3_offOf 6 = .ok (.iload_n 1, 1) := by decide +kernel
theorem dX3_offOf_7 : decode cX3_offOf 7 = .ok (.iaload, 1) := by decide +kernel
theorem dX3_offOf_8 : decode cX3_offOf 8 = .ok (.invokevirtual 56, 3) := by decide +kernel
theorem dX3_offOf_11 : decode cX3_offOf 11 = .ok (.ireturn, 1) := by decide +kernel
theorem dX3_allOff_0 : decode cX3_allOff 0 = .ok (.iconst 0, 1) := by decide +kernel
theorem dX3_allOff_1 : decode cX3_allOff 1 = .ok (.istore_n 1, 1) := by decide +kernel
theorem dX3_allOff_2 : decode cX3_allOff 2 = .ok (.iconst 0, 1) := by decide +kernel
theorem dX3_allOff_3 : decode cX3_allOff 3 = .ok (.istore_n 2, 1) := by decide +kernel
theorem dX3_allOff_4 : decode cX3_allOff 4 = .ok (.iload_n 2, 1) := by decide +kernel
theorem dX3_allOff_5 : decode cX3_allOff 5 = .ok (.aload_n 0, 1) := by decide +kernel
theorem dX3_allOff_6 : decode cX3_allOff 6 = .ok (.getfield 9, 3) := by decide +kernel
theorem dX3_allOff_9 : decode cX3_allOff 9 = .ok (.if_icmp .ge 17, 3) := by decide +kernel
theorem dX3_allOff_12 : decode cX3_allOff 12 = .ok (.iload_n 1, 1) := by decide +kernel
theorem dX3_allOff_13 : decode cX3_allOff 13 = .ok (.aload_n 0, 1) := by decide +kernel
theorem dX3_allOff_14 : decode cX3_allOff 14 = .ok (.iload_n 2, 1) := by decide +kernel
theorem dX3_allOff_15 : decode cX3_allOff 15 = .ok (.invokevirtual 60, 3) := by decide +kernel
theorem dX3_allOff_18 : decode cX3_allOff 18 = .ok (.iadd, 1) := by decide +kernel
theorem dX3_allOff_19 : decode cX3_allOff 19 = .ok (.istore_n 1, 1) := by decide +kernel
theorem dX3_allOff_20 : decode cX3_allOff 20 = .ok (.iinc 2 1, 3) := by decide +kernel
theorem dX3_allOff_23 : decode cX3_allOff 23 = .ok (.goto (-19), 3) := by decide +kernel
theorem dX3_allOff_26 : decode cX3_allOff 26 = .ok (.iload_n 1, 1) := by decide +kernel
theorem dX3_allOff_27 : decode cX3_allOff 27 = .ok (.ireturn, 1) := by decide +kernel
theorem dX3_alikeBits_0 : decode cX3_alikeBits 0 = .ok (.iconst 0, 1) := by decide +kernel
theorem dX3_alikeBits_1 : decode cX3_alikeBits 1 = .ok (.istore_n 1, 1) := by decide +kernel
theorem dX3_alikeBits_2 : decode cX3_alikeBits 2 = .ok (.iconst 0, 1) := by decide +kernel
theorem dX3_alikeBits_3 : decode cX3_alikeBits 3 = .ok (.istore_n 2, 1) := by decide +kernel
theorem dX3_alikeBits_4 : decode cX3_alikeBits 4 = .ok (.iload_n 2, 1) := by decide +kernel
theorem dX3_alikeBits_5 : decode cX3_alikeBits 5 = .ok (.aload_n 0, 1) := by decide +kernel
theorem dX3_alikeBits_6 : decode cX3_alikeBits 6 = .ok (.getfield 9, 3) := by decide +kernel
theorem dX3_alikeBits_9 : decode cX3_alikeBits 9 = .ok (.if_icmp .ge 31, 3) := by decide +kernel
theorem dX3_alikeBits_12 : decode cX3_alikeBits 12 = .ok (.iload_n 1, 1) := by decide +kernel
theorem dX3_alikeBits_13 : decode cX3_alikeBits 13 = .ok (.aload_n 0, 1) := by decide +kernel
theorem dX3_alikeBits_14 : decode cX3_alikeBits 14 = .ok (.iload_n 2, 1) := by decide +kernel
theorem dX3_alikeBits_15 : decode cX3_alikeBits 15 = .ok (.invokevirtual 60, 3) := by decide +kernel
theorem dX3_alikeBits_18 : decode cX3_alikeBits 18 = .ok (.aload_n 0, 1) := by decide +kernel
theorem dX3_alikeBits_19 : decode cX3_alikeBits 19 = .ok (.getfield 15, 3) := by decide +kernel
theorem dX3_alikeBits_22 : decode cX3_alikeBits 22 = .ok (.if_icmp .gt 9, 3) := by decide +kernel
theorem dX3_alikeBits_25 : decode cX3_alikeBits 25 = .ok (.iconst 1, 1) := by decide +kernel
theorem dX3_alikeBits_26 : decode cX3_alikeBits 26 = .ok (.iload_n 2, 1) := by decide +kernel
theorem dX3_alikeBits_27 : decode cX3_alikeBits 27 = .ok (.ishl, 1) := by decide +kernel
theorem dX3_alikeBits_28 : decode cX3_alikeBits 28 = .ok (.goto 4, 3) := by decide +kernel
theorem dX3_alikeBits_31 : decode cX3_alikeBits 31 = .ok (.iconst 0, 1) := by decide +kernel
theorem dX3_alikeBits_32 : decode cX3_alikeBits 32 = .ok (.ior, 1) := by decide +kernel
theorem dX3_alikeBits_33 : decode cX3_alikeBits 33 = .ok (.istore_n 1, 1) := by decide +kernel
theorem dX3_alikeBits_34 : decode cX3_alikeBits 34 = .ok (.iinc 2 1, 3) := by decide +kernel
theorem dX3_alikeBits_37 : decode cX3_alikeBits 37 = .ok (.goto (-33), 3) := by decide +kernel
theorem dX3_alikeBits_40 : decode cX3_alikeBits 40 = .ok (.iload_n 1, 1) := by decide +kernel
theorem dX3_alikeBits_41 : decode cX3_alikeBits 41 = .ok (.ireturn, 1) := by decide +kernel
theorem dX3_gainOf_0 : decode cX3_gainOf 0 = .ok (.sipush 10000, 3) := by decide +kernel
theorem dX3_gainOf_3 : decode cX3_gainOf 3 = .ok (.istore_n 2, 1) := by decide +kernel
theorem dX3_gainOf_4 : decode cX3_gainOf 4 = .ok (.iconst 0, 1) := by decide +kernel
theorem dX3_gainOf_5 : decode cX3_gainOf 5 = .ok (.istore_n 3, 1) := by decide +kernel
theorem dX3_gainOf_6 : decode cX3_gainOf 6 = .ok (.iload_n 3, 1) := by decide +kernel
theorem dX3_gainOf_7 : decode cX3_gainOf 7 = .ok (.aload_n 0, 1) := by decide +kernel
theorem dX3_gainOf_8 : decode cX3_gainOf 8 = .ok (.getfield 9, 3) := by decide +kernel
theorem dX3_gainOf_11 : decode cX3_gainOf 11 = .ok (.if_icmp .ge 39, 3) := by decide +kernel
theorem dX3_gainOf_14 : decode cX3_gainOf 14 = .ok (.iload_n 2, 1) := by decide +kernel
theorem dX3_gainOf_15 : decode cX3_gainOf 15 = .ok (.aload_n 0, 1) := by decide +kernel
theorem dX3_gainOf_16 : decode cX3_gainOf 16 = .ok (.getfield 40, 3) := by decide +kernel
theorem dX3_gainOf_19 : decode cX3_gainOf 19 = .ok (.iload_n 3, 1) := by decide +kernel
theorem dX3_gainOf_20 : decode cX3_gainOf 20 = .ok (.iaload, 1) := by decide +kernel
theorem dX3_gainOf_21 : decode cX3_gainOf 21 = .ok (.iload_n 1, 1) := by decide +kernel
theorem dX3_gainOf_22 : decode cX3_gainOf 22 = .ok (.if_icmp .ne 19, 3) := by decide +kernel
theorem dX3_gainOf_25 : decode cX3_gainOf 25 = .ok (.aload_n 0, 1) := by decide +kernel
theorem dX3_gainOf_26 : decode cX3_gainOf 26 = .ok (.getfield 43, 3) := by decide +kernel
theorem dX3_gainOf_29 : decode cX3_gainOf 29 = .ok (.iload_n 3, 1) := by decide +kernel
theorem dX3_gainOf_30 : decode cX3_gainOf 30 = .ok (.iaload, 1) := by decide +kernel
theorem dX3_gainOf_31 : decode cX3_gainOf 31 = .ok (.aload_n 0, 1) := by decide +kernel
theorem dX3_gainOf_32 : decode cX3_gainOf 32 = .ok (.getfield 31, 3) := by decide +kernel
theorem dX3_gainOf_35 : decode cX3_gainOf 35 = .ok (.iload_n 3, 1) := by decide +kernel
theorem dX3_gainOf_36 : decode cX3_gainOf 36 = .ok (.iaload, 1) := by decide +kernel
theorem dX3_gainOf_37 : decode cX3_gainOf 37 = .ok (.isub, 1) := by decide +kernel
theorem dX3_gainOf_38 : decode cX3_gainOf 38 = .ok (.goto 4, 3) := by decide +kernel
theorem dX3_gainOf_41 : decode cX3_gainOf 41 = .ok (.iconst 0, 1) := by decide +kernel
theorem dX3_gainOf_42 : decode cX3_gainOf 42 = .ok (.iadd, 1) := by decide +kernel
theorem dX3_gainOf_43 : decode cX3_gainOf 43 = .ok (.istore_n 2, 1) := by decide +kernel
theorem dX3_gainOf_44 : decode cX3_gainOf 44 = .ok (.iinc 3 1, 3) := by decide +kernel
theorem dX3_gainOf_47 : decode cX3_gainOf 47 = .ok (.goto (-41), 3) := by decide +kernel
theorem dX3_gainOf_50 : decode cX3_gainOf 50 = .ok (.iload_n 2, 1) := by decide +kernel
theorem dX3_gainOf_51 : decode cX3_gainOf 51 = .ok (.ireturn, 1) := by decide +kernel
theorem dX3_costToPutBack_0 : decode cX3_costToPutBack 0 = .ok (.aload_n 0, 1) := by decide +kernel
theorem dX3_costToPutBack_1 : decode cX3_costToPutBack 1 = .ok (.getfield 37, 3) := by decide +kernel
theorem dX3_costToPutBack_4 : decode cX3_costToPutBack 4 = .ok (.iload_n 1, 1) := by decide +kernel
theorem dX3_costToPutBack_5 : decode cX3_costToPutBack 5 = .ok (.iaload, 1) := by decide +kernel
theorem dX3_costToPutBack_6 : decode cX3_costToPutBack 6 = .ok (.aload_n 0, 1) := by decide +kernel
theorem dX3_costToPutBack_7 : decode cX3_costToPutBack 7 = .ok (.iload_n 1, 1) := by decide +kernel
theorem dX3_costToPutBack_8 : decode cX3_costToPutBack 8 = .ok (.iload_n 2, 1) := by decide +kernel
theorem dX3_costToPutBack_9 : decode cX3_costToPutBack 9 = .ok (.invokevirtual 56, 3) := by decide +kernel
theorem dX3_costToPutBack_12 : decode cX3_costToPutBack 12 = .ok (.imul, 1) := by decide +kernel
theorem dX3_costToPutBack_13 : decode cX3_costToPutBack 13 = .ok (.aload_n 0, 1) := by decide +kernel
theorem dX3_costToPutBack_14 : decode cX3_costToPutBack 14 = .ok (.getfield 18, 3) := by decide +kernel
theorem dX3_costToPutBack_17 : decode cX3_costToPutBack 17 = .ok (.iadd, 1) := by decide +kernel
theorem dX3_costToPutBack_18 : decode cX3_costToPutBack 18 = .ok (.ireturn, 1) := by decide +kernel
theorem dX3_passDay_0 : decode cX3_passDay 0 = .ok (.iconst 0, 1) := by decide +kernel
theorem dX3_passDay_1 : decode cX3_passDay 1 = .ok (.istore_n 1, 1) := by decide +kernel
theorem dX3_passDay_2 : decode cX3_passDay 2 = .ok (.iload_n 1, 1) := by decide +kernel
theorem dX3_passDay_3 : decode cX3_passDay 3 = .ok (.aload_n 0, 1) := by decide +kernel
theorem dX3_passDay_4 : decode cX3_passDay 4 = .ok (.getfield 9, 3) := by decide +kernel
theorem dX3_passDay_7 : decode cX3_passDay 7 = .ok (.if_icmp .ge 30, 3) := by decide +kernel
theorem dX3_passDay_10 : decode cX3_passDay 10 = .ok (.aload_n 0, 1) := by decide +kernel
theorem dX3_passDay_11 : decode cX3_passDay 11 = .ok (.getfield 43, 3) := by decide +kernel
theorem dX3_passDay_14 : decode cX3_passDay 14 = .ok (.iload_n 1, 1) := by decide +kernel
theorem dX3_passDay_15 : decode cX3_passDay 15 = .ok (.aload_n 0, 1) := by decide +kernel
theorem dX3_passDay_16 : decode cX3_passDay 16 = .ok (.iload_n 1, 1) := by decide +kernel
theorem dX3_passDay_17 : decode cX3_passDay 17 = .ok (.aload_n 0, 1) := by decide +kernel
theorem dX3_passDay_18 : decode cX3_passDay 18 = .ok (.getfield 43, 3) := by decide +kernel
theorem dX3_passDay_21 : decode cX3_passDay 21 = .ok (.iload_n 1, 1) := by decide +kernel
theorem dX3_passDay_22 : decode cX3_passDay 22 = .ok (.iaload, 1) := by decide +kernel
theorem dX3_passDay_23 : decode cX3_passDay 23 = .ok (.aload_n 0, 1) := by decide +kernel
theorem dX3_passDay_24 : decode cX3_passDay 24 = .ok (.getfield 21, 3) := by decide +kernel
theorem dX3_passDay_27 : decode cX3_passDay 27 = .ok (.invokevirtual 63, 3) := by decide +kernel
theorem dX3_passDay_30 : decode cX3_passDay 30 = .ok (.iastore, 1) := by decide +kernel
theorem dX3_passDay_31 : decode cX3_passDay 31 = .ok (.iinc 1 1, 3) := by decide +kernel
theorem dX3_passDay_34 : decode cX3_passDay 34 = .ok (.goto (-32), 3) := by decide +kernel
theorem dX3_passDay_37 : decode cX3_passDay 37 = .ok (.aload_n 0, 1) := by decide +kernel
theorem dX3_passDay_38 : decode cX3_passDay 38 = .ok (.dup, 1) := by decide +kernel
theorem dX3_passDay_39 : decode cX3_passDay 39 = .ok (.getfield 21, 3) := by decide +kernel
theorem dX3_passDay_42 : decode cX3_passDay 42 = .ok (.iconst 1, 1) := by decide +kernel
theorem dX3_passDay_43 : decode cX3_passDay 43 = .ok (.iadd, 1) := by decide +kernel
theorem dX3_passDay_44 : decode cX3_passDay 44 = .ok (.putfield 21, 3) := by decide +kernel
theorem dX3_passDay_47 : decode cX3_passDay 47 = .ok (.return_, 1) := by decide +kernel
theorem dX3_dayOn_0 : decode cX3_dayOn 0 = .ok (.aload_n 0, 1) := by decide +kernel
theorem dX3_dayOn_1 : decode cX3_dayOn 1 = .ok (.aload_n 0, 1) := by decide +kernel
theorem dX3_dayOn_2 : decode cX3_dayOn 2 = .ok (.getfield 27, 3) := by decide +kernel
theorem dX3_dayOn_5 : decode cX3_dayOn 5 = .ok (.iload_n 1, 1) := by decide +kernel
theorem dX3_dayOn_6 : decode cX3_dayOn 6 = .ok (.iaload, 1) := by decide +kernel
theorem dX3_dayOn_7 : decode cX3_dayOn 7 = .ok (.iload_n 1, 1) := by decide +kernel
theorem dX3_dayOn_8 : decode cX3_dayOn 8 = .ok (.iload_n 2, 1) := by decide +kernel
theorem dX3_dayOn_9 : decode cX3_dayOn 9 = .ok (.iload_n 3, 1) := by decide +kernel
theorem dX3_dayOn_10 : decode cX3_dayOn 10 = .ok (.invokevirtual 67, 3) := by decide +kernel
theorem dX3_dayOn_13 : decode cX3_dayOn 13 = .ok (.ireturn, 1) := by decide +kernel
theorem dX3_dayOnAs_0 : decode cX3_dayOnAs 0 = .ok (.iconst 0, 1) := by decide +kernel
theorem dX3_dayOnAs_1 : decode cX3_dayOnAs 1 = .ok (.bipush 99, 2) := by decide +kernel
theorem dX3_dayOnAs_3 : decode cX3_dayOnAs 3 = .ok (.iload_n 3, 1) := by decide +kernel
theorem dX3_dayOnAs_4 : decode cX3_dayOnAs 4 = .ok (.iload_n 1, 1) := by decide +kernel
theorem dX3_dayOnAs_5 : decode cX3_dayOnAs 5 = .ok (.aload_n 0, 1) := by decide +kernel
theorem dX3_dayOnAs_6 : decode cX3_dayOnAs 6 = .ok (.getfield 34, 3) := by decide +kernel
theorem dX3_dayOnAs_9 : decode cX3_dayOnAs 9 = .ok (.iload_n 2, 1) := by decide +kernel
theorem dX3_dayOnAs_10 : decode cX3_dayOnAs 10 = .ok (.iaload, 1) := by decide +kernel
theorem dX3_dayOnAs_11 : decode cX3_dayOnAs 11 = .ok (.iload 4, 2) := by decide +kernel
theorem dX3_dayOnAs_13 : decode cX3_dayOnAs 13 = .ok (.invokestatic 71, 3) := by decide +kernel
theorem dX3_dayOnAs_16 : decode cX3_dayOnAs 16 = .ok (.iadd, 1) := by decide +kernel
theorem dX3_dayOnAs_17 : decode cX3_dayOnAs 17 = .ok (.invokestatic 74, 3) := by decide +kernel
theorem dX3_dayOnAs_20 : decode cX3_dayOnAs 20 = .ok (.invokestatic 77, 3) := by decide +kernel
theorem dX3_dayOnAs_23 : decode cX3_dayOnAs 23 = .ok (.ireturn, 1) := by decide +kernel
theorem dX3_change_0 : decode cX3_change 0 = .ok (.iload_n 1, 1) := by decide +kernel
theorem dX3_change_1 : decode cX3_change 1 = .ok (.ifCond .le 15, 3) := by decide +kernel
theorem dX3_change_4 : decode cX3_change 4 = .ok (.iload_n 2, 1) := by decide +kernel
theorem dX3_change_5 : decode cX3_change 5 = .ok (.iconst 1, 1) := by decide +kernel
theorem dX3_change_6 : decode cX3_change 6 = .ok (.iadd, 1) := by decide +kernel
theorem dX3_change_7 : decode cX3_change 7 = .ok (.iload_n 1, 1) := by decide +kernel
theorem dX3_change_8 : decode cX3_change 8 = .ok (.irem, 1) := by decide +kernel
theorem dX3_change_9 : decode cX3_change 9 = .ok (.ifCond .ne 7, 3) := by decide +kernel
theorem dX3_change_12 : decode cX3_change 12 = .ok (.iconst 1, 1) := by decide +kernel
theorem dX3_change_13 : decode cX3_change 13 = .ok (.goto 4, 3) := by decide +kernel
theorem dX3_change_16 : decode cX3_change 16 = .ok (.iconst 0, 1) := by decide +kernel
theorem dX3_change_17 : decode cX3_change 17 = .ok (.istore_n 3, 1) := by decide +kernel
theorem dX3_change_18 : decode cX3_change 18 = .ok (.iload_n 0, 1) := by decide +kernel
theorem dX3_change_19 : decode cX3_change 19 = .ok (.tableswitch 69 1 5 #[33, 35, 38, 51, 53], 33) := by decide +kernel
theorem dX3_change_52 : decode cX3_change 52 = .ok (.iload_n 1, 1) := by decide +kernel
theorem dX3_change_53 : decode cX3_change 53 = .ok (.ireturn, 1) := by decide +kernel
theorem dX3_change_54 : decode cX3_change 54 = .ok (.iload_n 1, 1) := by decide +kernel
theorem dX3_change_55 : decode cX3_change 55 = .ok (.ineg, 1) := by decide +kernel
theorem dX3_change_56 : decode cX3_change 56 = .ok (.ireturn, 1) := by decide +kernel
theorem dX3_change_57 : decode cX3_change 57 = .ok (.iload_n 2, 1) := by decide +kernel
theorem dX3_change_58 : decode cX3_change 58 = .ok (.iconst 2, 1) := by decide +kernel
theorem dX3_change_59 : decode cX3_change 59 = .ok (.irem, 1) := by decide +kernel
theorem dX3_change_60 : decode cX3_change 60 = .ok (.ifCond .ne 7, 3) := by decide +kernel
theorem dX3_change_63 : decode cX3_change 63 = .ok (.iload_n 1, 1) := by decide +kernel
theorem dX3_change_64 : decode cX3_change 64 = .ok (.goto 5, 3) := by decide +kernel
theorem dX3_change_67 : decode cX3_change 67 = .ok (.iload_n 1, 1) := by decide +kernel
theorem dX3_change_68 : decode cX3_change 68 = .ok (.ineg, 1) := by decide +kernel
theorem dX3_change_69 : decode cX3_change 69 = .ok (.ireturn, 1) := by decide +kernel
theorem dX3_change_70 : decode cX3_change 70 = .ok (.iload_n 3, 1) := by decide +kernel
theorem dX3_change_71 : decode cX3_change 71 = .ok (.ireturn, 1) := by decide +kernel
theorem dX3_change_72 : decode cX3_change 72 = .ok (.iload_n 2, 1) := by decide +kernel
theorem dX3_change_73 : decode cX3_change 73 = .ok (.iconst 1, 1) := by decide +kernel
theorem dX3_change_74 : decode cX3_change 74 = .ok (.iadd, 1) := by decide +kernel
theorem dX3_change_75 : decode cX3_change 75 = .ok (.bipush 7, 2) := by decide +kernel
theorem dX3_change_77 : decode cX3_change 77 = .ok (.irem, 1) := by decide +kernel
theorem dX3_change_78 : decode cX3_change 78 = .ok (.ifCond .ne 8, 3) := by decide +kernel
theorem dX3_change_81 : decode cX3_change 81 = .ok (.iload_n 1, 1) := by decide +kernel
theorem dX3_change_82 : decode cX3_change 82 = .ok (.ineg, 1) := by decide +kernel
theorem dX3_change_83 : decode cX3_change 83 = .ok (.goto 4, 3) := by decide +kernel
theorem dX3_change_86 : decode cX3_change 86 = .ok (.iload_n 3, 1) := by decide +kernel
theorem dX3_change_87 : decode cX3_change 87 = .ok (.ireturn, 1) := by decide +kernel
theorem dX3_change_88 : decode cX3_change 88 = .ok (.iconst 0, 1) := by decide +kernel
theorem dX3_change_89 : decode cX3_change 89 = .ok (.ireturn, 1) := by decide +kernel
theorem dX4_init_0 : decode cX4_init 0 = .ok (.aload_n 0, 1) := by decide +kernel
theorem dX4_init_1 : decode cX4_init 1 = .ok (.invokespecial 3, 3) := by decide +kernel
theorem dX4_init_4 : decode cX4_init 4 = .ok (.aload_n 0, 1) := by decide +kernel
theorem dX4_init_5 : decode cX4_init 5 = .ok (.bipush 8, 2) := by decide +kernel
theorem dX4_init_7 : decode cX4_init 7 = .ok (.newarray .int, 2) := by decide +kernel
theorem dX4_init_9 : decode cX4_init 9 = .ok (.putfield 9, 3) := by decide +kernel
theorem dX4_init_12 : decode cX4_init 12 = .ok (.aload_n 0, 1) := by decide +kernel
theorem dX4_init_13 : decode cX4_init 13 = .ok (.bipush 8, 2) := by decide +kernel
theorem dX4_init_15 : decode cX4_init 15 = .ok (.newarray .int, 2) := by decide +kernel
theorem dX4_init_17 : decode cX4_init 17 = .ok (.putfield 15, 3) := by decide +kernel
theorem dX4_init_20 : decode cX4_init 20 = .ok (.aload_n 0, 1) := by decide +kernel
theorem dX4_init_21 : decode cX4_init 21 = .ok (.sipush 320, 3) := by decide +kernel
theorem dX4_init_24 : decode cX4_init 24 = .ok (.newarray .int, 2) := by decide +kernel
theorem dX4_init_26 : decode cX4_init 26 = .ok (.putfield 18, 3) := by decide +kernel
theorem dX4_init_29 : decode cX4_init 29 = .ok (.iconst 0, 1) := by decide +kernel
theorem dX4_init_30 : decode cX4_init 30 = .ok (.istore_n 1, 1) := by decide +kernel
theorem dX4_init_31 : decode cX4_init 31 = .ok (.iload_n 1, 1) := by decide +kernel
theorem dX4_init_32 : decode cX4_init 32 = .ok (.bipush 8, 2) := by decide +kernel
theorem dX4_init_34 : decode cX4_init 34 = .ok (.if_icmp .ge 16, 3) := by decide +kernel
theorem dX4_init_37 : decode cX4_init 37 = .ok (.aload_n 0, 1) := by decide +kernel
theorem dX4_init_38 : decode cX4_init 38 = .ok (.getfield 15, 3) := by decide +kernel
theorem dX4_init_41 : decode cX4_init 41 = .ok (.iload_n 1, 1) := by decide +kernel
theorem dX4_init_42 : decode cX4_init 42 = .ok (.iconst (-1), 1) := by decide +kernel
theorem dX4_init_43 : decode cX4_init 43 = .ok (.iastore, 1) := by decide +kernel
theorem dX4_init_44 : decode cX4_init 44 = .ok (.iinc 1 1, 3) := by decide +kernel
theorem dX4_init_47 : decode cX4_init 47 = .ok (.goto (-16), 3) := by decide +kernel
theorem dX4_init_50 : decode cX4_init 50 = .ok (.return_, 1) := by decide +kernel
theorem dX4_isMissing_0 : decode cX4_isMissing 0 = .ok (.aload_n 0, 1) := by decide +kernel
theorem dX4_isMissing_1 : decode cX4_isMissing 1 = .ok (.getfield 15, 3) := by decide +kernel
theorem dX4_isMissing_4 : decode cX4_isMissing 4 = .ok (.iload_n 1, 1) := by decide +kernel
theorem dX4_isMissing_5 : decode cX4_isMissing 5 = .ok (.iaload, 1) := by decide +kernel
theorem dX4_isMissing_6 : decode cX4_isMissing 6 = .ok (.iconst (-1), 1) := by decide +kernel
theorem dX4_isMissing_7 : decode cX4_isMissing 7 = .ok (.if_icmp .ne 7, 3) := by decide +kernel
theorem dX4_isMissing_10 : decode cX4_isMissing 10 = .ok (.iconst 1, 1) := by decide +kernel
theorem dX4_isMissing_11 : decode cX4_isMissing 11 = .ok (.goto 4, 3) := by decide +kernel
theorem dX4_isMissing_14 : decode cX4_isMissing 14 = .ok (.iconst 0, 1) := by decide +kernel
theorem dX4_isMissing_15 : decode cX4_isMissing 15 = .ok (.ireturn, 1) := by decide +kernel
theorem dX4_laneOf_0 : decode cX4_laneOf 0 = .ok (.aload_n 0, 1) := by decide +kernel
theorem dX4_laneOf_1 : decode cX4_laneOf 1 = .ok (.getfield 9, 3) := by decide +kernel
theorem dX4_laneOf_4 : decode cX4_laneOf 4 = .ok (.iload_n 1, 1) := by decide +kernel
theorem dX4_laneOf_5 : decode cX4_laneOf 5 = .ok (.iaload, 1) := by decide +kernel
theorem dX4_laneOf_6 : decode cX4_laneOf 6 = .ok (.ireturn, 1) := by decide +kernel
theorem dX4_howMany_0 : decode cX4_howMany 0 = .ok (.iconst 0, 1) := by decide +kernel
theorem dX4_howMany_1 : decode cX4_howMany 1 = .ok (.istore_n 1, 1) := by decide +kernel
theorem dX4_howMany_2 : decode cX4_howMany 2 = .ok (.iconst 0, 1) := by decide +kernel
theorem dX4_howMany_3 : decode cX4_howMany 3 = .ok (.istore_n 2, 1) := by decide +kernel
theorem dX4_howMany_4 : decode cX4_howMany 4 = .ok (.iload_n 2, 1) := by decide +kernel
theorem dX4_howMany_5 : decode cX4_howMany 5 = .ok (.bipush 8, 2) := by decide +kernel
theorem dX4_howMany_7 : decode cX4_howMany 7 = .ok (.if_icmp .ge 25, 3) := by decide +kernel
theorem dX4_howMany_10 : decode cX4_howMany 10 = .ok (.iload_n 1, 1) := by decide +kernel
theorem dX4_howMany_11 : decode cX4_howMany 11 = .ok (.aload_n 0, 1) := by decide +kernel
theorem dX4_howMany_12 : decode cX4_howMany 12 = .ok (.iload_n 2, 1) := by decide +kernel
theorem dX4_howMany_13 : decode cX4_howMany 13 = .ok (.invokevirtual 21, 3) := by decide +kernel
theorem dX4_howMany_16 : decode cX4_howMany 16 = .ok (.ifCond .eq 7, 3) := by decide +kernel
theorem dX4_howMany_19 : decode cX4_howMany 19 = .ok (.iconst 0, 1) := by decide +kernel
theorem dX4_howMany_20 : decode cX4_howMany 20 = .ok (.goto 4, 3) := by decide +kernel
theorem dX4_howMany_23 : decode cX4_howMany 23 = .ok (.iconst 1, 1) := by decide +kernel
theorem dX4_howMany_24 : decode cX4_howMany 24 = .ok (.iadd, 1) := by decide +kernel
theorem dX4_howMany_25 : decode cX4_howMany 25 = .ok (.istore_n 1, 1) := by decide +kernel
theorem dX4_howMany_26 : decode cX4_howMany 26 = .ok (.iinc 2 1, 3) := by decide +kernel
theorem dX4_howMany_29 : decode cX4_howMany 29 = .ok (.goto (-25), 3) := by decide +kernel
theorem dX4_howMany_32 : decode cX4_howMany 32 = .ok (.iload_n 1, 1) := by decide +kernel
theorem dX4_howMany_33 : decode cX4_howMany 33 = .ok (.ireturn, 1) := by decide +kernel
theorem dX4_make_0 : decode cX4_make 0 = .ok (.aload_n 0, 1) := by decide +kernel
theorem dX4_make_1 : decode cX4_make 1 = .ok (.getfield 9, 3) := by decide +kernel
theorem dX4_make_4 : decode cX4_make 4 = .ok (.iload_n 1, 1) := by decide +kernel
theorem dX4_make_5 : decode cX4_make 5 = .ok (.iload_n 2, 1) := by decide +kernel
theorem dX4_make_6 : decode cX4_make 6 = .ok (.iastore, 1) := by decide +kernel
theorem dX4_make_7 : decode cX4_make 7 = .ok (.aload_n 0, 1) := by decide +kernel
theorem dX4_make_8 : decode cX4_make 8 = .ok (.getfield 15, 3) := by decide +kernel
theorem dX4_make_11 : decode cX4_make 11 = .ok (.iload_n 1, 1) := by decide +kernel
theorem dX4_make_12 : decode cX4_make 12 = .ok (.iload_n 3, 1) := by decide +kernel
theorem dX4_make_13 : decode cX4_make 13 = .ok (.iastore, 1) := by decide +kernel
theorem dX4_make_14 : decode cX4_make 14 = .ok (.iconst 0, 1) := by decide +kernel
theorem dX4_make_15 : decode cX4_make 15 = .ok (.istore 4, 2) := by decide +kernel
theorem dX4_make_17 : decode cX4_make 17 = .ok (.iload 4, 2) := by decide +kernel
theorem dX4_make_19 : decode cX4_make 19 = .ok (.iload_n 3, 1) := by decide +kernel
theorem dX4_make_20 : decode cX4_make 20 = .ok (.if_icmp .ge 22, 3) := by decide +kernel
theorem dX4_make_23 : decode cX4_make 23 = .ok (.aload_n 0, 1) := by decide +kernel
theorem dX4_make_24 : decode cX4_make 24 = .ok (.getfield 18, 3) := by decide +kernel
theorem dX4_make_27 : decode cX4_make 27 = .ok (.iload_n 1, 1) := by decide +kernel
theorem dX4_make_28 : decode cX4_make 28 = .ok (.bipush 40, 2) := by decide +kernel
theorem dX4_make_30 : decode cX4_make 30 = .ok (.imul, 1) := by decide +kernel
theorem dX4_make_31 : decode cX4_make 31 = .ok (.iload 4, 2) := by decide +kernel
theorem dX4_make_33 : decode cX4_make 33 = .ok (.iadd, 1) := by decide +kernel
theorem dX4_make_34 : decode cX4_make 34 = .ok (.iconst 0, 1) := by decide +kernel
theorem dX4_make_35 : decode cX4_make 35 = .ok (.iastore, 1) := by decide +kernel
theorem dX4_make_36 : decode cX4_make 36 = .ok (.iinc 4 1, 3) := by decide +kernel
theorem dX4_make_39 : decode cX4_make 39 = .ok (.goto (-22), 3) := by decide +kernel
theorem dX4_make_42 : decode cX4_make 42 = .ok (.return_, 1) := by decide +kernel
theorem dX4_remove_0 : decode cX4_remove 0 = .ok (.aload_n 0, 1) := by decide +kernel
theorem dX4_remove_1 : decode cX4_remove 1 = .ok (.getfield 15, 3) := by decide +kernel
theorem dX4_remove_4 : decode cX4_remove 4 = .ok (.iload_n 1, 1) := by decide +kernel
theorem dX4_remove_5 : decode cX4_remove 5 = .ok (.iaload, 1) := by decide +kernel
theorem dX4_remove_6 : decode cX4_remove 6 = .ok (.istore_n 2, 1) := by decide +kernel
theorem dX4_remove_7 : decode cX4_remove 7 = .ok (.aload_n 0, 1) := by decide +kernel
theorem dX4_remove_8 : decode cX4_remove 8 = .ok (.getfield 15, 3) := by decide +kernel
theorem dX4_remove_11 : decode cX4_remove 11 = .ok (.iload_n 1, 1) := by decide +kernel
theorem dX4_remove_12 : decode cX4_remove 12 = .ok (.iconst (-1), 1) := by decide +kernel
theorem dX4_remove_13 : decode cX4_remove 13 = .ok (.iastore, 1) := by decide +kernel
theorem dX4_remove_14 : decode cX4_remove 14 = .ok (.iload_n 2, 1) := by decide +kernel
theorem dX4_remove_15 : decode cX4_remove 15 = .ok (.ireturn, 1) := by decide +kernel
theorem dX4_hasPlaces_0 : decode cX4_hasPlaces 0 = .ok (.iload_n 2, 1) := by decide +kernel
theorem dX4_hasPlaces_1 : decode cX4_hasPlaces 1 = .ok (.ifCond .lt 33, 3) := by decide +kernel
theorem dX4_hasPlaces_4 : decode cX4_hasPlaces 4 = .ok (.iload_n 3, 1) := by decide +kernel
theorem dX4_hasPlaces_5 : decode cX4_hasPlaces 5 = .ok (.ifCond .lt 29, 3) := by decide +kernel
theorem dX4_hasPlaces_8 : decode cX4_hasPlaces 8 = .ok (.iload_n 2, 1) := by decide +kernel
theorem dX4_hasPlaces_9 : decode cX4_hasPlaces 9 = .ok (.aload_n 0, 1) := by decide +kernel
theorem dX4_hasPlaces_10 : decode cX4_hasPlaces 10 = .ok (.getfield 15, 3) := by decide +kernel
theorem dX4_hasPlaces_13 : decode cX4_hasPlaces 13 = .ok (.iload_n 1, 1) := by decide +kernel
theorem dX4_hasPlaces_14 : decode cX4_hasPlaces 14 = .ok (.iaload, 1) := by decide +kernel
theorem dX4_hasPlaces_15 : decode cX4_hasPlaces 15 = .ok (.if_icmp .gt 19, 3) := by decide +kernel
theorem dX4_hasPlaces_18 : decode cX4_hasPlaces 18 = .ok (.iload_n 3, 1) := by decide +kernel
theorem dX4_hasPlaces_19 : decode cX4_hasPlaces 19 = .ok (.aload_n 0, 1) := by decide +kernel
theorem dX4_hasPlaces_20 : decode cX4_hasPlaces 20 = .ok (.getfield 15, 3) := by decide +kernel
theorem dX4_hasPlaces_23 : decode cX4_hasPlaces 23 = .ok (.iload_n 1, 1) := by decide +kernel
theorem dX4_hasPlaces_24 : decode cX4_hasPlaces 24 = .ok (.iaload, 1) := by decide +kernel
theorem dX4_hasPlaces_25 : decode cX4_hasPlaces 25 = .ok (.iload_n 2, 1) := by decide +kernel
theorem dX4_hasPlaces_26 : decode cX4_hasPlaces 26 = .ok (.isub, 1) := by decide +kernel
theorem dX4_hasPlaces_27 : decode cX4_hasPlaces 27 = .ok (.if_icmp .gt 7, 3) := by decide +kernel
theorem dX4_hasPlaces_30 : decode cX4_hasPlaces 30 = .ok (.iconst 1, 1) := by decide +kernel
theorem dX4_hasPlaces_31 : decode cX4_hasPlaces 31 = .ok (.goto 4, 3) := by decide +kernel
theorem dX4_hasPlaces_34 : decode cX4_hasPlaces 34 = .ok (.iconst 0, 1) := by decide +kernel
theorem dX4_hasPlaces_35 : decode cX4_hasPlaces 35 = .ok (.ireturn, 1) := by decide +kernel
theorem dX4_findingAt_0 : decode cX4_findingAt 0 = .ok (.aload_n 0, 1) := by decide +kernel
theorem dX4_findingAt_1 : decode cX4_findingAt 1 = .ok (.iload_n 1, 1) := by decide +kernel
theorem dX4_findingAt_2 : decode cX4_findingAt 2 = .ok (.invokevirtual 21, 3) := by decide +kernel
theorem dX4_findingAt_5 : decode cX4_findingAt 5 = .ok (.ifCond .eq 5, 3) := by decide +kernel
theorem dX4_findingAt_8 : decode cX4_findingAt 8 = .ok (.iconst 1, 1) := by decide +kernel
theorem dX4_findingAt_9 : decode cX4_findingAt 9 = .ok (.ireturn, 1) := by decide +kernel
theorem dX4_findingAt_10 : decode cX4_findingAt 10 = .ok (.aload_n 0, 1) := by decide +kernel
theorem dX4_findingAt_11 : decode cX4_findingAt 11 = .ok (.iload_n 1, 1) := by decide +kernel
theorem dX4_findingAt_12 : decode cX4_findingAt 12 = .ok (.iload_n 2, 1) := by decide +kernel
theorem dX4_findingAt_13 : decode cX4_findingAt 13 = .ok (.iload_n 3, 1) := by decide +kernel
theorem dX4_findingAt_14 : decode cX4_findingAt 14 = .ok (.invokevirtual 25, 3) := by decide +kernel
theorem dX4_findingAt_17 : decode cX4_findingAt 17 = .ok (.ifCond .eq 7, 3) := by decide +kernel
theorem dX4_findingAt_20 : decode cX4_findingAt 20 = .ok (.iconst 0, 1) := by decide +kernel
theorem dX4_findingAt_21 : decode cX4_findingAt 21 = .ok (.goto 4, 3) := by decide +kernel
theorem dX4_findingAt_24 : decode cX4_findingAt 24 = .ok (.iconst 2, 1) := by decide +kernel
theorem dX4_findingAt_25 : decode cX4_findingAt 25 = .ok (.ireturn, 1) := by decide +kernel
theorem dX4_read_0 : decode cX4_read 0 = .ok (.aload_n 0, 1) := by decide +kernel
theorem dX4_read_1 : decode cX4_read 1 = .ok (.getfield 18, 3) := by decide +kernel
theorem dX4_read_4 : decode cX4_read 4 = .ok (.iload_n 1, 1) := by decide +kernel
theorem dX4_read_5 : decode cX4_read 5 = .ok (.bipush 40, 2) := by decide +kernel
theorem dX4_read_7 : decode cX4_read 7 = .ok (.imul, 1) := by decide +kernel
theorem dX4_read_8 : decode cX4_read 8 = .ok (.iload_n 2, 1) := by decide +kernel
theorem dX4_read_9 : decode cX4_read 9 = .ok (.iadd, 1) := by decide +kernel
theorem dX4_read_10 : decode cX4_read 10 = .ok (.iaload, 1) := by decide +kernel
theorem dX4_read_11 : decode cX4_read 11 = .ok (.ireturn, 1) := by decide +kernel
theorem dX4_write_0 : decode cX4_write 0 = .ok (.aload_n 0, 1) := by decide +kernel
theorem dX4_write_1 : decode cX4_write 1 = .ok (.getfield 9, 3) := by decide +kernel
theorem dX4_write_4 : decode cX4_write 4 = .ok (.iload_n 1, 1) := by decide +kernel
theorem dX4_write_5 : decode cX4_write 5 = .ok (.iaload, 1) := by decide +kernel
theorem dX4_write_6 : decode cX4_write 6 = .ok (.iload_n 3, 1) := by decide +kernel
theorem dX4_write_7 : decode cX4_write 7 = .ok (.invokestatic 29, 3) := by decide +kernel
theorem dX4_write_10 : decode cX4_write 10 = .ok (.istore 4, 2) := by decide +kernel
theorem dX4_write_12 : decode cX4_write 12 = .ok (.aload_n 0, 1) := by decide +kernel
theorem dX4_write_13 : decode cX4_write 13 = .ok (.getfield 18, 3) := by decide +kernel
theorem dX4_write_16 : decode cX4_write 16 = .ok (.iload_n 1, 1) := by decide +kernel
theorem dX4_write_17 : decode cX4_write 17 = .ok (.bipush 40, 2) := by decide +kernel
theorem dX4_write_19 : decode cX4_write 19 = .ok (.imul, 1) := by decide +kernel
theorem dX4_write_20 : decode cX4_write 20 = .ok (.iload_n 2, 1) := by decide +kernel
theorem dX4_write_21 : decode cX4_write 21 = .ok (.iadd, 1) := by decide +kernel
theorem dX4_write_22 : decode cX4_write 22 = .ok (.iload 4, 2) := by decide +kernel
theorem dX4_write_24 : decode cX4_write 24 = .ok (.iastore, 1) := by decide +kernel
theorem dX4_write_25 : decode cX4_write 25 = .ok (.iload 4, 2) := by decide +kernel
theorem dX4_write_27 : decode cX4_write 27 = .ok (.ireturn, 1) := by decide +kernel
theorem dX4_move_0 : decode cX4_move 0 = .ok (.aload_n 0, 1) := by decide +kernel
theorem dX4_move_1 : decode cX4_move 1 = .ok (.getfield 18, 3) := by decide +kernel
theorem dX4_move_4 : decode cX4_move 4 = .ok (.iload_n 1, 1) := by decide +kernel
theorem dX4_move_5 : decode cX4_move 5 = .ok (.bipush 40, 2) := by decide +kernel
theorem dX4_move_7 : decode cX4_move 7 = .ok (.imul, 1) := by decide +kernel
theorem dX4_move_8 : decode cX4_move 8 = .ok (.iload_n 2, 1) := by decide +kernel
theorem dX4_move_9 : decode cX4_move 9 = .ok (.iadd, 1) := by decide +kernel
theorem dX4_move_10 : decode cX4_move 10 = .ok (.aload_n 0, 1) := by decide +kernel
theorem dX4_move_11 : decode cX4_move 11 = .ok (.getfield 18, 3) := by decide +kernel
theorem dX4_move_14 : decode cX4_move 14 = .ok (.iload_n 3, 1) := by decide +kernel
theorem dX4_move_15 : decode cX4_move 15 = .ok (.bipush 40, 2) := by decide +kernel
theorem dX4_move_17 : decode cX4_move 17 = .ok (.imul, 1) := by decide +kernel
theorem dX4_move_18 : decode cX4_move 18 = .ok (.iload 4, 2) := by decide +kernel
theorem dX4_move_20 : decode cX4_move 20 = .ok (.iadd, 1) := by decide +kernel
theorem dX4_move_21 : decode cX4_move 21 = .ok (.iload 5, 2) := by decide +kernel
theorem dX4_move_23 : decode cX4_move 23 = .ok (.invokestatic 33, 3) := by decide +kernel
theorem dX4_move_26 : decode cX4_move 26 = .ok (.return_, 1) := by decide +kernel
theorem dX4_inLane_0 : decode cX4_inLane 0 = .ok (.iload_n 0, 1) := by decide +kernel
theorem dX4_inLane_1 : decode cX4_inLane 1 = .ok (.lookupswitch 33 #[(0, 27), (1, 30)], 27) := by decide +kernel
theorem dX4_inLane_28 : decode cX4_inLane 28 = .ok (.iload_n 1, 1) := by decide +kernel
theorem dX4_inLane_29 : decode cX4_inLane 29 = .ok (.i2b, 1) := by decide +kernel
theorem dX4_inLane_30 : decode cX4_inLane 30 = .ok (.ireturn, 1) := by decide +kernel
theorem dX4_inLane_31 : decode cX4_inLane 31 = .ok (.iload_n 1, 1) := by decide +kernel
theorem dX4_inLane_32 : decode cX4_inLane 32 = .ok (.i2s, 1) := by decide +kernel
theorem dX4_inLane_33 : decode cX4_inLane 33 = .ok (.ireturn, 1) := by decide +kernel
theorem dX4_inLane_34 : decode cX4_inLane 34 = .ok (.iload_n 1, 1) := by decide +kernel
theorem dX4_inLane_35 : decode cX4_inLane 35 = .ok (.ireturn, 1) := by decide +kernel
theorem dX5_init_0 : decode cX5_init 0 = .ok (.aload_n 0, 1) := by decide +kernel
theorem dX5_init_1 : decode cX5_init 1 = .ok (.invokespecial 3, 3) := by decide +kernel
theorem dX5_init_4 : decode cX5_init 4 = .ok (.aload_n 0, 1) := by decide +kernel
theorem dX5_init_5 : decode cX5_init 5 = .ok (.bipush 100, 2) := by decide +kernel
theorem dX5_init_7 : decode cX5_init 7 = .ok (.newarray .int, 2) := by decide +kernel
theorem dX5_init_9 : decode cX5_init 9 = .ok (.putfield 9, 3) := by decide +kernel
theorem dX5_init_12 : decode cX5_init 12 = .ok (.aload_n 0, 1) := by decide +kernel
theorem dX5_init_13 : decode cX5_init 13 = .ok (.new 15, 3) := by decide +kernel
theorem dX5_init_16 : decode cX5_init 16 = .ok (.dup, 1) := by decide +kernel
theorem dX5_init_17 : decode cX5_init 17 = .ok (.invokespecial 17, 3) := by decide +kernel
theorem dX5_init_20 : decode cX5_init 20 = .ok (.putfield 18, 3) := by decide +kernel
theorem dX5_init_23 : decode cX5_init 23 = .ok (.aload_n 0, 1) := by decide +kernel
theorem dX5_init_24 : decode cX5_init 24 = .ok (.iconst 0, 1) := by decide +kernel
theorem dX5_init_25 : decode cX5_init 25 = .ok (.putfield 22, 3) := by decide +kernel
theorem dX5_init_28 : decode cX5_init 28 = .ok (.aload_n 0, 1) := by decide +kernel
theorem dX5_init_29 : decode cX5_init 29 = .ok (.iconst 0, 1) := by decide +kernel
theorem dX5_init_30 : decode cX5_init 30 = .ok (.putfield 26, 3) := by decide +kernel
theorem dX5_init_33 : decode cX5_init 33 = .ok (.aload_n 0, 1) := by decide +kernel
theorem dX5_init_34 : decode cX5_init 34 = .ok (.iconst 0, 1) := by decide +kernel
theorem dX5_init_35 : decode cX5_init 35 = .ok (.putfield 29, 3) := by decide +kernel
theorem dX5_init_38 : decode cX5_init 38 = .ok (.aload_n 0, 1) := by decide +kernel
theorem dX5_init_39 : decode cX5_init 39 = .ok (.ldc 32, 2) := by decide +kernel
theorem dX5_init_41 : decode cX5_init 41 = .ok (.putfield 33, 3) := by decide +kernel
theorem dX5_init_44 : decode cX5_init 44 = .ok (.return_, 1) := by decide +kernel
theorem dX5_isFull_0 : decode cX5_isFull 0 = .ok (.aload_n 0, 1) := by decide +kernel
theorem dX5_isFull_1 : decode cX5_isFull 1 = .ok (.getfield 22, 3) := by decide +kernel
theorem dX5_isFull_4 : decode cX5_isFull 4 = .ok (.bipush 100, 2) := by decide +kernel
theorem dX5_isFull_6 : decode cX5_isFull 6 = .ok (.if_icmp .lt 7, 3) := by decide +kernel
theorem dX5_isFull_9 : decode cX5_isFull 9 = .ok (.iconst 1, 1) := by decide +kernel
theorem dX5_isFull_10 : decode cX5_isFull 10 = .ok (.goto 4, 3) := by decide +kernel
theorem dX5_isFull_13 : decode cX5_isFull 13 = .ok (.iconst 0, 1) := by decide +kernel
theorem dX5_isFull_14 : decode cX5_isFull 14 = .ok (.ireturn, 1) := by decide +kernel
theorem dX5_add_0 : decode cX5_add 0 = .ok (.aload_n 0, 1) := by decide +kernel
theorem dX5_add_1 : decode cX5_add 1 = .ok (.getfield 9, 3) := by decide +kernel
theorem dX5_add_4 : decode cX5_add 4 = .ok (.aload_n 0, 1) := by decide +kernel
theorem dX5_add_5 : decode cX5_add 5 = .ok (.getfield 22, 3) := by decide +kernel
theorem dX5_add_8 : decode cX5_add 8 = .ok (.iload_n 1, 1) := by decide +kernel
theorem dX5_add_9 : decode cX5_add 9 = .ok (.iastore, 1) := by decide +kernel
theorem dX5_add_10 : decode cX5_add 10 = .ok (.aload_n 0, 1) := by decide +kernel
theorem dX5_add_11 : decode cX5_add 11 = .ok (.dup, 1) := by decide +kernel
theorem dX5_add_12 : decode cX5_add 12 = .ok (.getfield 22, 3) := by decide +kernel
theorem dX5_add_15 : decode cX5_add 15 = .ok (.iconst 1, 1) := by decide +kernel
theorem dX5_add_16 : decode cX5_add 16 = .ok (.iadd, 1) := by decide +kernel
theorem dX5_add_17 : decode cX5_add 17 = .ok (.putfield 22, 3) := by decide +kernel
theorem dX5_add_20 : decode cX5_add 20 = .ok (.aload_n 0, 1) := by decide +kernel
theorem dX5_add_21 : decode cX5_add 21 = .ok (.getfield 22, 3) := by decide +kernel
theorem dX5_add_24 : decode cX5_add 24 = .ok (.ireturn, 1) := by decide +kernel
theorem dX5_readInto_0 : decode cX5_readInto 0 = .ok (.aload_n 0, 1) := by decide +kernel
theorem dX5_readInto_1 : decode cX5_readInto 1 = .ok (.iconst 0, 1) := by decide +kernel
theorem dX5_readInto_2 : decode cX5_readInto 2 = .ok (.putfield 29, 3) := by decide +kernel
theorem dX5_readInto_5 : decode cX5_readInto 5 = .ok (.aload_n 0, 1) := by decide +kernel
theorem dX5_readInto_6 : decode cX5_readInto 6 = .ok (.ldc 32, 2) := by decide +kernel
theorem dX5_readInto_8 : decode cX5_readInto 8 = .ok (.putfield 33, 3) := by decide +kernel
theorem dX5_readInto_11 : decode cX5_readInto 11 = .ok (.aload_n 0, 1) := by decide +kernel
theorem dX5_readInto_12 : decode cX5_readInto 12 = .ok (.invokevirtual 36, 3) := by decide +kernel
theorem dX5_readInto_15 : decode cX5_readInto 15 = .ok (.aload_n 0, 1) := by decide +kernel
theorem dX5_readInto_16 : decode cX5_readInto 16 = .ok (.invokevirtual 39, 3) := by decide +kernel
theorem dX5_readInto_19 : decode cX5_readInto 19 = .ok (.aload_n 0, 1) := by decide +kernel
theorem dX5_readInto_20 : decode cX5_readInto 20 = .ok (.iconst 0, 1) := by decide +kernel
theorem dX5_readInto_21 : decode cX5_readInto 21 = .ok (.putfield 22, 3) := by decide +kernel
theorem dX5_readInto_24 : decode cX5_readInto 24 = .ok (.aload_n 0, 1) := by decide +kernel
theorem dX5_readInto_25 : decode cX5_readInto 25 = .ok (.getfield 33, 3) := by decide +kernel
theorem dX5_readInto_28 : decode cX5_readInto 28 = .ok (.ldc 32, 2) := by decide +kernel
theorem dX5_readInto_30 : decode cX5_readInto 30 = .ok (.if_icmp .ne 18, 3) := by decide +kernel
theorem dX5_readInto_33 : decode cX5_readInto 33 = .ok (.aload_n 0, 1) := by decide +kernel
theorem dX5_readInto_34 : decode cX5_readInto 34 = .ok (.getfield 18, 3) := by decide +kernel
theorem dX5_readInto_37 : decode cX5_readInto 37 = .ok (.invokevirtual 42, 3) := by decide +kernel
theorem dX5_readInto_40 : decode cX5_readInto 40 = .ok (.aload_n 1, 1) := by decide +kernel
theorem dX5_readInto_41 : decode cX5_readInto 41 = .ok (.aload_n 0, 1) := by decide +kernel
theorem dX5_readInto_42 : decode cX5_readInto 42 = .ok (.getfield 18, 3) := by decide +kernel
theorem dX5_readInto_45 : decode cX5_readInto 45 = .ok (.invokevirtual 45, 3) := by decide +kernel
theorem dX5_readInto_48 : decode cX5_readInto 48 = .ok (.aload_n 0, 1) := by decide +kernel
theorem dX5_readInto_49 : decode cX5_readInto 49 = .ok (.getfield 33, 3) := by decide +kernel
theorem dX5_readInto_52 : decode cX5_readInto 52 = .ok (.ireturn, 1) := by decide +kernel
theorem dX5_readLaw_0 : decode cX5_readLaw 0 = .ok (.aload_n 0, 1) := by decide +kernel
theorem dX5_readLaw_1 : decode cX5_readLaw 1 = .ok (.bipush 101, 2) := by decide +kernel
theorem dX5_readLaw_3 : decode cX5_readLaw 3 = .ok (.invokevirtual 49, 3) := by decide +kernel
theorem dX5_readLaw_6 : decode cX5_readLaw 6 = .ok (.aload_n 0, 1) := by decide +kernel
theorem dX5_readLaw_7 : decode cX5_readLaw 7 = .ok (.getfield 18, 3) := by decide +kernel
theorem dX5_readLaw_10 : decode cX5_readLaw 10 = .ok (.aload_n 0, 1) := by decide +kernel
theorem dX5_readLaw_11 : decode cX5_readLaw 11 = .ok (.iconst 0, 1) := by decide +kernel
theorem dX5_readLaw_12 : decode cX5_readLaw 12 = .ok (.bipush 9, 2) := by decide +kernel
theorem dX5_readLaw_14 : decode cX5_readLaw 14 = .ok (.invokevirtual 53, 3) := by decide +kernel
theorem dX5_readLaw_17 : decode cX5_readLaw 17 = .ok (.putfield 57, 3) := by decide +kernel
theorem dX5_readLaw_20 : decode cX5_readLaw 20 = .ok (.aload_n 0, 1) := by decide +kernel
theorem dX5_readLaw_21 : decode cX5_readLaw 21 = .ok (.bipush 44, 2) := by decide +kernel
theorem dX5_readLaw_23 : decode cX5_readLaw 23 = .ok (.invokevirtual 49, 3) := by decide +kernel
theorem dX5_readLaw_26 : decode cX5_readLaw 26 = .ok (.aload_n 0, 1) := by decide +kernel
theorem dX5_readLaw_27 : decode cX5_readLaw 27 = .ok (.getfield 18, 3) := by decide +kernel
theorem dX5_readLaw_30 : decode cX5_readLaw 30 = .ok (.aload_n 0, 1) := by decide +kernel
theorem dX5_readLaw_31 : decode cX5_readLaw 31 = .ok (.iconst 0, 1) := by decide +kernel
theorem dX5_readLaw_32 : decode cX5_readLaw 32 = .ok (.bipush 20, 2) := by decide +kernel
theorem dX5_readLaw_34 : decode cX5_readLaw 34 = .ok (.invokevirtual 53, 3) := by decide +kernel
theorem dX5_readLaw_37 : decode cX5_readLaw 37 = .ok (.putfield 60, 3) := by decide +kernel
theorem dX5_readLaw_40 : decode cX5_readLaw 40 = .ok (.aload_n 0, 1) := by decide +kernel
theorem dX5_readLaw_41 : decode cX5_readLaw 41 = .ok (.bipush 59, 2) := by decide +kernel
theorem dX5_readLaw_43 : decode cX5_readLaw 43 = .ok (.invokevirtual 49, 3) := by decide +kernel
theorem dX5_readLaw_46 : decode cX5_readLaw 46 = .ok (.return_, 1) := by decide +kernel
theorem dX5_readThings_0 : decode cX5_readThings 0 = .ok (.aload_n 0, 1) := by decide +kernel
theorem dX5_readThings_1 : decode cX5_readThings 1 = .ok (.iconst 0, 1) := by decide +kernel
theorem dX5_readThings_2 : decode cX5_readThings 2 = .ok (.invokevirtual 63, 3) := by decide +kernel
theorem dX5_readThings_5 : decode cX5_readThings 5 = .ok (.aload_n 0, 1) := by decide +kernel
theorem dX5_readThings_6 : decode cX5_readThings 6 = .ok (.getfield 18, 3) := by decide +kernel
theorem dX5_readThings_9 : decode cX5_readThings 9 = .ok (.iconst 1, 1) := by decide +kernel
theorem dX5_readThings_10 : decode cX5_readThings 10 = .ok (.putfield 66, 3) := by decide +kernel
theorem dX5_readThings_13 : decode cX5_readThings 13 = .ok (.aload_n 0, 1) := by decide +kernel
theorem dX5_readThings_14 : decode cX5_readThings 14 = .ok (.invokevirtual 69, 3) := by decide +kernel
theorem dX5_readThings_17 : decode cX5_readThings 17 = .ok (.ifCond .eq 42, 3) := by decide +kernel
theorem dX5_readThings_20 : decode cX5_readThings 20 = .ok (.aload_n 0, 1) := by decide +kernel
theorem dX5_readThings_21 : decode cX5_readThings 21 = .ok (.getfield 18, 3) := by decide +kernel
theorem dX5_readThings_24 : decode cX5_readThings 24 = .ok (.getfield 66, 3) := by decide +kernel
theorem dX5_readThings_27 : decode cX5_readThings 27 = .ok (.bipush 6, 2) := by decide +kernel
theorem dX5_readThings_29 : decode cX5_readThings 29 = .ok (.if_icmp .ge 30, 3) := by decide +kernel
theorem dX5_readThings_32 : decode cX5_readThings 32 = .ok (.aload_n 0, 1) := by decide +kernel
theorem dX5_readThings_33 : decode cX5_readThings 33 = .ok (.aload_n 0, 1) := by decide +kernel
theorem dX5_readThings_34 : decode cX5_readThings 34 = .ok (.getfield 18, 3) := by decide +kernel
theorem dX5_readThings_37 : decode cX5_readThings 37 = .ok (.getfield 66, 3) := by decide +kernel
theorem dX5_readThings_40 : decode cX5_readThings 40 = .ok (.invokevirtual 63, 3) := by decide +kernel
theorem dX5_readThings_43 : decode cX5_readThings 43 = .ok (.aload_n 0, 1) := by decide +kernel
theorem dX5_readThings_44 : decode cX5_readThings 44 = .ok (.getfield 18, 3) := by decide +kernel
theorem dX5_readThings_47 : decode cX5_readThings 47 = .ok (.dup, 1) := by decide +kernel
theorem dX5_readThings_48 : decode cX5_readThings 48 = .ok (.getfield 66, 3) := by decide +kernel
theorem dX5_readThings_51 : decode cX5_readThings 51 = .ok (.iconst 1, 1) := by decide +kernel
theorem dX5_readThings_52 : decode cX5_readThings 52 = .ok (.iadd, 1) := by decide +kernel
theorem dX5_readThings_53 : decode cX5_readThings 53 = .ok (.putfield 66, 3) := by decide +kernel
theorem dX5_readThings_56 : decode cX5_readThings 56 = .ok (.goto (-43), 3) := by decide +kernel
theorem dX5_readThings_59 : decode cX5_readThings 59 = .ok (.aload_n 0, 1) := by decide +kernel
theorem dX5_readThings_60 : decode cX5_readThings 60 = .ok (.invokevirtual 69, 3) := by decide +kernel
theorem dX5_readThings_63 : decode cX5_readThings 63 = .ok (.ifCond .eq 24, 3) := by decide +kernel
theorem dX5_readThings_66 : decode cX5_readThings 66 = .ok (.aload_n 0, 1) := by decide +kernel
theorem dX5_readThings_67 : decode cX5_readThings 67 = .ok (.aload_n 0, 1) := by decide +kernel
theorem dX5_readThings_68 : decode cX5_readThings 68 = .ok (.invokevirtual 73, 3) := by decide +kernel
theorem dX5_readThings_71 : decode cX5_readThings 71 = .ok (.invokestatic 77, 3) := by decide +kernel
theorem dX5_readThings_74 : decode cX5_readThings 74 = .ok (.ldc 32, 2) := by decide +kernel
theorem dX5_readThings_76 : decode cX5_readThings 76 = .ok (.if_icmp .ne 7, 3) := by decide +kernel
theorem dX5_readThings_79 : decode cX5_readThings 79 = .ok (.iconst 1, 1) := by decide +kernel
theorem dX5_readThings_80 : decode cX5_readThings 80 = .ok (.goto 4, 3) := by decide +kernel
theorem dX5_readThings_83 : decode cX5_readThings 83 = .ok (.iconst 3, 1) := by decide +kernel
theorem dX5_readThings_84 : decode cX5_readThings 84 = .ok (.invokevirtual 81, 3) := by decide +kernel
theorem dX5_readThings_87 : decode cX5_readThings 87 = .ok (.return_, 1) := by decide +kernel
theorem dX5_readThing_0 : decode cX5_readThing 0 = .ok (.aload_n 0, 1) := by decide +kernel
theorem dX5_readThing_1 : decode cX5_readThing 1 = .ok (.getfield 18, 3) := by decide +kernel
theorem dX5_readThing_4 : decode cX5_readThing 4 = .ok (.getfield 84, 3) := by decide +kernel
theorem dX5_readThing_7 : decode cX5_readThing 7 = .ok (.iload_n 1, 1) := by decide +kernel
theorem dX5_readThing_8 : decode cX5_readThing 8 = .ok (.aload_n 0, 1) := by decide +kernel
theorem dX5_readThing_9 : decode cX5_readThing 9 = .ok (.invokevirtual 87, 3) := by decide +kernel
theorem dX5_readThing_12 : decode cX5_readThing 12 = .ok (.iastore, 1) := by decide +kernel
theorem dX5_readThing_13 : decode cX5_readThing 13 = .ok (.aload_n 0, 1) := by decide +kernel
theorem dX5_readThing_14 : decode cX5_readThing 14 = .ok (.getfield 18, 3) := by decide +kernel
theorem dX5_readThing_17 : decode cX5_readThing 17 = .ok (.getfield 90, 3) := by decide +kernel
theorem dX5_readThing_20 : decode cX5_readThing 20 = .ok (.iload_n 1, 1) := by decide +kernel
theorem dX5_readThing_21 : decode cX5_readThing 21 = .ok (.aload_n 0, 1) := by decide +kernel
theorem dX5_readThing_22 : decode cX5_readThing 22 = .ok (.iconst 0, 1) := by decide +kernel
theorem dX5_readThing_23 : decode cX5_readThing 23 = .ok (.bipush 60, 2) := by decide +kernel
theorem dX5_readThing_25 : decode cX5_readThing 25 = .ok (.invokevirtual 53, 3) := by decide +kernel
theorem dX5_readThing_28 : decode cX5_readThing 28 = .ok (.iastore, 1) := by decide +kernel
theorem dX5_readThing_29 : decode cX5_readThing 29 = .ok (.aload_n 0, 1) := by decide +kernel
theorem dX5_readThing_30 : decode cX5_readThing 30 = .ok (.bipush 44, 2) := by decide +kernel
theorem dX5_readThing_32 : decode cX5_readThing 32 = .ok (.invokevirtual 49, 3) := by decide +kernel
theorem dX5_readThing_35 : decode cX5_readThing 35 = .ok (.aload_n 0, 1) := by decide +kernel
theorem dX5_readThing_36 : decode cX5_readThing 36 = .ok (.getfield 18, 3) := by decide +kernel
theorem dX5_readThing_39 : decode cX5_readThing 39 = .ok (.getfield 93, 3) := by decide +kernel
theorem dX5_readThing_42 : decode cX5_readThing 42 = .ok (.iload_n 1, 1) := by decide +kernel
theorem dX5_readThing_43 : decode cX5_readThing 43 = .ok (.aload_n 0, 1) := by decide +kernel
theorem dX5_readThing_44 : decode cX5_readThing 44 = .ok (.iconst 1, 1) := by decide +kernel
theorem dX5_readThing_45 : decode cX5_readThing 45 = .ok (.bipush 9, 2) := by decide +kernel
theorem dX5_readThing_47 : decode cX5_readThing 47 = .ok (.invokevirtual 53, 3) := by decide +kernel
theorem dX5_readThing_50 : decode cX5_readThing 50 = .ok (.iastore, 1) := by decide +kernel
theorem dX5_readThing_51 : decode cX5_readThing 51 = .ok (.aload_n 0, 1) := by decide +kernel
theorem dX5_readThing_52 : decode cX5_readThing 52 = .ok (.bipush 44, 2) := by decide +kernel
theorem dX5_readThing_54 : decode cX5_readThing 54 = .ok (.invokevirtual 49, 3) := by decide +kernel
theorem dX5_readThing_57 : decode cX5_readThing 57 = .ok (.aload_n 0, 1) := by decide +kernel
theorem dX5_readThing_58 : decode cX5_readThing 58 = .ok (.getfield 18, 3) := by decide +kernel
theorem dX5_readThing_61 : decode cX5_readThing 61 = .ok (.getfield 96, 3) := by decide +kernel
theorem dX5_readThing_64 : decode cX5_readThing 64 = .ok (.iload_n 1, 1) := by decide +kernel
theorem dX5_readThing_65 : decode cX5_readThing 65 = .ok (.aload_n 0, 1) := by decide +kernel
theorem dX5_readThing_66 : decode cX5_readThing 66 = .ok (.iconst 1, 1) := by decide +kernel
theorem dX5_readThing_67 : decode cX5_readThing 67 = .ok (.bipush 9, 2) := by decide +kernel
theorem dX5_readThing_69 : decode cX5_readThing 69 = .ok (.invokevirtual 53, 3) := by decide +kernel
theorem dX5_readThing_72 : decode cX5_readThing 72 = .ok (.iastore, 1) := by decide +kernel
theorem dX5_readThing_73 : decode cX5_readThing 73 = .ok (.aload_n 0, 1) := by decide +kernel
theorem dX5_readThing_74 : decode cX5_readThing 74 = .ok (.bipush 44, 2) := by decide +kernel
theorem dX5_readThing_76 : decode cX5_readThing 76 = .ok (.invokevirtual 49, 3) := by decide +kernel
theorem dX5_readThing_79 : decode cX5_readThing 79 = .ok (.aload_n 0, 1) := by decide +kernel
theorem dX5_readThing_80 : decode cX5_readThing 80 = .ok (.getfield 18, 3) := by decide +kernel
theorem dX5_readThing_83 : decode cX5_readThing 83 = .ok (.getfield 99, 3) := by decide +kernel
theorem dX5_readThing_86 : decode cX5_readThing 86 = .ok (.iload_n 1, 1) := by decide +kernel
theorem dX5_readThing_87 : decode cX5_readThing 87 = .ok (.aload_n 0, 1) := by decide +kernel
theorem dX5_readThing_88 : decode cX5_readThing 88 = .ok (.iconst 0, 1) := by decide +kernel
theorem dX5_readThing_89 : decode cX5_readThing 89 = .ok (.iconst 1, 1) := by decide +kernel
theorem dX5_readThing_90 : decode cX5_readThing 90 = .ok (.invokevirtual 53, 3) := by decide +kernel
theorem dX5_readThing_93 : decode cX5_readThing 93 = .ok (.iastore, 1) := by decide +kernel
theorem dX5_readThing_94 : decode cX5_readThing 94 = .ok (.aload_n 0, 1) := by decide +kernel
theorem dX5_readThing_95 : decode cX5_readThing 95 = .ok (.bipush 59, 2) := by decide +kernel
theorem dX5_readThing_97 : decode cX5_readThing 97 = .ok (.invokevirtual 49, 3) := by decide +kernel
theorem dX5_readThing_100 : decode cX5_readThing 100 = .ok (.return_, 1) := by decide +kernel
theorem dX5_goesOn_0 : decode cX5_goesOn 0 = .ok (.aload_n 0, 1) := by decide +kernel
theorem dX5_goesOn_1 : decode cX5_goesOn 1 = .ok (.getfield 33, 3) := by decide +kernel
theorem dX5_goesOn_4 : decode cX5_goesOn 4 = .ok (.ldc 32, 2) := by decide +kernel
theorem dX5_goesOn_6 : decode cX5_goesOn 6 = .ok (.if_icmp .ne 18, 3) := by decide +kernel
theorem dX5_goesOn_9 : decode cX5_goesOn 9 = .ok (.aload_n 0, 1) := by decide +kernel
theorem dX5_goesOn_10 : decode cX5_goesOn 10 = .ok (.getfield 29, 3) := by decide +kernel
theorem dX5_goesOn_13 : decode cX5_goesOn 13 = .ok (.aload_n 0, 1) := by decide +kernel
theorem dX5_goesOn_14 : decode cX5_goesOn 14 = .ok (.getfield 22, 3) := by decide +kernel
theorem dX5_goesOn_17 : decode cX5_goesOn 17 = .ok (.if_icmp .ge 7, 3) := by decide +kernel
theorem dX5_goesOn_20 : decode cX5_goesOn 20 = .ok (.iconst 1, 1) := by decide +kernel
theorem dX5_goesOn_21 : decode cX5_goesOn 21 = .ok (.goto 4, 3) := by decide +kernel
theorem dX5_goesOn_24 : decode cX5_goesOn 24 = .ok (.iconst 0, 1) := by decide +kernel
theorem dX5_goesOn_25 : decode cX5_goesOn 25 = .ok (.ireturn, 1) := by decide +kernel
theorem dX5_next_0 : decode cX5_next 0 = .ok (.aload_n 0, 1) := by decide +kernel
theorem dX5_next_1 : decode cX5_next 1 = .ok (.getfield 29, 3) := by decide +kernel
theorem dX5_next_4 : decode cX5_next 4 = .ok (.aload_n 0, 1) := by decide +kernel
theorem dX5_next_5 : decode cX5_next 5 = .ok (.getfield 22, 3) := by decide +kernel
theorem dX5_next_8 : decode cX5_next 8 = .ok (.if_icmp .ge 15, 3) := by decide +kernel
theorem dX5_next_11 : decode cX5_next 11 = .ok (.aload_n 0, 1) := by decide +kernel
theorem dX5_next_12 : decode cX5_next 12 = .ok (.getfield 9, 3) := by decide +kernel
theorem dX5_next_15 : decode cX5_next 15 = .ok (.aload_n 0, 1) := by decide +kernel
theorem dX5_next_16 : decode cX5_next 16 = .ok (.getfield 29, 3) := by decide +kernel
theorem dX5_next_19 : decode cX5_next 19 = .ok (.iaload, 1) := by decide +kernel
theorem dX5_next_20 : decode cX5_next 20 = .ok (.goto 5, 3) := by decide +kernel
theorem dX5_next_23 : decode cX5_next 23 = .ok (.ldc 32, 2) := by decide +kernel
theorem dX5_next_25 : decode cX5_next 25 = .ok (.ireturn, 1) := by decide +kernel
theorem dX5_fail_0 : decode cX5_fail 0 = .ok (.aload_n 0, 1) := by decide +kernel
theorem dX5_fail_1 : decode cX5_fail 1 = .ok (.getfield 33, 3) := by decide +kernel
theorem dX5_fail_4 : decode cX5_fail 4 = .ok (.ldc 32, 2) := by decide +kernel
theorem dX5_fail_6 : decode cX5_fail 6 = .ok (.if_icmp .ne 16, 3) := by decide +kernel
theorem dX5_fail_9 : decode cX5_fail 9 = .ok (.aload_n 0, 1) := by decide +kernel
theorem dX5_fail_10 : decode cX5_fail 10 = .ok (.aload_n 0, 1) := by decide +kernel
theorem dX5_fail_11 : decode cX5_fail 11 = .ok (.getfield 29, 3) := by decide +kernel
theorem dX5_fail_14 : decode cX5_fail 14 = .ok (.putfield 33, 3) := by decide +kernel
theorem dX5_fail_17 : decode cX5_fail 17 = .ok (.aload_n 0, 1) := by decide +kernel
theorem dX5_fail_18 : decode cX5_fail 18 = .ok (.iload_n 1, 1) := by decide +kernel
theorem dX5_fail_19 : decode cX5_fail 19 = .ok (.putfield 26, 3) := by decide +kernel
theorem dX5_fail_22 : decode cX5_fail 22 = .ok (.return_, 1) := by decide +kernel
theorem dX5_readSign_0 : decode cX5_readSign 0 = .ok (.aload_n 0, 1) := by decide +kernel
theorem dX5_readSign_1 : decode cX5_readSign 1 = .ok (.invokevirtual 73, 3) := by decide +kernel
theorem dX5_readSign_4 : decode cX5_readSign 4 = .ok (.iload_n 1, 1) := by decide +kernel
theorem dX5_readSign_5 : decode cX5_readSign 5 = .ok (.if_icmp .ne 16, 3) := by decide +kernel
theorem dX5_readSign_8 : decode cX5_readSign 8 = .ok (.aload_n 0, 1) := by decide +kernel
theorem dX5_readSign_9 : decode cX5_readSign 9 = .ok (.dup, 1) := by decide +kernel
theorem dX5_readSign_10 : decode cX5_readSign 10 = .ok (.getfield 29, 3) := by decide +kernel
theorem dX5_readSign_13 : decode cX5_readSign 13 = .ok (.iconst 1, 1) := by decide +kernel
theorem dX5_readSign_14 : decode cX5_readSign 14 = .ok (.iadd, 1) := by decide +kernel
theorem dX5_readSign_15 : decode cX5_readSign 15 = .ok (.putfield 29, 3) := by decide +kernel
theorem dX5_readSign_18 : decode cX5_readSign 18 = .ok (.goto 8, 3) := by decide +kernel
theorem dX5_readSign_21 : decode cX5_readSign 21 = .ok (.aload_n 0, 1) := by decide +kernel
theorem dX5_readSign_22 : decode cX5_readSign 22 = .ok (.iconst 1, 1) := by decide +kernel
theorem dX5_readSign_23 : decode cX5_readSign 23 = .ok (.invokevirtual 81, 3) := by decide +kernel
theorem dX5_readSign_26 : decode cX5_readSign 26 = .ok (.return_, 1) := by decide +kernel
theorem dX5_readSort_0 : decode cX5_readSort 0 = .ok (.aload_n 0, 1) := by decide +kernel
theorem dX5_readSort_1 : decode cX5_readSort 1 = .ok (.invokevirtual 73, 3) := by decide +kernel
theorem dX5_readSort_4 : decode cX5_readSort 4 = .ok (.invokestatic 77, 3) := by decide +kernel
theorem dX5_readSort_7 : decode cX5_readSort 7 = .ok (.istore_n 1, 1) := by decide +kernel
theorem dX5_readSort_8 : decode cX5_readSort 8 = .ok (.iload_n 1, 1) := by decide +kernel
theorem dX5_readSort_9 : decode cX5_readSort 9 = .ok (.ldc 32, 2) := by decide +kernel
theorem dX5_readSort_11 : decode cX5_readSort 11 = .ok (.if_icmp .ne 11, 3) := by decide +kernel
theorem dX5_readSort_14 : decode cX5_readSort 14 = .ok (.aload_n 0, 1) := by decide +kernel
theorem dX5_readSort_15 : decode cX5_readSort 15 = .ok (.iconst 1, 1) := by decide +kernel
theorem dX5_readSort_16 : decode cX5_readSort 16 = .ok (.invokevirtual 81, 3) := by decide +kernel
theorem dX5_readSort_19 : decode cX5_readSort 19 = .ok (.goto 13, 3) := by decide +kernel
theorem dX5_readSort_22 : decode cX5_readSort 22 = .ok (.aload_n 0, 1) := by decide +kernel
theorem dX5_readSort_23 : decode cX5_readSort 23 = .ok (.dup, 1) := by decide +kernel
theorem dX5_readSort_24 : decode cX5_readSort 24 = .ok (.getfield 29, 3) := by decide +kernel
theorem dX5_readSort_27 : decode cX5_readSort 27 = .ok (.iconst 1, 1) := by decide +kernel
theorem dX5_readSort_28 : decode cX5_readSort 28 = .ok (.iadd, 1) := by decide +kernel
theorem dX5_readSort_29 : decode cX5_readSort 29 = .ok (.putfield 29, 3) := by decide +kernel
theorem dX5_readSort_32 : decode cX5_readSort 32 = .ok (.iload_n 1, 1) := by decide +kernel
theorem dX5_readSort_33 : decode cX5_readSort 33 = .ok (.ireturn, 1) := by decide +kernel
theorem dX5_readNumber_0 : decode cX5_readNumber 0 = .ok (.iconst 0, 1) := by decide +kernel
theorem dX5_readNumber_1 : decode cX5_readNumber 1 = .ok (.istore_n 3, 1) := by decide +kernel
theorem dX5_readNumber_2 : decode cX5_readNumber 2 = .ok (.iconst 0, 1) := by decide +kernel
theorem dX5_readNumber_3 : decode cX5_readNumber 3 = .ok (.istore 4, 2) := by decide +kernel
theorem dX5_readNumber_5 : decode cX5_readNumber 5 = .ok (.iload_n 3, 1) := by decide +kernel
theorem dX5_readNumber_6 : decode cX5_readNumber 6 = .ok (.iconst 3, 1) := by decide +kernel
theorem dX5_readNumber_7 : decode cX5_readNumber 7 = .ok (.if_icmp .ge 44, 3) := by decide +kernel
theorem dX5_readNumber_10 : decode cX5_readNumber 10 = .ok (.aload_n 0, 1) := by decide +kernel
theorem dX5_readNumber_11 : decode cX5_readNumber 11 = .ok (.aload_n 0, 1) := by decide +kernel
theorem dX5_readNumber_12 : decode cX5_readNumber 12 = .ok (.getfield 29, 3) := by decide +kernel
theorem dX5_readNumber_15 : decode cX5_readNumber 15 = .ok (.iload_n 3, 1) := by decide +kernel
theorem dX5_readNumber_16 : decode cX5_readNumber 16 = .ok (.iadd, 1) := by decide +kernel
theorem dX5_readNumber_17 : decode cX5_readNumber 17 = .ok (.invokevirtual 102, 3) := by decide +kernel
theorem dX5_readNumber_20 : decode cX5_readNumber 20 = .ok (.ifCond .eq 31, 3) := by decide +kernel
theorem dX5_readNumber_23 : decode cX5_readNumber 23 = .ok (.iload 4, 2) := by decide +kernel
theorem dX5_readNumber_25 : decode cX5_readNumber 25 = .ok (.bipush 10, 2) := by decide +kernel
theorem dX5_readNumber_27 : decode cX5_readNumber 27 = .ok (.imul, 1) := by decide +kernel
theorem dX5_readNumber_28 : decode cX5_readNumber 28 = .ok (.aload_n 0, 1) := by decide +kernel
theorem dX5_readNumber_29 : decode cX5_readNumber 29 = .ok (.getfield 9, 3) := by decide +kernel
theorem dX5_readNumber_32 : decode cX5_readNumber 32 = .ok (.aload_n 0, 1) := by decide +kernel
theorem dX5_readNumber_33 : decode cX5_readNumber 33 = .ok (.getfield 29, 3) := by decide +kernel
theorem dX5_readNumber_36 : decode cX5_readNumber 36 = .ok (.iload_n 3, 1) := by decide +kernel
theorem dX5_readNumber_37 : decode cX5_readNumber 37 = .ok (.iadd, 1) := by decide +kernel
theorem dX5_readNumber_38 : decode cX5_readNumber 38 = .ok (.iaload, 1) := by decide +kernel
theorem dX5_readNumber_39 : decode cX5_readNumber 39 = .ok (.iadd, 1) := by decide +kernel
theorem dX5_readNumber_40 : decode cX5_readNumber 40 = .ok (.bipush 48, 2) := by decide +kernel
theorem dX5_readNumber_42 : decode cX5_readNumber 42 = .ok (.isub, 1) := by decide +kernel
theorem dX5_readNumber_43 : decode cX5_readNumber 43 = .ok (.istore 4, 2) := by decide +kernel
theorem dX5_readNumber_45 : decode cX5_readNumber 45 = .ok (.iinc 3 1, 3) := by decide +kernel
theorem dX5_readNumber_48 : decode cX5_readNumber 48 = .ok (.goto (-43), 3) := by decide +kernel
theorem dX5_readNumber_51 : decode cX5_readNumber 51 = .ok (.iload_n 3, 1) := by decide +kernel
theorem dX5_readNumber_52 : decode cX5_readNumber 52 = .ok (.iconst 1, 1) := by decide +kernel
theorem dX5_readNumber_53 : decode cX5_readNumber 53 = .ok (.if_icmp .lt 8, 3) := by decide +kernel
theorem dX5_readNumber_56 : decode cX5_readNumber 56 = .ok (.iload_n 3, 1) := by decide +kernel
theorem dX5_readNumber_57 : decode cX5_readNumber 57 = .ok (.iconst 2, 1) := by decide +kernel
theorem dX5_readNumber_58 : decode cX5_readNumber 58 = .ok (.if_icmp .le 11, 3) := by decide +kernel
theorem dX5_readNumber_61 : decode cX5_readNumber 61 = .ok (.aload_n 0, 1) := by decide +kernel
theorem dX5_readNumber_62 : decode cX5_readNumber 62 = .ok (.iconst 1, 1) := by decide +kernel
theorem dX5_readNumber_63 : decode cX5_readNumber 63 = .ok (.invokevirtual 81, 3) := by decide +kernel
theorem dX5_readNumber_66 : decode cX5_readNumber 66 = .ok (.goto 31, 3) := by decide +kernel
theorem dX5_readNumber_69 : decode cX5_readNumber 69 = .ok (.iload 4, 2) := by decide +kernel
theorem dX5_readNumber_71 : decode cX5_readNumber 71 = .ok (.iload_n 1, 1) := by decide +kernel
theorem dX5_readNumber_72 : decode cX5_readNumber 72 = .ok (.iload_n 2, 1) := by decide +kernel
theorem dX5_readNumber_73 : decode cX5_readNumber 73 = .ok (.invokestatic 106, 3) := by decide +kernel
theorem dX5_readNumber_76 : decode cX5_readNumber 76 = .ok (.ifCond .ne 11, 3) := by decide +kernel
theorem dX5_readNumber_79 : decode cX5_readNumber 79 = .ok (.aload_n 0, 1) := by decide +kernel
theorem dX5_readNumber_80 : decode cX5_readNumber 80 = .ok (.iconst 2, 1) := by decide +kernel
theorem dX5_readNumber_81 : decode cX5_readNumber 81 = .ok (.invokevirtual 81, 3) := by decide +kernel
theorem dX5_readNumber_84 : decode cX5_readNumber 84 = .ok (.goto 13, 3) := by decide +kernel
theorem dX5_readNumber_87 : decode cX5_readNumber 87 = .ok (.aload_n 0, 1) := by decide +kernel
theorem dX5_readNumber_88 : decode cX5_readNumber 88 = .ok (.dup, 1) := by decide +kernel
theorem dX5_readNumber_89 : decode cX5_readNumber 89 = .ok (.getfield 29, 3) := by decide +kernel
theorem dX5_readNumber_92 : decode cX5_readNumber 92 = .ok (.iload_n 3, 1) := by decide +kernel
theorem dX5_readNumber_93 : decode cX5_readNumber 93 = .ok (.iadd, 1) := by decide +kernel
theorem dX5_readNumber_94 : decode cX5_readNumber 94 = .ok (.putfield 29, 3) := by decide +kernel
theorem dX5_readNumber_97 : decode cX5_readNumber 97 = .ok (.iload 4, 2) := by decide +kernel
theorem dX5_readNumber_99 : decode cX5_readNumber 99 = .ok (.ireturn, 1) := by decide +kernel
theorem dX5_isFigureAt_0 : decode cX5_isFigureAt 0 = .ok (.iload_n 1, 1) := by decide +kernel
theorem dX5_isFigureAt_1 : decode cX5_isFigureAt 1 = .ok (.aload_n 0, 1) := by decide +kernel
theorem dX5_isFigureAt_2 : decode cX5_isFigureAt 2 = .ok (.getfield 22, 3) := by decide +kernel
theorem dX5_isFigureAt_5 : decode cX5_isFigureAt 5 = .ok (.if_icmp .ge 23, 3) := by decide +kernel
theorem dX5_isFigureAt_8 : decode cX5_isFigureAt 8 = .ok (.aload_n 0, 1) := by decide +kernel
theorem dX5_isFigureAt_9 : decode cX5_isFigureAt 9 = .ok (.getfield 9, 3) := by decide +kernel
theorem dX5_isFigureAt_12 : decode cX5_isFigureAt 12 = .ok (.iload_n 1, 1) := by decide +kernel
theorem dX5_isFigureAt_13 : decode cX5_isFigureAt 13 = .ok (.iaload, 1) := by decide +kernel
theorem dX5_isFigureAt_14 : decode cX5_isFigureAt 14 = .ok (.bipush 48, 2) := by decide +kernel
theorem dX5_isFigureAt_16 : decode cX5_isFigureAt 16 = .ok (.bipush 57, 2) := by decide +kernel
theorem dX5_isFigureAt_18 : decode cX5_isFigureAt 18 = .ok (.invokestatic 106, 3) := by decide +kernel
theorem dX5_isFigureAt_21 : decode cX5_isFigureAt 21 = .ok (.ifCond .eq 7, 3) := by decide +kernel
theorem dX5_isFigureAt_24 : decode cX5_isFigureAt 24 = .ok (.iconst 1, 1) := by decide +kernel
theorem dX5_isFigureAt_25 : decode cX5_isFigureAt 25 = .ok (.goto 4, 3) := by decide +kernel
theorem dX5_isFigureAt_28 : decode cX5_isFigureAt 28 = .ok (.iconst 0, 1) := by decide +kernel
theorem dX5_isFigureAt_29 : decode cX5_isFigureAt 29 = .ok (.ireturn, 1) := by decide +kernel
theorem dX5_kindOfSort_0 : decode cX5_kindOfSort 0 = .ok (.iload_n 0, 1) := by decide +kernel
theorem dX5_kindOfSort_1 : decode cX5_kindOfSort 1 = .ok (.lookupswitch 61 #[(102, 53), (103, 51), (112, 57), (115, 55), (119, 59)], 51) := by decide +kernel
theorem dX5_kindOfSort_52 : decode cX5_kindOfSort 52 = .ok (.iconst 1, 1) := by decide +kernel
theorem dX5_kindOfSort_53 : decode cX5_kindOfSort 53 = .ok (.ireturn, 1) := by decide +kernel
theorem dX5_kindOfSort_54 : decode cX5_kindOfSort 54 = .ok (.iconst 2, 1) := by decide +kernel
theorem dX5_kindOfSort_55 : decode cX5_kindOfSort 55 = .ok (.ireturn, 1) := by decide +kernel
theorem dX5_kindOfSort_56 : decode cX5_kindOfSort 56 = .ok (.iconst 3, 1) := by decide +kernel
theorem dX5_kindOfSort_57 : decode cX5_kindOfSort 57 = .ok (.ireturn, 1) := by decide +kernel
theorem dX5_kindOfSort_58 : decode cX5_kindOfSort 58 = .ok (.iconst 4, 1) := by decide +kernel
theorem dX5_kindOfSort_59 : decode cX5_kindOfSort 59 = .ok (.ireturn, 1) := by decide +kernel
theorem dX5_kindOfSort_60 : decode cX5_kindOfSort 60 = .ok (.iconst 5, 1) := by decide +kernel
theorem dX5_kindOfSort_61 : decode cX5_kindOfSort 61 = .ok (.ireturn, 1) := by decide +kernel
theorem dX5_kindOfSort_62 : decode cX5_kindOfSort 62 = .ok (.ldc 32, 2) := by decide +kernel
theorem dX5_kindOfSort_64 : decode cX5_kindOfSort 64 = .ok (.ireturn, 1) := by decide +kernel
