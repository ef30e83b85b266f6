theorem dFl_init_0 : decode prog_5_method_1_code 0 = .ok (.aload_n 0, 1) := by decide +kernel
theorem dFl_init_1 : decode prog_5_method_1_code 1 = .ok (.invokespecial 1, 3) := by decide +kernel
theorem dFl_init_4 : decode prog_5_method_1_code 4 = .ok (.aload_n 0, 1) := by decide +kernel
theorem dFl_init_5 : decode prog_5_method_1_code 5 = .ok (.iconst 0, 1) := by decide +kernel
theorem dFl_init_6 : decode prog_5_method_1_code 6 = .ok (.putfield 7, 3) := by decide +kernel
theorem dFl_init_9 : decode prog_5_method_1_code 9 = .ok (.aload_n 0, 1) := by decide +kernel
theorem dFl_init_10 : decode prog_5_method_1_code 10 = .ok (.iconst 0, 1) := by decide +kernel
theorem dFl_init_11 : decode prog_5_method_1_code 11 = .ok (.putfield 13, 3) := by decide +kernel
theorem dFl_init_14 : decode prog_5_method_1_code 14 = .ok (.aload_n 0, 1) := by decide +kernel
theorem dFl_init_15 : decode prog_5_method_1_code 15 = .ok (.ldc 17, 2) := by decide +kernel
theorem dFl_init_17 : decode prog_5_method_1_code 17 = .ok (.putfield 19, 3) := by decide +kernel
theorem dFl_init_20 : decode prog_5_method_1_code 20 = .ok (.aload_n 0, 1) := by decide +kernel
theorem dFl_init_21 : decode prog_5_method_1_code 21 = .ok (.ldc 17, 2) := by decide +kernel
theorem dFl_init_23 : decode prog_5_method_1_code 23 = .ok (.putfield 23, 3) := by decide +kernel
theorem dFl_init_26 : decode prog_5_method_1_code 26 = .ok (.aload_n 0, 1) := by decide +kernel
theorem dFl_init_27 : decode prog_5_method_1_code 27 = .ok (.aconst_null, 1) := by decide +kernel
theorem dFl_init_28 : decode prog_5_method_1_code 28 = .ok (.putfield 26, 3) := by decide +kernel
theorem dFl_init_31 : decode prog_5_method_1_code 31 = .ok (.aload_n 0, 1) := by decide +kernel
theorem dFl_init_32 : decode prog_5_method_1_code 32 = .ok (.iconst 0, 1) := by decide +kernel
theorem dFl_init_33 : decode prog_5_method_1_code 33 = .ok (.putfield 30, 3) := by decide +kernel
theorem dFl_init_36 : decode prog_5_method_1_code 36 = .ok (.return_, 1) := by decide +kernel
theorem dAn_init_0 : decode prog_3_method_1_code 0 = .ok (.aload_n 0, 1) := by decide +kernel
theorem dAn_init_1 : decode prog_3_method_1_code 1 = .ok (.invokespecial 1, 3) := by decide +kernel
theorem dAn_init_4 : decode prog_3_method_1_code 4 = .ok (.aload_n 0, 1) := by decide +kernel
theorem dAn_init_5 : decode prog_3_method_1_code 5 = .ok (.aload_n 1, 1) := by decide +kernel
theorem dAn_init_6 : decode prog_3_method_1_code 6 = .ok (.putfield 7, 3) := by decide +kernel
theorem dAn_init_9 : decode prog_3_method_1_code 9 = .ok (.aload_n 0, 1) := by decide +kernel
theorem dAn_init_10 : decode prog_3_method_1_code 10 = .ok (.aload_n 2, 1) := by decide +kernel
theorem dAn_init_11 : decode prog_3_method_1_code 11 = .ok (.getfield 13, 3) := by decide +kernel
theorem dAn_init_14 : decode prog_3_method_1_code 14 = .ok (.putfield 19, 3) := by decide +kernel
theorem dAn_init_17 : decode prog_3_method_1_code 17 = .ok (.aload_n 0, 1) := by decide +kernel
theorem dAn_init_18 : decode prog_3_method_1_code 18 = .ok (.aload_n 2, 1) := by decide +kernel
theorem dAn_init_19 : decode prog_3_method_1_code 19 = .ok (.getfield 20, 3) := by decide +kernel
theorem dAn_init_22 : decode prog_3_method_1_code 22 = .ok (.putfield 24, 3) := by decide +kernel
theorem dAn_init_25 : decode prog_3_method_1_code 25 = .ok (.aload_n 0, 1) := by decide +kernel
theorem dAn_init_26 : decode prog_3_method_1_code 26 = .ok (.aload_n 2, 1) := by decide +kernel
theorem dAn_init_27 : decode prog_3_method_1_code 27 = .ok (.getfield 25, 3) := by decide +kernel
theorem dAn_init_30 : decode prog_3_method_1_code 30 = .ok (.putfield 28, 3) := by decide +kernel
theorem dAn_init_33 : decode prog_3_method_1_code 33 = .ok (.aload_n 0, 1) := by decide +kernel
theorem dAn_init_34 : decode prog_3_method_1_code 34 = .ok (.aload_n 2, 1) := by decide +kernel
theorem dAn_init_35 : decode prog_3_method_1_code 35 = .ok (.getfield 29, 3) := by decide +kernel
theorem dAn_init_38 : decode prog_3_method_1_code 38 = .ok (.putfield 32, 3) := by decide +kernel
theorem dAn_init_41 : decode prog_3_method_1_code 41 = .ok (.aload_n 0, 1) := by decide +kernel
theorem dAn_init_42 : decode prog_3_method_1_code 42 = .ok (.aload_n 2, 1) := by decide +kernel
theorem dAn_init_43 : decode prog_3_method_1_code 43 = .ok (.getfield 33, 3) := by decide +kernel
theorem dAn_init_46 : decode prog_3_method_1_code 46 = .ok (.putfield 37, 3) := by decide +kernel
theorem dAn_init_49 : decode prog_3_method_1_code 49 = .ok (.aload_n 0, 1) := by decide +kernel
theorem dAn_init_50 : decode prog_3_method_1_code 50 = .ok (.aload_n 3, 1) := by decide +kernel
theorem dAn_init_51 : decode prog_3_method_1_code 51 = .ok (.putfield 38, 3) := by decide +kernel
theorem dAn_init_54 : decode prog_3_method_1_code 54 = .ok (.return_, 1) := by decide +kernel
theorem dSv_init_0 : decode prog_10_method_1_code 0 = .ok (.aload_n 0, 1) := by decide +kernel
theorem dSv_init_1 : decode prog_10_method_1_code 1 = .ok (.invokespecial 3, 3) := by decide +kernel
theorem dSv_init_4 : decode prog_10_method_1_code 4 = .ok (.aload_n 0, 1) := by decide +kernel
theorem dSv_init_5 : decode prog_10_method_1_code 5 = .ok (.new 9, 3) := by decide +kernel
theorem dSv_init_8 : decode prog_10_method_1_code 8 = .ok (.dup, 1) := by decide +kernel
theorem dSv_init_9 : decode prog_10_method_1_code 9 = .ok (.invokespecial 11, 3) := by decide +kernel
theorem dSv_init_12 : decode prog_10_method_1_code 12 = .ok (.putfield 12, 3) := by decide +kernel
theorem dSv_init_15 : decode prog_10_method_1_code 15 = .ok (.aload_n 0, 1) := by decide +kernel
theorem dSv_init_16 : decode prog_10_method_1_code 16 = .ok (.ldc 18, 2) := by decide +kernel
theorem dSv_init_18 : decode prog_10_method_1_code 18 = .ok (.putfield 20, 3) := by decide +kernel
theorem dSv_init_21 : decode prog_10_method_1_code 21 = .ok (.aload_n 0, 1) := by decide +kernel
theorem dSv_init_22 : decode prog_10_method_1_code 22 = .ok (.aload_n 1, 1) := by decide +kernel
theorem dSv_init_23 : decode prog_10_method_1_code 23 = .ok (.putfield 24, 3) := by decide +kernel
theorem dSv_init_26 : decode prog_10_method_1_code 26 = .ok (.aload_n 0, 1) := by decide +kernel
theorem dSv_init_27 : decode prog_10_method_1_code 27 = .ok (.aload_n 2, 1) := by decide +kernel
theorem dSv_init_28 : decode prog_10_method_1_code 28 = .ok (.putfield 27, 3) := by decide +kernel
theorem dSv_init_31 : decode prog_10_method_1_code 31 = .ok (.return_, 1) := by decide +kernel
theorem dSv_firstWrong_0 : decode prog_10_method_2_code 0 = .ok (.aload_n 0, 1) := by decide +kernel
theorem dSv_firstWrong_1 : decode prog_10_method_2_code 1 = .ok (.getfield 24, 3) := by decide +kernel
theorem dSv_firstWrong_4 : decode prog_10_method_2_code 4 = .ok (.bipush 10, 2) := by decide +kernel
theorem dSv_firstWrong_6 : decode prog_10_method_2_code 6 = .ok (.invokevirtual 31, 3) := by decide +kernel
theorem dSv_firstWrong_9 : decode prog_10_method_2_code 9 = .ok (.istore_n 1, 1) := by decide +kernel
theorem dSv_firstWrong_10 : decode prog_10_method_2_code 10 = .ok (.iload_n 1, 1) := by decide +kernel
theorem dSv_firstWrong_11 : decode prog_10_method_2_code 11 = .ok (.ifCond .ge 13, 3) := by decide +kernel
theorem dSv_firstWrong_14 : decode prog_10_method_2_code 14 = .ok (.aload_n 0, 1) := by decide +kernel
theorem dSv_firstWrong_15 : decode prog_10_method_2_code 15 = .ok (.getfield 24, 3) := by decide +kernel
theorem dSv_firstWrong_18 : decode prog_10_method_2_code 18 = .ok (.invokevirtual 37, 3) := by decide +kernel
theorem dSv_firstWrong_21 : decode prog_10_method_2_code 21 = .ok (.goto 4, 3) := by decide +kernel
theorem dSv_firstWrong_24 : decode prog_10_method_2_code 24 = .ok (.iload_n 1, 1) := by decide +kernel
theorem dSv_firstWrong_25 : decode prog_10_method_2_code 25 = .ok (.istore_n 2, 1) := by decide +kernel
theorem dSv_firstWrong_26 : decode prog_10_method_2_code 26 = .ok (.iconst 0, 1) := by decide +kernel
theorem dSv_firstWrong_27 : decode prog_10_method_2_code 27 = .ok (.istore_n 3, 1) := by decide +kernel
theorem dSv_firstWrong_28 : decode prog_10_method_2_code 28 = .ok (.iconst 0, 1) := by decide +kernel
theorem dSv_firstWrong_29 : decode prog_10_method_2_code 29 = .ok (.istore 4, 2) := by decide +kernel
theorem dSv_firstWrong_31 : decode prog_10_method_2_code 31 = .ok (.iload 4, 2) := by decide +kernel
theorem dSv_firstWrong_33 : decode prog_10_method_2_code 33 = .ok (.iload_n 2, 1) := by decide +kernel
theorem dSv_firstWrong_34 : decode prog_10_method_2_code 34 = .ok (.if_icmp .gt 81, 3) := by decide +kernel
theorem dSv_firstWrong_37 : decode prog_10_method_2_code 37 = .ok (.iload 4, 2) := by decide +kernel
theorem dSv_firstWrong_39 : decode prog_10_method_2_code 39 = .ok (.iload_n 2, 1) := by decide +kernel
theorem dSv_firstWrong_40 : decode prog_10_method_2_code 40 = .ok (.if_icmp .eq 17, 3) := by decide +kernel
theorem dSv_firstWrong_43 : decode prog_10_method_2_code 43 = .ok (.aload_n 0, 1) := by decide +kernel
theorem dSv_firstWrong_44 : decode prog_10_method_2_code 44 = .ok (.getfield 24, 3) := by decide +kernel
theorem dSv_firstWrong_47 : decode prog_10_method_2_code 47 = .ok (.iload 4, 2) := by decide +kernel
theorem dSv_firstWrong_49 : decode prog_10_method_2_code 49 = .ok (.invokevirtual 41, 3) := by decide +kernel
theorem dSv_firstWrong_52 : decode prog_10_method_2_code 52 = .ok (.bipush 32, 2) := by decide +kernel
theorem dSv_firstWrong_54 : decode prog_10_method_2_code 54 = .ok (.if_icmp .ne 55, 3) := by decide +kernel
theorem dSv_firstWrong_57 : decode prog_10_method_2_code 57 = .ok (.aload_n 0, 1) := by decide +kernel
theorem dSv_firstWrong_58 : decode prog_10_method_2_code 58 = .ok (.getfield 24, 3) := by decide +kernel
theorem dSv_firstWrong_61 : decode prog_10_method_2_code 61 = .ok (.iload_n 3, 1) := by decide +kernel
theorem dSv_firstWrong_62 : decode prog_10_method_2_code 62 = .ok (.iload 4, 2) := by decide +kernel
theorem dSv_firstWrong_64 : decode prog_10_method_2_code 64 = .ok (.invokevirtual 45, 3) := by decide +kernel
theorem dSv_firstWrong_67 : decode prog_10_method_2_code 67 = .ok (.astore 5, 2) := by decide +kernel
theorem dSv_firstWrong_69 : decode prog_10_method_2_code 69 = .ok (.iload_n 3, 1) := by decide +kernel
theorem dSv_firstWrong_70 : decode prog_10_method_2_code 70 = .ok (.ifCond .ne 12, 3) := by decide +kernel
theorem dSv_firstWrong_73 : decode prog_10_method_2_code 73 = .ok (.aload_n 0, 1) := by decide +kernel
theorem dSv_firstWrong_74 : decode prog_10_method_2_code 74 = .ok (.aload 5, 2) := by decide +kernel
theorem dSv_firstWrong_76 : decode prog_10_method_2_code 76 = .ok (.invokevirtual 49, 3) := by decide +kernel
theorem dSv_firstWrong_79 : decode prog_10_method_2_code 79 = .ok (.goto 16, 3) := by decide +kernel
theorem dSv_firstWrong_82 : decode prog_10_method_2_code 82 = .ok (.aload_n 0, 1) := by decide +kernel
theorem dSv_firstWrong_83 : decode prog_10_method_2_code 83 = .ok (.getfield 12, 3) := by decide +kernel
theorem dSv_firstWrong_86 : decode prog_10_method_2_code 86 = .ok (.aload 5, 2) := by decide +kernel
theorem dSv_firstWrong_88 : decode prog_10_method_2_code 88 = .ok (.aload_n 0, 1) := by decide +kernel
theorem dSv_firstWrong_89 : decode prog_10_method_2_code 89 = .ok (.getfield 27, 3) := by decide +kernel
theorem dSv_firstWrong_92 : decode prog_10_method_2_code 92 = .ok (.invokevirtual 53, 3) := by decide +kernel
theorem dSv_firstWrong_95 : decode prog_10_method_2_code 95 = .ok (.istore 6, 2) := by decide +kernel
theorem dSv_firstWrong_97 : decode prog_10_method_2_code 97 = .ok (.iload 6, 2) := by decide +kernel
theorem dSv_firstWrong_99 : decode prog_10_method_2_code 99 = .ok (.ifCond .ne 5, 3) := by decide +kernel
theorem dSv_firstWrong_102 : decode prog_10_method_2_code 102 = .ok (.iload_n 3, 1) := by decide +kernel
theorem dSv_firstWrong_103 : decode prog_10_method_2_code 103 = .ok (.ireturn, 1) := by decide +kernel
theorem dSv_firstWrong_104 : decode prog_10_method_2_code 104 = .ok (.iload 4, 2) := by decide +kernel
theorem dSv_firstWrong_106 : decode prog_10_method_2_code 106 = .ok (.iconst 1, 1) := by decide +kernel
theorem dSv_firstWrong_107 : decode prog_10_method_2_code 107 = .ok (.iadd, 1) := by decide +kernel
theorem dSv_firstWrong_108 : decode prog_10_method_2_code 108 = .ok (.istore_n 3, 1) := by decide +kernel
theorem dSv_firstWrong_109 : decode prog_10_method_2_code 109 = .ok (.iinc 4 1, 3) := by decide +kernel
theorem dSv_firstWrong_112 : decode prog_10_method_2_code 112 = .ok (.goto (-81), 3) := by decide +kernel
theorem dSv_firstWrong_115 : decode prog_10_method_2_code 115 = .ok (.iload_n 1, 1) := by decide +kernel
theorem dSv_firstWrong_116 : decode prog_10_method_2_code 116 = .ok (.ifCond .ge 11, 3) := by decide +kernel
theorem dSv_firstWrong_119 : decode prog_10_method_2_code 119 = .ok (.aload_n 0, 1) := by decide +kernel
theorem dSv_firstWrong_120 : decode prog_10_method_2_code 120 = .ok (.getfield 24, 3) := by decide +kernel
theorem dSv_firstWrong_123 : decode prog_10_method_2_code 123 = .ok (.invokevirtual 37, 3) := by decide +kernel
theorem dSv_firstWrong_126 : decode prog_10_method_2_code 126 = .ok (.ireturn, 1) := by decide +kernel
theorem dSv_firstWrong_127 : decode prog_10_method_2_code 127 = .ok (.aload_n 0, 1) := by decide +kernel
theorem dSv_firstWrong_128 : decode prog_10_method_2_code 128 = .ok (.aload_n 0, 1) := by decide +kernel
theorem dSv_firstWrong_129 : decode prog_10_method_2_code 129 = .ok (.getfield 24, 3) := by decide +kernel
theorem dSv_firstWrong_132 : decode prog_10_method_2_code 132 = .ok (.iload_n 1, 1) := by decide +kernel
theorem dSv_firstWrong_133 : decode prog_10_method_2_code 133 = .ok (.iconst 1, 1) := by decide +kernel
theorem dSv_firstWrong_134 : decode prog_10_method_2_code 134 = .ok (.iadd, 1) := by decide +kernel
theorem dSv_firstWrong_135 : decode prog_10_method_2_code 135 = .ok (.invokevirtual 57, 3) := by decide +kernel
theorem dSv_firstWrong_138 : decode prog_10_method_2_code 138 = .ok (.putfield 20, 3) := by decide +kernel
theorem dSv_firstWrong_141 : decode prog_10_method_2_code 141 = .ok (.aload_n 0, 1) := by decide +kernel
theorem dSv_firstWrong_142 : decode prog_10_method_2_code 142 = .ok (.getfield 20, 3) := by decide +kernel
theorem dSv_firstWrong_145 : decode prog_10_method_2_code 145 = .ok (.invokevirtual 37, 3) := by decide +kernel
theorem dSv_firstWrong_148 : decode prog_10_method_2_code 148 = .ok (.sipush 1500, 3) := by decide +kernel
theorem dSv_firstWrong_151 : decode prog_10_method_2_code 151 = .ok (.if_icmp .le 13, 3) := by decide +kernel
theorem dSv_firstWrong_154 : decode prog_10_method_2_code 154 = .ok (.iload_n 1, 1) := by decide +kernel
theorem dSv_firstWrong_155 : decode prog_10_method_2_code 155 = .ok (.iconst 1, 1) := by decide +kernel
theorem dSv_firstWrong_156 : decode prog_10_method_2_code 156 = .ok (.iadd, 1) := by decide +kernel
theorem dSv_firstWrong_157 : decode prog_10_method_2_code 157 = .ok (.sipush 1500, 3) := by decide +kernel
theorem dSv_firstWrong_160 : decode prog_10_method_2_code 160 = .ok (.iadd, 1) := by decide +kernel
theorem dSv_firstWrong_161 : decode prog_10_method_2_code 161 = .ok (.goto 4, 3) := by decide +kernel
theorem dSv_firstWrong_164 : decode prog_10_method_2_code 164 = .ok (.iconst (-1), 1) := by decide +kernel
theorem dSv_firstWrong_165 : decode prog_10_method_2_code 165 = .ok (.ireturn, 1) := by decide +kernel
theorem dSv_takeAddress_0 : decode prog_10_method_3_code 0 = .ok (.aload_n 1, 1) := by decide +kernel
theorem dSv_takeAddress_1 : decode prog_10_method_3_code 1 = .ok (.aload_n 0, 1) := by decide +kernel
theorem dSv_takeAddress_2 : decode prog_10_method_3_code 2 = .ok (.getfield 27, 3) := by decide +kernel
theorem dSv_takeAddress_5 : decode prog_10_method_3_code 5 = .ok (.invokestatic 60, 3) := by decide +kernel
theorem dSv_takeAddress_8 : decode prog_10_method_3_code 8 = .ok (.astore_n 2, 1) := by decide +kernel
theorem dSv_takeAddress_9 : decode prog_10_method_3_code 9 = .ok (.aload_n 2, 1) := by decide +kernel
theorem dSv_takeAddress_10 : decode prog_10_method_3_code 10 = .ok (.ifnull 22, 3) := by decide +kernel
theorem dSv_takeAddress_13 : decode prog_10_method_3_code 13 = .ok (.aload_n 2, 1) := by decide +kernel
theorem dSv_takeAddress_14 : decode prog_10_method_3_code 14 = .ok (.getfield 66, 3) := by decide +kernel
theorem dSv_takeAddress_17 : decode prog_10_method_3_code 17 = .ok (.invokevirtual 69, 3) := by decide +kernel
theorem dSv_takeAddress_20 : decode prog_10_method_3_code 20 = .ok (.ifCond .eq 12, 3) := by decide +kernel
theorem dSv_takeAddress_23 : decode prog_10_method_3_code 23 = .ok (.aload_n 1, 1) := by decide +kernel
theorem dSv_takeAddress_24 : decode prog_10_method_3_code 24 = .ok (.ldc 73, 2) := by decide +kernel
theorem dSv_takeAddress_26 : decode prog_10_method_3_code 26 = .ok (.invokestatic 75, 3) := by decide +kernel
theorem dSv_takeAddress_29 : decode prog_10_method_3_code 29 = .ok (.ifCond .ne 5, 3) := by decide +kernel
theorem dSv_takeAddress_32 : decode prog_10_method_3_code 32 = .ok (.iconst 0, 1) := by decide +kernel
theorem dSv_takeAddress_33 : decode prog_10_method_3_code 33 = .ok (.ireturn, 1) := by decide +kernel
theorem dSv_takeAddress_34 : decode prog_10_method_3_code 34 = .ok (.aload_n 0, 1) := by decide +kernel
theorem dSv_takeAddress_35 : decode prog_10_method_3_code 35 = .ok (.aload_n 2, 1) := by decide +kernel
theorem dSv_takeAddress_36 : decode prog_10_method_3_code 36 = .ok (.putfield 27, 3) := by decide +kernel
theorem dSv_takeAddress_39 : decode prog_10_method_3_code 39 = .ok (.iconst 1, 1) := by decide +kernel
theorem dSv_takeAddress_40 : decode prog_10_method_3_code 40 = .ok (.ireturn, 1) := by decide +kernel
theorem dFl_take_0 : decode prog_5_method_2_code 0 = .ok (.aload_n 1, 1) := by decide +kernel
theorem dFl_take_1 : decode prog_5_method_2_code 1 = .ok (.ldc 33, 2) := by decide +kernel
theorem dFl_take_3 : decode prog_5_method_2_code 3 = .ok (.invokevirtual 34, 3) := by decide +kernel
theorem dFl_take_6 : decode prog_5_method_2_code 6 = .ok (.ifCond .eq 23, 3) := by decide +kernel
theorem dFl_take_9 : decode prog_5_method_2_code 9 = .ok (.aload_n 0, 1) := by decide +kernel
theorem dFl_take_10 : decode prog_5_method_2_code 10 = .ok (.getfield 30, 3) := by decide +kernel
theorem dFl_take_13 : decode prog_5_method_2_code 13 = .ok (.ifCond .ne 7, 3) := by decide +kernel
theorem dFl_take_16 : decode prog_5_method_2_code 16 = .ok (.iconst 1, 1) := by decide +kernel
theorem dFl_take_17 : decode prog_5_method_2_code 17 = .ok (.goto 4, 3) := by decide +kernel
theorem dFl_take_20 : decode prog_5_method_2_code 20 = .ok (.iconst 0, 1) := by decide +kernel
theorem dFl_take_21 : decode prog_5_method_2_code 21 = .ok (.istore_n 3, 1) := by decide +kernel
theorem dFl_take_22 : decode prog_5_method_2_code 22 = .ok (.aload_n 0, 1) := by decide +kernel
theorem dFl_take_23 : decode prog_5_method_2_code 23 = .ok (.iconst 1, 1) := by decide +kernel
theorem dFl_take_24 : decode prog_5_method_2_code 24 = .ok (.putfield 30, 3) := by decide +kernel
theorem dFl_take_27 : decode prog_5_method_2_code 27 = .ok (.iload_n 3, 1) := by decide +kernel
theorem dFl_take_28 : decode prog_5_method_2_code 28 = .ok (.ireturn, 1) := by decide +kernel
theorem dFl_take_29 : decode prog_5_method_2_code 29 = .ok (.aload_n 1, 1) := by decide +kernel
theorem dFl_take_30 : decode prog_5_method_2_code 30 = .ok (.ldc 40, 2) := by decide +kernel
theorem dFl_take_32 : decode prog_5_method_2_code 32 = .ok (.invokestatic 42, 3) := by decide +kernel
theorem dFl_take_35 : decode prog_5_method_2_code 35 = .ok (.ifCond .eq 13, 3) := by decide +kernel
theorem dFl_take_38 : decode prog_5_method_2_code 38 = .ok (.aload_n 0, 1) := by decide +kernel
theorem dFl_take_39 : decode prog_5_method_2_code 39 = .ok (.aload_n 1, 1) := by decide +kernel
theorem dFl_take_40 : decode prog_5_method_2_code 40 = .ok (.iconst 4, 1) := by decide +kernel
theorem dFl_take_41 : decode prog_5_method_2_code 41 = .ok (.invokevirtual 48, 3) := by decide +kernel
theorem dFl_take_44 : decode prog_5_method_2_code 44 = .ok (.invokevirtual 52, 3) := by decide +kernel
theorem dFl_take_47 : decode prog_5_method_2_code 47 = .ok (.ireturn, 1) := by decide +kernel
theorem dFl_take_48 : decode prog_5_method_2_code 48 = .ok (.aload_n 1, 1) := by decide +kernel
theorem dFl_take_49 : decode prog_5_method_2_code 49 = .ok (.ldc 56, 2) := by decide +kernel
theorem dFl_take_51 : decode prog_5_method_2_code 51 = .ok (.invokestatic 42, 3) := by decide +kernel
theorem dFl_take_54 : decode prog_5_method_2_code 54 = .ok (.ifCond .eq 14, 3) := by decide +kernel
theorem dFl_take_57 : decode prog_5_method_2_code 57 = .ok (.aload_n 0, 1) := by decide +kernel
theorem dFl_take_58 : decode prog_5_method_2_code 58 = .ok (.aload_n 1, 1) := by decide +kernel
theorem dFl_take_59 : decode prog_5_method_2_code 59 = .ok (.bipush 7, 2) := by decide +kernel
theorem dFl_take_61 : decode prog_5_method_2_code 61 = .ok (.invokevirtual 48, 3) := by decide +kernel
theorem dFl_take_64 : decode prog_5_method_2_code 64 = .ok (.invokevirtual 58, 3) := by decide +kernel
theorem dFl_take_67 : decode prog_5_method_2_code 67 = .ok (.ireturn, 1) := by decide +kernel
theorem dFl_take_68 : decode prog_5_method_2_code 68 = .ok (.aload_n 1, 1) := by decide +kernel
theorem dFl_take_69 : decode prog_5_method_2_code 69 = .ok (.ldc 61, 2) := by decide +kernel
theorem dFl_take_71 : decode prog_5_method_2_code 71 = .ok (.invokestatic 42, 3) := by decide +kernel
theorem dFl_take_74 : decode prog_5_method_2_code 74 = .ok (.ifCond .eq 36, 3) := by decide +kernel
theorem dFl_take_77 : decode prog_5_method_2_code 77 = .ok (.aload_n 0, 1) := by decide +kernel
theorem dFl_take_78 : decode prog_5_method_2_code 78 = .ok (.getfield 26, 3) := by decide +kernel
theorem dFl_take_81 : decode prog_5_method_2_code 81 = .ok (.ifnonnull 29, 3) := by decide +kernel
theorem dFl_take_84 : decode prog_5_method_2_code 84 = .ok (.aload_n 0, 1) := by decide +kernel
theorem dFl_take_85 : decode prog_5_method_2_code 85 = .ok (.aload_n 1, 1) := by decide +kernel
theorem dFl_take_86 : decode prog_5_method_2_code 86 = .ok (.iconst 3, 1) := by decide +kernel
theorem dFl_take_87 : decode prog_5_method_2_code 87 = .ok (.invokevirtual 48, 3) := by decide +kernel
theorem dFl_take_90 : decode prog_5_method_2_code 90 = .ok (.aload_n 2, 1) := by decide +kernel
theorem dFl_take_91 : decode prog_5_method_2_code 91 = .ok (.invokestatic 63, 3) := by decide +kernel
theorem dFl_take_94 : decode prog_5_method_2_code 94 = .ok (.putfield 26, 3) := by decide +kernel
theorem dFl_take_97 : decode prog_5_method_2_code 97 = .ok (.aload_n 0, 1) := by decide +kernel
theorem dFl_take_98 : decode prog_5_method_2_code 98 = .ok (.getfield 26, 3) := by decide +kernel
theorem dFl_take_101 : decode prog_5_method_2_code 101 = .ok (.ifnull 7, 3) := by decide +kernel
theorem dFl_take_104 : decode prog_5_method_2_code 104 = .ok (.iconst 1, 1) := by decide +kernel
theorem dFl_take_105 : decode prog_5_method_2_code 105 = .ok (.goto 4, 3) := by decide +kernel
theorem dFl_take_108 : decode prog_5_method_2_code 108 = .ok (.iconst 0, 1) := by decide +kernel
theorem dFl_take_109 : decode prog_5_method_2_code 109 = .ok (.ireturn, 1) := by decide +kernel
theorem dFl_take_110 : decode prog_5_method_2_code 110 = .ok (.iconst 0, 1) := by decide +kernel
theorem dFl_take_111 : decode prog_5_method_2_code 111 = .ok (.ireturn, 1) := by decide +kernel
theorem dFl_takeAge_0 : decode prog_5_method_3_code 0 = .ok (.aload_n 0, 1) := by decide +kernel
theorem dFl_takeAge_1 : decode prog_5_method_3_code 1 = .ok (.getfield 7, 3) := by decide +kernel
theorem dFl_takeAge_4 : decode prog_5_method_3_code 4 = .ok (.ifCond .ne 10, 3) := by decide +kernel
theorem dFl_takeAge_7 : decode prog_5_method_3_code 7 = .ok (.aload_n 1, 1) := by decide +kernel
theorem dFl_takeAge_8 : decode prog_5_method_3_code 8 = .ok (.invokestatic 69, 3) := by decide +kernel
theorem dFl_takeAge_11 : decode prog_5_method_3_code 11 = .ok (.ifCond .ne 5, 3) := by decide +kernel
theorem dFl_takeAge_14 : decode prog_5_method_3_code 14 = .ok (.iconst 0, 1) := by decide +kernel
theorem dFl_takeAge_15 : decode prog_5_method_3_code 15 = .ok (.ireturn, 1) := by decide +kernel
theorem dFl_takeAge_16 : decode prog_5_method_3_code 16 = .ok (.aload_n 0, 1) := by decide +kernel
theorem dFl_takeAge_17 : decode prog_5_method_3_code 17 = .ok (.iconst 1, 1) := by decide +kernel
theorem dFl_takeAge_18 : decode prog_5_method_3_code 18 = .ok (.putfield 7, 3) := by decide +kernel
theorem dFl_takeAge_21 : decode prog_5_method_3_code 21 = .ok (.aload_n 0, 1) := by decide +kernel
theorem dFl_takeAge_22 : decode prog_5_method_3_code 22 = .ok (.aload_n 1, 1) := by decide +kernel
theorem dFl_takeAge_23 : decode prog_5_method_3_code 23 = .ok (.invokestatic 72, 3) := by decide +kernel
theorem dFl_takeAge_26 : decode prog_5_method_3_code 26 = .ok (.putfield 13, 3) := by decide +kernel
theorem dFl_takeAge_29 : decode prog_5_method_3_code 29 = .ok (.iconst 1, 1) := by decide +kernel
theorem dFl_takeAge_30 : decode prog_5_method_3_code 30 = .ok (.ireturn, 1) := by decide +kernel
theorem dFl_takeCookie_0 : decode prog_5_method_4_code 0 = .ok (.aload_n 1, 1) := by decide +kernel
theorem dFl_takeCookie_1 : decode prog_5_method_4_code 1 = .ok (.bipush 58, 2) := by decide +kernel
theorem dFl_takeCookie_3 : decode prog_5_method_4_code 3 = .ok (.invokevirtual 76, 3) := by decide +kernel
theorem dFl_takeCookie_6 : decode prog_5_method_4_code 6 = .ok (.istore_n 2, 1) := by decide +kernel
theorem dFl_takeCookie_7 : decode prog_5_method_4_code 7 = .ok (.aload_n 0, 1) := by decide +kernel
theorem dFl_takeCookie_8 : decode prog_5_method_4_code 8 = .ok (.getfield 19, 3) := by decide +kernel
theorem dFl_takeCookie_11 : decode prog_5_method_4_code 11 = .ok (.invokevirtual 80, 3) := by decide +kernel
theorem dFl_takeCookie_14 : decode prog_5_method_4_code 14 = .ok (.ifCond .eq 7, 3) := by decide +kernel
theorem dFl_takeCookie_17 : decode prog_5_method_4_code 17 = .ok (.iload_n 2, 1) := by decide +kernel
theorem dFl_takeCookie_18 : decode prog_5_method_4_code 18 = .ok (.ifCond .ge 5, 3) := by decide +kernel
theorem dFl_takeCookie_21 : decode prog_5_method_4_code 21 = .ok (.iconst 0, 1) := by decide +kernel
theorem dFl_takeCookie_22 : decode prog_5_method_4_code 22 = .ok (.ireturn, 1) := by decide +kernel
theorem dFl_takeCookie_23 : decode prog_5_method_4_code 23 = .ok (.aload_n 1, 1) := by decide +kernel
theorem dFl_takeCookie_24 : decode prog_5_method_4_code 24 = .ok (.iconst 0, 1) := by decide +kernel
theorem dFl_takeCookie_25 : decode prog_5_method_4_code 25 = .ok (.iload_n 2, 1) := by decide +kernel
theorem dFl_takeCookie_26 : decode prog_5_method_4_code 26 = .ok (.invokevirtual 84, 3) := by decide +kernel
theorem dFl_takeCookie_29 : decode prog_5_method_4_code 29 = .ok (.astore_n 3, 1) := by decide +kernel
theorem dFl_takeCookie_30 : decode prog_5_method_4_code 30 = .ok (.aload_n 1, 1) := by decide +kernel
theorem dFl_takeCookie_31 : decode prog_5_method_4_code 31 = .ok (.iload_n 2, 1) := by decide +kernel
theorem dFl_takeCookie_32 : decode prog_5_method_4_code 32 = .ok (.iconst 1, 1) := by decide +kernel
theorem dFl_takeCookie_33 : decode prog_5_method_4_code 33 = .ok (.iadd, 1) := by decide +kernel
theorem dFl_takeCookie_34 : decode prog_5_method_4_code 34 = .ok (.invokevirtual 48, 3) := by decide +kernel
theorem dFl_takeCookie_37 : decode prog_5_method_4_code 37 = .ok (.astore 4, 2) := by decide +kernel
theorem dFl_takeCookie_39 : decode prog_5_method_4_code 39 = .ok (.aload_n 3, 1) := by decide +kernel
theorem dFl_takeCookie_40 : decode prog_5_method_4_code 40 = .ok (.invokestatic 87, 3) := by decide +kernel
theorem dFl_takeCookie_43 : decode prog_5_method_4_code 43 = .ok (.ifCond .eq 11, 3) := by decide +kernel
theorem dFl_takeCookie_46 : decode prog_5_method_4_code 46 = .ok (.aload 4, 2) := by decide +kernel
theorem dFl_takeCookie_48 : decode prog_5_method_4_code 48 = .ok (.invokestatic 87, 3) := by decide +kernel
theorem dFl_takeCookie_51 : decode prog_5_method_4_code 51 = .ok (.ifCond .ne 5, 3) := by decide +kernel
theorem dFl_takeCookie_54 : decode prog_5_method_4_code 54 = .ok (.iconst 0, 1) := by decide +kernel
theorem dFl_takeCookie_55 : decode prog_5_method_4_code 55 = .ok (.ireturn, 1) := by decide +kernel
theorem dFl_takeCookie_56 : decode prog_5_method_4_code 56 = .ok (.aload_n 0, 1) := by decide +kernel
theorem dFl_takeCookie_57 : decode prog_5_method_4_code 57 = .ok (.aload_n 3, 1) := by decide +kernel
theorem dFl_takeCookie_58 : decode prog_5_method_4_code 58 = .ok (.putfield 19, 3) := by decide +kernel
theorem dFl_takeCookie_61 : decode prog_5_method_4_code 61 = .ok (.aload_n 0, 1) := by decide +kernel
theorem dFl_takeCookie_62 : decode prog_5_method_4_code 62 = .ok (.aload 4, 2) := by decide +kernel
theorem dFl_takeCookie_64 : decode prog_5_method_4_code 64 = .ok (.putfield 23, 3) := by decide +kernel
theorem dFl_takeCookie_67 : decode prog_5_method_4_code 67 = .ok (.iconst 1, 1) := by decide +kernel
theorem dFl_takeCookie_68 : decode prog_5_method_4_code 68 = .ok (.ireturn, 1) := by decide +kernel
theorem dCk_init_0 : decode prog_4_method_1_code 0 = .ok (.aload_n 0, 1) := by decide +kernel
theorem dCk_init_1 : decode prog_4_method_1_code 1 = .ok (.invokespecial 1, 3) := by decide +kernel
theorem dCk_init_4 : decode prog_4_method_1_code 4 = .ok (.aload_n 0, 1) := by decide +kernel
theorem dCk_init_5 : decode prog_4_method_1_code 5 = .ok (.aload_n 1, 1) := by decide +kernel
theorem dCk_init_6 : decode prog_4_method_1_code 6 = .ok (.putfield 7, 3) := by decide +kernel
theorem dCk_init_9 : decode prog_4_method_1_code 9 = .ok (.aload_n 0, 1) := by decide +kernel
theorem dCk_init_10 : decode prog_4_method_1_code 10 = .ok (.aload_n 2, 1) := by decide +kernel
theorem dCk_init_11 : decode prog_4_method_1_code 11 = .ok (.putfield 13, 3) := by decide +kernel
theorem dCk_init_14 : decode prog_4_method_1_code 14 = .ok (.aload_n 0, 1) := by decide +kernel
theorem dCk_init_15 : decode prog_4_method_1_code 15 = .ok (.aload_n 3, 1) := by decide +kernel
theorem dCk_init_16 : decode prog_4_method_1_code 16 = .ok (.putfield 16, 3) := by decide +kernel
theorem dCk_init_19 : decode prog_4_method_1_code 19 = .ok (.return_, 1) := by decide +kernel
theorem dKt_init_0 : decode prog_8_method_1_code 0 = .ok (.aload_n 0, 1) := by decide +kernel
theorem dKt_init_1 : decode prog_8_method_1_code 1 = .ok (.invokespecial 1, 3) := by decide +kernel
theorem dKt_init_4 : decode prog_8_method_1_code 4 = .ok (.aload_n 0, 1) := by decide +kernel
theorem dKt_init_5 : decode prog_8_method_1_code 5 = .ok (.aload_n 1, 1) := by decide +kernel
theorem dKt_init_6 : decode prog_8_method_1_code 6 = .ok (.putfield 7, 3) := by decide +kernel
theorem dKt_init_9 : decode prog_8_method_1_code 9 = .ok (.aload_n 0, 1) := by decide +kernel
theorem dKt_init_10 : decode prog_8_method_1_code 10 = .ok (.iload_n 2, 1) := by decide +kernel
theorem dKt_init_11 : decode prog_8_method_1_code 11 = .ok (.putfield 13, 3) := by decide +kernel
theorem dKt_init_14 : decode prog_8_method_1_code 14 = .ok (.return_, 1) := by decide +kernel
theorem zf_Fl_7 : zFl "NetDesk$Fields" 7 4 0 := ⟨_, _, _, "NetDesk$Fields", rfl, Nat.le_of_ble_eq_true rfl, in_Fl, Or.inl (zt1 104 rfl), Or.inl rfl⟩
theorem zp_Fl_init_7 : zPf M_Fl_init 7 4 0 .boolean := ⟨zf_Fl_7, _, _, _, ty_Fl, rfl, tyok_Fl, nm_Fl, rfl, Or.inl rfl⟩
theorem zf_Fl_13 : zFl "NetDesk$Fields" 13 4 1 := ⟨_, _, _, "NetDesk$Fields", rfl, Nat.le_of_ble_eq_true rfl, in_Fl, Or.inl (zt1 105 rfl), Or.inl rfl⟩
theorem zp_Fl_init_13 : zPf M_Fl_init 13 4 1 .int := ⟨zf_Fl_13, _, _, _, ty_Fl, rfl, tyok_Fl, nm_Fl, rfl, Or.inl rfl⟩
theorem zf_Fl_19 : zFl "NetDesk$Fields" 19 4 2 := ⟨_, _, _, "NetDesk$Fields", rfl, Nat.le_of_ble_eq_true rfl, in_Fl, Or.inl (zt1 107 rfl), Or.inl rfl⟩
theorem zp_Fl_init_19 : zPf M_Fl_init 19 4 2 (.object "java/lang/String") := ⟨zf_Fl_19, _, _, _, ty_Fl, rfl, tyok_Fl, nm_Fl, rfl, Or.inl rfl⟩
theorem zf_Fl_23 : zFl "NetDesk$Fields" 23 4 3 := ⟨_, _, _, "NetDesk$Fields", rfl, Nat.le_of_ble_eq_true rfl, in_Fl, Or.inl (zt1 109 rfl), Or.inl rfl⟩
theorem zp_Fl_init_23 : zPf M_Fl_init 23 4 3 (.object "java/lang/String") := ⟨zf_Fl_23, _, _, _, ty_Fl, rfl, tyok_Fl, nm_Fl, rfl, Or.inl rfl⟩
theorem zf_Fl_26 : zFl "NetDesk$Fields" 26 4 4 := ⟨_, _, _, "NetDesk$Fields", rfl, Nat.le_of_ble_eq_true rfl, in_Fl, Or.inl (zt1 111 rfl), Or.inl rfl⟩
theorem zp_Fl_init_26 : zPf M_Fl_init 26 4 4 (.object "NetDesk$Address") := ⟨zf_Fl_26, _, _, _, ty_Fl, rfl, tyok_Fl, nm_Fl, rfl, Or.inl rfl⟩
theorem zf_Fl_30 : zFl "NetDesk$Fields" 30 4 5 := ⟨_, _, _, "NetDesk$Fields", rfl, Nat.le_of_ble_eq_true rfl, in_Fl, Or.inl (zt1 113 rfl), Or.inl rfl⟩
theorem zp_Fl_init_30 : zPf M_Fl_init 30 4 5 .boolean := ⟨zf_Fl_30, _, _, _, ty_Fl, rfl, tyok_Fl, nm_Fl, rfl, Or.inl rfl⟩
theorem zf_An_7 : zFl "NetDesk$Answer" 7 3 0 := ⟨_, _, _, "NetDesk$Answer", rfl, Nat.le_of_ble_eq_true rfl, in_An, Or.inl (zt1 132 rfl), Or.inl rfl⟩
theorem zp_An_init_7 : zPf M_An_init 7 3 0 (.object "NetDesk$Address") := ⟨zf_An_7, _, _, _, ty_An, rfl, tyok_An, nm_An, rfl, Or.inr ⟨rfl, rfl, rfl⟩⟩
theorem zf_An_13 : zFl "NetDesk$Answer" 13 4 1 := ⟨_, _, _, "NetDesk$Fields", rfl, Nat.le_of_ble_eq_true rfl, in_Fl, Or.inl (zt1 106 rfl), Or.inl rfl⟩
theorem zf_An_19 : zFl "NetDesk$Answer" 19 3 1 := ⟨_, _, _, "NetDesk$Answer", rfl, Nat.le_of_ble_eq_true rfl, in_An, Or.inl (zt1 135 rfl), Or.inl rfl⟩
theorem zp_An_init_19 : zPf M_An_init 19 3 1 .int := ⟨zf_An_19, _, _, _, ty_An, rfl, tyok_An, nm_An, rfl, Or.inr ⟨rfl, rfl, rfl⟩⟩
theorem zf_An_20 : zFl "NetDesk$Answer" 20 4 2 := ⟨_, _, _, "NetDesk$Fields", rfl, Nat.le_of_ble_eq_true rfl, in_Fl, Or.inl (zt1 108 rfl), Or.inl rfl⟩
theorem zf_An_24 : zFl "NetDesk$Answer" 24 3 2 := ⟨_, _, _, "NetDesk$Answer", rfl, Nat.le_of_ble_eq_true rfl, in_An, Or.inl (zt1 137 rfl), Or.inl rfl⟩
theorem zp_An_init_24 : zPf M_An_init 24 3 2 (.object "java/lang/String") := ⟨zf_An_24, _, _, _, ty_An, rfl, tyok_An, nm_An, rfl, Or.inr ⟨rfl, rfl, rfl⟩⟩
theorem zf_An_25 : zFl "NetDesk$Answer" 25 4 3 := ⟨_, _, _, "NetDesk$Fields", rfl, Nat.le_of_ble_eq_true rfl, in_Fl, Or.inl (zt1 110 rfl), Or.inl rfl⟩
theorem zf_An_28 : zFl "NetDesk$Answer" 28 3 3 := ⟨_, _, _, "NetDesk$Answer", rfl, Nat.le_of_ble_eq_true rfl, in_An, Or.inl (zt1 139 rfl), Or.inl rfl⟩
theorem zp_An_init_28 : zPf M_An_init 28 3 3 (.object "java/lang/String") := ⟨zf_An_28, _, _, _, ty_An, rfl, tyok_An, nm_An, rfl, Or.inr ⟨rfl, rfl, rfl⟩⟩
theorem zf_An_29 : zFl "NetDesk$Answer" 29 4 4 := ⟨_, _, _, "NetDesk$Fields", rfl, Nat.le_of_ble_eq_true rfl, in_Fl, Or.inl (zt1 112 rfl), Or.inl rfl⟩
theorem zf_An_32 : zFl "NetDesk$Answer" 32 3 4 := ⟨_, _, _, "NetDesk$Answer", rfl, Nat.le_of_ble_eq_true rfl, in_An, Or.inl (zt1 141 rfl), Or.inl rfl⟩
theorem zp_An_init_32 : zPf M_An_init 32 3 4 (.object "NetDesk$Address") := ⟨zf_An_32, _, _, _, ty_An, rfl, tyok_An, nm_An, rfl, Or.inr ⟨rfl, rfl, rfl⟩⟩
theorem zf_An_33 : zFl "NetDesk$Answer" 33 4 5 := ⟨_, _, _, "NetDesk$Fields", rfl, Nat.le_of_ble_eq_true rfl, in_Fl, Or.inl (zt1 114 rfl), Or.inl rfl⟩
theorem zf_An_37 : zFl "NetDesk$Answer" 37 3 5 := ⟨_, _, _, "NetDesk$Answer", rfl, Nat.le_of_ble_eq_true rfl, in_An, Or.inl (zt1 143 rfl), Or.inl rfl⟩
theorem zp_An_init_37 : zPf M_An_init 37 3 5 .boolean := ⟨zf_An_37, _, _, _, ty_An, rfl, tyok_An, nm_An, rfl, Or.inr ⟨rfl, rfl, rfl⟩⟩
theorem zf_An_38 : zFl "NetDesk$Answer" 38 3 6 := ⟨_, _, _, "NetDesk$Answer", rfl, Nat.le_of_ble_eq_true rfl, in_An, Or.inl (zt1 145 rfl), Or.inl rfl⟩
theorem zp_An_init_38 : zPf M_An_init 38 3 6 (.object "java/lang/String") := ⟨zf_An_38, _, _, _, ty_An, rfl, tyok_An, nm_An, rfl, Or.inr ⟨rfl, rfl, rfl⟩⟩
theorem zn_Sv_init_9 : zNf M_Sv_init 9 4 6 [.int 0, .int 0, .null, .null, .null, .int 0] := ⟨_, _, _, ty_Fl, rfl, in_Fl, tyok_Fl, zt4 23 rfl, zt1 98 rfl, zt1 8 rfl, Nat.le_of_ble_eq_true rfl, zDf_Fl⟩
theorem zk_Sv_11 : zLkI "NetDesk$ServerText" 11 M_Fl_init 0 := ⟨zc_Fl_init, rfl, rfl, zt1 100 rfl, Or.inr ⟨_, zt4 24 rfl⟩⟩
theorem zf_Sv_12 : zFl "NetDesk$ServerText" 12 10 1 := ⟨_, _, _, "NetDesk$ServerText", rfl, Nat.le_of_ble_eq_true rfl, in_Sv, Or.inl (zt4 27 rfl), Or.inl rfl⟩
theorem zp_Sv_init_12 : zPf M_Sv_init 12 10 1 (.object "NetDesk$Fields") := ⟨zf_Sv_12, _, _, _, ty_Sv, rfl, tyok_Sv, nm_Sv, rfl, Or.inr ⟨rfl, rfl, rfl⟩⟩
theorem zf_Sv_20 : zFl "NetDesk$ServerText" 20 10 3 := ⟨_, _, _, "NetDesk$ServerText", rfl, Nat.le_of_ble_eq_true rfl, in_Sv, Or.inl (zt4 31 rfl), Or.inl rfl⟩
theorem zp_Sv_init_20 : zPf M_Sv_init 20 10 3 (.object "java/lang/String") := ⟨zf_Sv_20, _, _, _, ty_Sv, rfl, tyok_Sv, nm_Sv, rfl, Or.inl rfl⟩
theorem zf_Sv_24 : zFl "NetDesk$ServerText" 24 10 0 := ⟨_, _, _, "NetDesk$ServerText", rfl, Nat.le_of_ble_eq_true rfl, in_Sv, Or.inl (zt4 26 rfl), Or.inl rfl⟩
theorem zp_Sv_init_24 : zPf M_Sv_init 24 10 0 (.object "java/lang/String") := ⟨zf_Sv_24, _, _, _, ty_Sv, rfl, tyok_Sv, nm_Sv, rfl, Or.inr ⟨rfl, rfl, rfl⟩⟩
theorem zf_Sv_27 : zFl "NetDesk$ServerText" 27 10 2 := ⟨_, _, _, "NetDesk$ServerText", rfl, Nat.le_of_ble_eq_true rfl, in_Sv, Or.inl (zt4 29 rfl), Or.inl rfl⟩
theorem zp_Sv_init_27 : zPf M_Sv_init 27 10 2 (.object "NetDesk$Address") := ⟨zf_Sv_27, _, _, _, ty_Sv, rfl, tyok_Sv, nm_Sv, rfl, Or.inl rfl⟩
theorem zk_Sv_31 : zLkV "NetDesk$ServerText" 31 8 M_St_indexOf_0 1 := ⟨zc_St_indexOf_0, ⟨_, _, _, rfl, Or.inl (zt3 28 rfl)⟩, zt3 27 rfl, Or.inl (zt4 46 rfl)⟩
theorem zk_Sv_37 : zLkV "NetDesk$ServerText" 37 8 M_St_length 0 := ⟨zc_St_length, ⟨_, _, _, rfl, Or.inl (zt2 239 rfl)⟩, zt2 238 rfl, Or.inl (zt4 47 rfl)⟩
theorem zk_Sv_41 : zLkV "NetDesk$ServerText" 41 8 M_St_charAt 1 := ⟨zc_St_charAt, ⟨_, _, _, rfl, Or.inl (zt3 7 rfl)⟩, zt3 6 rfl, Or.inl (zt4 48 rfl)⟩
theorem zk_Sv_45 : zLkV "NetDesk$ServerText" 45 8 M_St_substring_0 2 := ⟨zc_St_substring_0, ⟨_, _, _, rfl, Or.inl (zt3 85 rfl)⟩, zt3 84 rfl, Or.inl (zt4 49 rfl)⟩
theorem zk_Sv_49 : zLkV "NetDesk$ServerText" 49 10 M_Sv_takeAddress 1 := ⟨zc_Sv_takeAddress, ⟨_, _, _, rfl, Or.inl (zsel 6 rfl)⟩, zt4 52 rfl, Or.inl (zt4 50 rfl)⟩
theorem zk_Sv_53 : zLkV "NetDesk$ServerText" 53 4 M_Fl_take 2 := ⟨zc_Fl_take, ⟨_, _, _, rfl, Or.inl (zt4 60 rfl)⟩, zt4 59 rfl, Or.inl (zt4 58 rfl)⟩
theorem zk_Sv_57 : zLkV "NetDesk$ServerText" 57 8 M_St_substring_1 1 := ⟨zc_St_substring_1, ⟨_, _, _, rfl, Or.inl (zt3 108 rfl)⟩, zt3 107 rfl, Or.inl (zt4 88 rfl)⟩
theorem zp_Sv_firstWrong_20 : zPf M_Sv_firstWrong 20 10 3 (.object "java/lang/String") := ⟨zf_Sv_20, _, _, _, ty_Sv, rfl, tyok_Sv, nm_Sv, rfl, Or.inl rfl⟩
theorem zk_Sv_60 : zLkS "NetDesk$ServerText" 60 M_Ad_read 2 := ⟨zc_Ad_read, zt3 21 rfl, Or.inl (zt4 54 rfl)⟩
theorem zf_Sv_66 : zFl "NetDesk$ServerText" 66 2 3 := ⟨_, _, _, "NetDesk$Address", rfl, Nat.le_of_ble_eq_true rfl, in_Ad, Or.inl (zt1 84 rfl), Or.inl rfl⟩
theorem zk_Sv_69 : zLkV "NetDesk$ServerText" 69 8 M_St_isEmpty 0 := ⟨zc_St_isEmpty, ⟨_, _, _, rfl, Or.inl (zt3 116 rfl)⟩, zt3 115 rfl, Or.inl (zt4 55 rfl)⟩
theorem zk_Sv_75 : zLkS "NetDesk$ServerText" 75 M_Tx_begins 2 := ⟨zc_Tx_begins, zt3 156 rfl, Or.inl (zt4 57 rfl)⟩
theorem zp_Sv_takeAddress_27 : zPf M_Sv_takeAddress 27 10 2 (.object "NetDesk$Address") := ⟨zf_Sv_27, _, _, _, ty_Sv, rfl, tyok_Sv, nm_Sv, rfl, Or.inl rfl⟩
theorem zk_Fl_34 : zLkV "NetDesk$Fields" 34 8 M_St_equals 1 := ⟨zc_St_equals, ⟨_, _, _, rfl, Or.inl (zt3 161 rfl)⟩, zt3 160 rfl, Or.inl (zt4 63 rfl)⟩
theorem zp_Fl_take_30 : zPf M_Fl_take 30 4 5 .boolean := ⟨zf_Fl_30, _, _, _, ty_Fl, rfl, tyok_Fl, nm_Fl, rfl, Or.inl rfl⟩
theorem zk_Fl_42 : zLkS "NetDesk$Fields" 42 M_Tx_begins 2 := ⟨zc_Tx_begins, zt3 156 rfl, Or.inl (zt4 65 rfl)⟩
theorem zk_Fl_48 : zLkV "NetDesk$Fields" 48 8 M_St_substring_1 1 := ⟨zc_St_substring_1, ⟨_, _, _, rfl, Or.inl (zt3 108 rfl)⟩, zt3 107 rfl, Or.inl (zt4 66 rfl)⟩
theorem zk_Fl_52 : zLkV "NetDesk$Fields" 52 4 M_Fl_takeAge 1 := ⟨zc_Fl_takeAge, ⟨_, _, _, rfl, Or.inl (zsel 7 rfl)⟩, zt4 69 rfl, Or.inl (zt4 67 rfl)⟩
theorem zk_Fl_58 : zLkV "NetDesk$Fields" 58 4 M_Fl_takeCookie 1 := ⟨zc_Fl_takeCookie, ⟨_, _, _, rfl, Or.inl (zsel 8 rfl)⟩, zt4 80 rfl, Or.inl (zt4 78 rfl)⟩
theorem zk_Fl_63 : zLkS "NetDesk$Fields" 63 M_Ad_read 2 := ⟨zc_Ad_read, zt3 21 rfl, Or.inl (zt4 87 rfl)⟩
theorem zp_Fl_take_26 : zPf M_Fl_take 26 4 4 (.object "NetDesk$Address") := ⟨zf_Fl_26, _, _, _, ty_Fl, rfl, tyok_Fl, nm_Fl, rfl, Or.inl rfl⟩
theorem zk_Fl_69 : zLkS "NetDesk$Fields" 69 M_Tx_isNumber 1 := ⟨zc_Tx_isNumber, zt4 72 rfl, Or.inl (zt4 71 rfl)⟩
theorem zp_Fl_takeAge_7 : zPf M_Fl_takeAge 7 4 0 .boolean := ⟨zf_Fl_7, _, _, _, ty_Fl, rfl, tyok_Fl, nm_Fl, rfl, Or.inl rfl⟩
theorem zk_Fl_72 : zLkS "NetDesk$Fields" 72 M_Tx_number 1 := ⟨zc_Tx_number, zt4 75 rfl, Or.inl (zt4 74 rfl)⟩
theorem zp_Fl_takeAge_13 : zPf M_Fl_takeAge 13 4 1 .int := ⟨zf_Fl_13, _, _, _, ty_Fl, rfl, tyok_Fl, nm_Fl, rfl, Or.inl rfl⟩
theorem zk_Fl_76 : zLkV "NetDesk$Fields" 76 8 M_St_indexOf_0 1 := ⟨zc_St_indexOf_0, ⟨_, _, _, rfl, Or.inl (zt3 28 rfl)⟩, zt3 27 rfl, Or.inl (zt4 82 rfl)⟩
theorem zk_Fl_80 : zLkV "NetDesk$Fields" 80 8 M_St_isEmpty 0 := ⟨zc_St_isEmpty, ⟨_, _, _, rfl, Or.inl (zt3 116 rfl)⟩, zt3 115 rfl, Or.inl (zt4 83 rfl)⟩
theorem zk_Fl_84 : zLkV "NetDesk$Fields" 84 8 M_St_substring_0 2 := ⟨zc_St_substring_0, ⟨_, _, _, rfl, Or.inl (zt3 85 rfl)⟩, zt3 84 rfl, Or.inl (zt4 84 rfl)⟩
theorem zk_Fl_87 : zLkS "NetDesk$Fields" 87 M_Tx_isName 1 := ⟨zc_Tx_isName, zt3 130 rfl, Or.inl (zt4 85 rfl)⟩
theorem zp_Fl_takeCookie_19 : zPf M_Fl_takeCookie 19 4 2 (.object "java/lang/String") := ⟨zf_Fl_19, _, _, _, ty_Fl, rfl, tyok_Fl, nm_Fl, rfl, Or.inl rfl⟩
theorem zp_Fl_takeCookie_23 : zPf M_Fl_takeCookie 23 4 3 (.object "java/lang/String") := ⟨zf_Fl_23, _, _, _, ty_Fl, rfl, tyok_Fl, nm_Fl, rfl, Or.inl rfl⟩
theorem zf_Ck_7 : zFl "NetDesk$Cookie" 7 11 0 := ⟨_, _, _, "NetDesk$Cookie", rfl, Nat.le_of_ble_eq_true rfl, in_Ck, Or.inl (zt4 210 rfl), Or.inl rfl⟩
theorem zp_Ck_init_7 : zPf M_Ck_init 7 11 0 (.object "java/lang/String") := ⟨zf_Ck_7, _, _, _, ty_Ck, rfl, tyok_Ck, nm_Ck, rfl, Or.inr ⟨rfl, rfl, rfl⟩⟩
theorem zf_Ck_13 : zFl "NetDesk$Cookie" 13 11 1 := ⟨_, _, _, "NetDesk$Cookie", rfl, Nat.le_of_ble_eq_true rfl, in_Ck, Or.inl (zt4 212 rfl), Or.inl rfl⟩
theorem zp_Ck_init_13 : zPf M_Ck_init 13 11 1 (.object "java/lang/String") := ⟨zf_Ck_13, _, _, _, ty_Ck, rfl, tyok_Ck, nm_Ck, rfl, Or.inr ⟨rfl, rfl, rfl⟩⟩
theorem zf_Ck_16 : zFl "NetDesk$Cookie" 16 11 2 := ⟨_, _, _, "NetDesk$Cookie", rfl, Nat.le_of_ble_eq_true rfl, in_Ck, Or.inl (zt4 214 rfl), Or.inl rfl⟩
theorem zp_Ck_init_16 : zPf M_Ck_init 16 11 2 (.object "java/lang/String") := ⟨zf_Ck_16, _, _, _, ty_Ck, rfl, tyok_Ck, nm_Ck, rfl, Or.inr ⟨rfl, rfl, rfl⟩⟩
theorem zf_Kt_7 : zFl "NetDesk$Kept" 7 12 0 := ⟨_, _, _, "NetDesk$Kept", rfl, Nat.le_of_ble_eq_true rfl, in_Kt, Or.inl (zt4 235 rfl), Or.inl rfl⟩
theorem zp_Kt_init_7 : zPf M_Kt_init 7 12 0 (.object "NetDesk$Answer") := ⟨zf_Kt_7, _, _, _, ty_Kt, rfl, tyok_Kt, nm_Kt, rfl, Or.inr ⟨rfl, rfl, rfl⟩⟩
theorem zf_Kt_13 : zFl "NetDesk$Kept" 13 12 1 := ⟨_, _, _, "NetDesk$Kept", rfl, Nat.le_of_ble_eq_true rfl, in_Kt, Or.inl (zt4 237 rfl), Or.inl rfl⟩
theorem zp_Kt_init_13 : zPf M_Kt_init 13 12 1 .int := ⟨zf_Kt_13, _, _, _, ty_Kt, rfl, tyok_Kt, nm_Kt, rfl, Or.inr ⟨rfl, rfl, rfl⟩⟩
theorem sFl_init_0 {G : zG} {d : Nat} {Q : Option Value → Heap → Prop} {H : Heap} {st : List Value} {a0 : Nat} (hd : 1 ≤ d) (hl : st.length ≤ 4) (kk : zW G d M_Fl_init 4 [some (.ref a0)] st H Q) : zW G d M_Fl_init 0 [some (.ref a0)] st H Q :=
  zw_aload_n (i := 0) dFl_init_0 rfl rfl zRf_ref <| zw_objInit dFl_init_1 hd (zt1 102 rfl) zo_inst zo_code hl kk
theorem sFl_init_4 {G : zG} {d : Nat} {Q : Option Value → Heap → Prop} {H : Heap} {st : List Value} {a0 : Nat} {b0 : Value} {b1 : Value} {b2 : Value} {b3 : Value} {b4 : Value} {b5 : Value} (ho : zObj G H a0 4 [b0, b1, b2, b3, b4, b5]) (hw : zFr G a0) (hn : narrow .boolean (.int (0 : Int32)) = (.int (0 : Int32))) (hfit : fits .boolean (.int (0 : Int32)) = true) (kk : ∀ H1 : Heap, zObj G H1 a0 4 [(.int (0 : Int32)), b1, b2, b3, b4, b5] → zUp a0 H H1 → zW G d M_Fl_init 9 [some (.ref a0)] st H1 Q) : zW G d M_Fl_init 4 [some (.ref a0)] st H Q :=
  zw_aload_n (i := 0) dFl_init_4 rfl rfl zRf_ref <| zw_iconst (0 : Int32) dFl_init_5 zki_0 <| zw_putf (k := 0) dFl_init_6 zp_Fl_init_7 ho (Nat.le_of_ble_eq_true rfl) (Nat.le_of_ble_eq_true rfl) hw hn hfit kk
theorem sFl_init_9 {G : zG} {d : Nat} {Q : Option Value → Heap → Prop} {H : Heap} {st : List Value} {a0 : Nat} {b0 : Value} {b1 : Value} {b2 : Value} {b3 : Value} {b4 : Value} {b5 : Value} (ho : zObj G H a0 4 [b0, b1, b2, b3, b4, b5]) (hw : zFr G a0) (kk : ∀ H1 : Heap, zObj G H1 a0 4 [b0, (.int (0 : Int32)), b2, b3, b4, b5] → zUp a0 H H1 → zW G d M_Fl_init 14 [some (.ref a0)] st H1 Q) : zW G d M_Fl_init 9 [some (.ref a0)] st H Q :=
  zw_aload_n (i := 0) dFl_init_9 rfl rfl zRf_ref <| zw_iconst (0 : Int32) dFl_init_10 zki_0 <| zw_putf (k := 1) dFl_init_11 zp_Fl_init_13 ho (Nat.le_of_ble_eq_true rfl) (Nat.le_of_ble_eq_true rfl) hw rfl rfl kk
theorem sFl_init_14 {G : zG} {d : Nat} {Q : Option Value → Heap → Prop} {H : Heap} {st : List Value} {a0 : Nat} {ak1 : Nat} {b0 : Value} {b1 : Value} {b2 : Value} {b3 : Value} {b4 : Value} {b5 : Value} (hk1 : vk_R "NetDesk$Fields" 17 "" ak1 (zS G)) (ho : zObj G H a0 4 [b0, b1, b2, b3, b4, b5]) (hw : zFr G a0) (kk : ∀ H1 : Heap, zObj G H1 a0 4 [b0, b1, (.ref ak1), b3, b4, b5] → zUp a0 H H1 → zW G d M_Fl_init 20 [some (.ref a0)] st H1 Q) : zW G d M_Fl_init 14 [some (.ref a0)] st H Q :=
  zw_aload_n (i := 0) dFl_init_14 rfl rfl zRf_ref <| zw_ldcS dFl_init_15 rfl hk1 <| zw_putf (k := 2) dFl_init_17 zp_Fl_init_19 ho (Nat.le_of_ble_eq_true rfl) (Nat.le_of_ble_eq_true rfl) hw (zNarO zRf_ref) (zFitO zRf_ref) kk
theorem sFl_init_20 {G : zG} {d : Nat} {Q : Option Value → Heap → Prop} {H : Heap} {st : List Value} {a0 : Nat} {ak1 : Nat} {b0 : Value} {b1 : Value} {b2 : Value} {b3 : Value} {b4 : Value} {b5 : Value} (hk1 : vk_R "NetDesk$Fields" 17 "" ak1 (zS G)) (ho : zObj G H a0 4 [b0, b1, b2, b3, b4, b5]) (hw : zFr G a0) (kk : ∀ H1 : Heap, zObj G H1 a0 4 [b0, b1, b2, (.ref ak1), b4, b5] → zUp a0 H H1 → zW G d M_Fl_init 26 [some (.ref a0)] st H1 Q) : zW G d M_Fl_init 20 [some (.ref a0)] st H Q :=
  zw_aload_n (i := 0) dFl_init_20 rfl rfl zRf_ref <| zw_ldcS dFl_init_21 rfl hk1 <| zw_putf (k := 3) dFl_init_23 zp_Fl_init_23 ho (Nat.le_of_ble_eq_true rfl) (Nat.le_of_ble_eq_true rfl) hw (zNarO zRf_ref) (zFitO zRf_ref) kk
theorem sFl_init_26 {G : zG} {d : Nat} {Q : Option Value → Heap → Prop} {H : Heap} {st : List Value} {a0 : Nat} {b0 : Value} {b1 : Value} {b2 : Value} {b3 : Value} {b4 : Value} {b5 : Value} (ho : zObj G H a0 4 [b0, b1, b2, b3, b4, b5]) (hw : zFr G a0) (kk : ∀ H1 : Heap, zObj G H1 a0 4 [b0, b1, b2, b3, .null, b5] → zUp a0 H H1 → zW G d M_Fl_init 31 [some (.ref a0)] st H1 Q) : zW G d M_Fl_init 26 [some (.ref a0)] st H Q :=
  zw_aload_n (i := 0) dFl_init_26 rfl rfl zRf_ref <| zw_null dFl_init_27 <| zw_putf (k := 4) dFl_init_28 zp_Fl_init_26 ho (Nat.le_of_ble_eq_true rfl) (Nat.le_of_ble_eq_true rfl) hw (zNarO zRf_null) (zFitO zRf_null) kk
theorem sFl_init_31 {G : zG} {d : Nat} {Q : Option Value → Heap → Prop} {H : Heap} {st : List Value} {a0 : Nat} {b0 : Value} {b1 : Value} {b2 : Value} {b3 : Value} {b4 : Value} {b5 : Value} (ho : zObj G H a0 4 [b0, b1, b2, b3, b4, b5]) (hw : zFr G a0) (hn : narrow .boolean (.int (0 : Int32)) = (.int (0 : Int32))) (hfit : fits .boolean (.int (0 : Int32)) = true) (kk : ∀ H1 : Heap, zObj G H1 a0 4 [b0, b1, b2, b3, b4, (.int (0 : Int32))] → zUp a0 H H1 → zW G d M_Fl_init 36 [some (.ref a0)] st H1 Q) : zW G d M_Fl_init 31 [some (.ref a0)] st H Q :=
  zw_aload_n (i := 0) dFl_init_31 rfl rfl zRf_ref <| zw_iconst (0 : Int32) dFl_init_32 zki_0 <| zw_putf (k := 5) dFl_init_33 zp_Fl_init_30 ho (Nat.le_of_ble_eq_true rfl) (Nat.le_of_ble_eq_true rfl) hw hn hfit kk
theorem sFl_init_36 {G : zG} {d : Nat} {Q : Option Value → Heap → Prop} {H : Heap} {o0 : Option Value} (hq : Q none H) : zW G d M_Fl_init 36 [o0] [] H Q :=
  zw_vret dFl_init_36 rfl hq
theorem sAn_init_0 {G : zG} {d : Nat} {Q : Option Value → Heap → Prop} {H : Heap} {st : List Value} {o1 : Option Value} {o2 : Option Value} {o3 : Option Value} {a0 : Nat} (hd : 1 ≤ d) (hl : st.length ≤ 4) (kk : zW G d M_An_init 4 [some (.ref a0), o1, o2, o3] st H Q) : zW G d M_An_init 0 [some (.ref a0), o1, o2, o3] st H Q :=
  zw_aload_n (i := 0) dAn_init_0 rfl rfl zRf_ref <| zw_objInit dAn_init_1 hd (zt1 131 rfl) zo_inst zo_code hl kk
theorem sAn_init_4 {G : zG} {d : Nat} {Q : Option Value → Heap → Prop} {H : Heap} {st : List Value} {o2 : Option Value} {o3 : Option Value} {a0 : Nat} {v1 : Value} {b0 : Value} {b1 : Value} {b2 : Value} {b3 : Value} {b4 : Value} {b5 : Value} {b6 : Value} (hr1 : zRf v1 := by first | exact zRf_ref | exact zRf_null | exact zRf_rf _ | assumption) (ho : zObj G H a0 3 [b0, b1, b2, b3, b4, b5, b6]) (hw : zFr G a0) (kk : ∀ H1 : Heap, zObj G H1 a0 3 [v1, b1, b2, b3, b4, b5, b6] → zUp a0 H H1 → zW G d M_An_init 9 [some (.ref a0), some v1, o2, o3] st H1 Q) : zW G d M_An_init 4 [some (.ref a0), some v1, o2, o3] st H Q :=
  zw_aload_n (i := 0) dAn_init_4 rfl rfl zRf_ref <| zw_aload_n (i := 1) dAn_init_5 rfl rfl hr1 <| zw_putf (k := 0) dAn_init_6 zp_An_init_7 ho (Nat.le_of_ble_eq_true rfl) (Nat.le_of_ble_eq_true rfl) hw (zNarO hr1) (zFitO hr1) kk
theorem sAn_init_9 {G : zG} {d : Nat} {Q : Option Value → Heap → Prop} {H : Heap} {st : List Value} {o1 : Option Value} {o3 : Option Value} {a0 : Nat} {a2 : Nat} {xf1 : Int32} {b0 : Value} {b1 : Value} {b2 : Value} {b3 : Value} {b4 : Value} {b5 : Value} {b6 : Value} (hf1 : zFd G H a2 4 1 (.int xf1)) (ho : zObj G H a0 3 [b0, b1, b2, b3, b4, b5, b6]) (hw : zFr G a0) (kk : ∀ H1 : Heap, zObj G H1 a0 3 [b0, (.int xf1), b2, b3, b4, b5, b6] → zUp a0 H H1 → zW G d M_An_init 17 [some (.ref a0), o1, some (.ref a2), o3] st H1 Q) : zW G d M_An_init 9 [some (.ref a0), o1, some (.ref a2), o3] st H Q :=
  zw_aload_n (i := 0) dAn_init_9 rfl rfl zRf_ref <| zw_aload_n (i := 2) dAn_init_10 rfl rfl zRf_ref <| zw_getf dAn_init_11 zf_An_13 hf1 <| zw_putf (k := 1) dAn_init_14 zp_An_init_19 ho (Nat.le_of_ble_eq_true rfl) (Nat.le_of_ble_eq_true rfl) hw rfl rfl kk
theorem sAn_init_17 {G : zG} {d : Nat} {Q : Option Value → Heap → Prop} {H : Heap} {st : List Value} {o1 : Option Value} {o3 : Option Value} {a0 : Nat} {a2 : Nat} {vf1 : Value} {b0 : Value} {b1 : Value} {b2 : Value} {b3 : Value} {b4 : Value} {b5 : Value} {b6 : Value} (hrf1 : zRf vf1 := by first | exact zRf_ref | exact zRf_null | exact zRf_rf _ | assumption) (hf1 : zFd G H a2 4 2 vf1) (ho : zObj G H a0 3 [b0, b1, b2, b3, b4, b5, b6]) (hw : zFr G a0) (kk : ∀ H1 : Heap, zObj G H1 a0 3 [b0, b1, vf1, b3, b4, b5, b6] → zUp a0 H H1 → zW G d M_An_init 25 [some (.ref a0), o1, some (.ref a2), o3] st H1 Q) : zW G d M_An_init 17 [some (.ref a0), o1, some (.ref a2), o3] st H Q :=
  zw_aload_n (i := 0) dAn_init_17 rfl rfl zRf_ref <| zw_aload_n (i := 2) dAn_init_18 rfl rfl zRf_ref <| zw_getf dAn_init_19 zf_An_20 hf1 <| zw_putf (k := 2) dAn_init_22 zp_An_init_24 ho (Nat.le_of_ble_eq_true rfl) (Nat.le_of_ble_eq_true rfl) hw (zNarO hrf1) (zFitO hrf1) kk
theorem sAn_init_25 {G : zG} {d : Nat} {Q : Option Value → Heap → Prop} {H : Heap} {st : List Value} {o1 : Option Value} {o3 : Option Value} {a0 : Nat} {a2 : Nat} {vf1 : Value} {b0 : Value} {b1 : Value} {b2 : Value} {b3 : Value} {b4 : Value} {b5 : Value} {b6 : Value} (hrf1 : zRf vf1 := by first | exact zRf_ref | exact zRf_null | exact zRf_rf _ | assumption) (hf1 : zFd G H a2 4 3 vf1) (ho : zObj G H a0 3 [b0, b1, b2, b3, b4, b5, b6]) (hw : zFr G a0) (kk : ∀ H1 : Heap, zObj G H1 a0 3 [b0, b1, b2, vf1, b4, b5, b6] → zUp a0 H H1 → zW G d M_An_init 33 [some (.ref a0), o1, some (.ref a2), o3] st H1 Q) : zW G d M_An_init 25 [some (.ref a0), o1, some (.ref a2), o3] st H Q :=
  zw_aload_n (i := 0) dAn_init_25 rfl rfl zRf_ref <| zw_aload_n (i := 2) dAn_init_26 rfl rfl zRf_ref <| zw_getf dAn_init_27 zf_An_25 hf1 <| zw_putf (k := 3) dAn_init_30 zp_An_init_28 ho (Nat.le_of_ble_eq_true rfl) (Nat.le_of_ble_eq_true rfl) hw (zNarO hrf1) (zFitO hrf1) kk
theorem sAn_init_33 {G : zG} {d : Nat} {Q : Option Value → Heap → Prop} {H : Heap} {st : List Value} {o1 : Option Value} {o3 : Option Value} {a0 : Nat} {a2 : Nat} {vf1 : Value} {b0 : Value} {b1 : Value} {b2 : Value} {b3 : Value} {b4 : Value} {b5 : Value} {b6 : Value} (hrf1 : zRf vf1 := by first | exact zRf_ref | exact zRf_null | exact zRf_rf _ | assumption) (hf1 : zFd G H a2 4 4 vf1) (ho : zObj G H a0 3 [b0, b1, b2, b3, b4, b5, b6]) (hw : zFr G a0) (kk : ∀ H1 : Heap, zObj G H1 a0 3 [b0, b1, b2, b3, vf1, b5, b6] → zUp a0 H H1 → zW G d M_An_init 41 [some (.ref a0), o1, some (.ref a2), o3] st H1 Q) : zW G d M_An_init 33 [some (.ref a0), o1, some (.ref a2), o3] st H Q :=
  zw_aload_n (i := 0) dAn_init_33 rfl rfl zRf_ref <| zw_aload_n (i := 2) dAn_init_34 rfl rfl zRf_ref <| zw_getf dAn_init_35 zf_An_29 hf1 <| zw_putf (k := 4) dAn_init_38 zp_An_init_32 ho (Nat.le_of_ble_eq_true rfl) (Nat.le_of_ble_eq_true rfl) hw (zNarO hrf1) (zFitO hrf1) kk
theorem sAn_init_41 {G : zG} {d : Nat} {Q : Option Value → Heap → Prop} {H : Heap} {st : List Value} {o1 : Option Value} {o3 : Option Value} {a0 : Nat} {a2 : Nat} {xf1 : Int32} {b0 : Value} {b1 : Value} {b2 : Value} {b3 : Value} {b4 : Value} {b5 : Value} {b6 : Value} (hf1 : zFd G H a2 4 5 (.int xf1)) (ho : zObj G H a0 3 [b0, b1, b2, b3, b4, b5, b6]) (hw : zFr G a0) (hn : narrow .boolean (.int xf1) = (.int xf1)) (hfit : fits .boolean (.int xf1) = true) (kk : ∀ H1 : Heap, zObj G H1 a0 3 [b0, b1, b2, b3, b4, (.int xf1), b6] → zUp a0 H H1 → zW G d M_An_init 49 [some (.ref a0), o1, some (.ref a2), o3] st H1 Q) : zW G d M_An_init 41 [some (.ref a0), o1, some (.ref a2), o3] st H Q :=
  zw_aload_n (i := 0) dAn_init_41 rfl rfl zRf_ref <| zw_aload_n (i := 2) dAn_init_42 rfl rfl zRf_ref <| zw_getf dAn_init_43 zf_An_33 hf1 <| zw_putf (k := 5) dAn_init_46 zp_An_init_37 ho (Nat.le_of_ble_eq_true rfl) (Nat.le_of_ble_eq_true rfl) hw hn hfit kk
theorem sAn_init_49 {G : zG} {d : Nat} {Q : Option Value → Heap → Prop} {H : Heap} {st : List Value} {o1 : Option Value} {o2 : Option Value} {a0 : Nat} {v3 : Value} {b0 : Value} {b1 : Value} {b2 : Value} {b3 : Value} {b4 : Value} {b5 : Value} {b6 : Value} (hr3 : zRf v3 := by first | exact zRf_ref | exact zRf_null | exact zRf_rf _ | assumption) (ho : zObj G H a0 3 [b0, b1, b2, b3, b4, b5, b6]) (hw : zFr G a0) (kk : ∀ H1 : Heap, zObj G H1 a0 3 [b0, b1, b2, b3, b4, b5, v3] → zUp a0 H H1 → zW G d M_An_init 54 [some (.ref a0), o1, o2, some v3] st H1 Q) : zW G d M_An_init 49 [some (.ref a0), o1, o2, some v3] st H Q :=
  zw_aload_n (i := 0) dAn_init_49 rfl rfl zRf_ref <| zw_aload_n (i := 3) dAn_init_50 rfl rfl hr3 <| zw_putf (k := 6) dAn_init_51 zp_An_init_38 ho (Nat.le_of_ble_eq_true rfl) (Nat.le_of_ble_eq_true rfl) hw (zNarO hr3) (zFitO hr3) kk
theorem sAn_init_54 {G : zG} {d : Nat} {Q : Option Value → Heap → Prop} {H : Heap} {o0 : Option Value} {o1 : Option Value} {o2 : Option Value} {o3 : Option Value} (hq : Q none H) : zW G d M_An_init 54 [o0, o1, o2, o3] [] H Q :=
  zw_vret dAn_init_54 rfl hq
theorem sSv_init_0 {G : zG} {d : Nat} {Q : Option Value → Heap → Prop} {H : Heap} {st : List Value} {o1 : Option Value} {o2 : Option Value} {a0 : Nat} (hd : 1 ≤ d) (hl : st.length ≤ 4) (kk : zW G d M_Sv_init 4 [some (.ref a0), o1, o2] st H Q) : zW G d M_Sv_init 0 [some (.ref a0), o1, o2] st H Q :=
  zw_aload_n (i := 0) dSv_init_0 rfl rfl zRf_ref <| zw_objInit dSv_init_1 hd (zt4 22 rfl) zo_inst zo_code hl kk
theorem sSv_init_4 {G : zG} {d : Nat} {Q : Option Value → Heap → Prop} {H : Heap} {st : List Value} {o1 : Option Value} {o2 : Option Value} {v0 : Value} (hr0 : zRf v0 := by first | exact zRf_ref | exact zRf_null | exact zRf_rf _ | assumption) (hc1 : H.size + 1 ≤ zCp G) (hs1 : zT H + 6 ≤ zSp G) (kk : ∀ H1 : Heap, zObj G H1 H.size 4 [.int 0, .int 0, .null, .null, .null, .int 0] → zNw 6 H H1 → zW G d M_Sv_init 8 [some v0, o1, o2] ((.ref H.size) :: v0 :: st) H1 Q) : zW G d M_Sv_init 4 [some v0, o1, o2] st H Q :=
  zw_aload_n (i := 0) dSv_init_4 rfl rfl hr0 <| zw_new dSv_init_5 zn_Sv_init_9 hc1 hs1 kk
theorem sSv_init_8 {G : zG} {d : Nat} {Q : Option Value → Heap → Prop} {H : Heap} {st : List Value} {o0 : Option Value} {o1 : Option Value} {o2 : Option Value} {as0 : Nat} {P : Heap → Prop} (hd : 1 ≤ d) (hl : ((.ref as0) :: st).length ≤ 4) (hc : zC G (d - 1) M_Fl_init [(.ref as0)] H (zPv P)) (kk : ∀ H1 : Heap, P H1 → zOk G H1 → H.size ≤ H1.size → zT H ≤ zT H1 → zW G d M_Sv_init 12 [o0, o1, o2] ((.ref as0) :: st) H1 Q) : zW G d M_Sv_init 8 [o0, o1, o2] ((.ref as0) :: st) H Q :=
  zw_dup dSv_init_8 rfl <| zw_callI [] _ dSv_init_9 hd zk_Sv_11 rfl rfl hl hc (zPv_k kk)
theorem sSv_init_12 {G : zG} {d : Nat} {Q : Option Value → Heap → Prop} {H : Heap} {st : List Value} {o0 : Option Value} {o1 : Option Value} {o2 : Option Value} {vs0 : Value} {as1 : Nat} {b0 : Value} {b1 : Value} {b2 : Value} {b3 : Value} (hrs0 : zRf vs0 := by first | exact zRf_ref | exact zRf_null | exact zRf_rf _ | assumption) (ho : zObj G H as1 10 [b0, b1, b2, b3]) (hw : zFr G as1) (kk : ∀ H1 : Heap, zObj G H1 as1 10 [b0, vs0, b2, b3] → zUp as1 H H1 → zW G d M_Sv_init 15 [o0, o1, o2] st H1 Q) : zW G d M_Sv_init 12 [o0, o1, o2] (vs0 :: (.ref as1) :: st) H Q :=
  zw_putf (k := 1) dSv_init_12 zp_Sv_init_12 ho (Nat.le_of_ble_eq_true rfl) (Nat.le_of_ble_eq_true rfl) hw (zNarO hrs0) (zFitO hrs0) kk
theorem sSv_init_15 {G : zG} {d : Nat} {Q : Option Value → Heap → Prop} {H : Heap} {st : List Value} {o1 : Option Value} {o2 : Option Value} {a0 : Nat} {ak1 : Nat} {b0 : Value} {b1 : Value} {b2 : Value} {b3 : Value} (hk1 : vk_R "NetDesk$ServerText" 18 "" ak1 (zS G)) (ho : zObj G H a0 10 [b0, b1, b2, b3]) (hw : zFr G a0) (kk : ∀ H1 : Heap, zObj G H1 a0 10 [b0, b1, b2, (.ref ak1)] → zUp a0 H H1 → zW G d M_Sv_init 21 [some (.ref a0), o1, o2] st H1 Q) : zW G d M_Sv_init 15 [some (.ref a0), o1, o2] st H Q :=
  zw_aload_n (i := 0) dSv_init_15 rfl rfl zRf_ref <| zw_ldcS dSv_init_16 rfl hk1 <| zw_putf (k := 3) dSv_init_18 zp_Sv_init_20 ho (Nat.le_of_ble_eq_true rfl) (Nat.le_of_ble_eq_true rfl) hw (zNarO zRf_ref) (zFitO zRf_ref) kk
theorem sSv_init_21 {G : zG} {d : Nat} {Q : Option Value → Heap → Prop} {H : Heap} {st : List Value} {o2 : Option Value} {a0 : Nat} {v1 : Value} {b0 : Value} {b1 : Value} {b2 : Value} {b3 : Value} (hr1 : zRf v1 := by first | exact zRf_ref | exact zRf_null | exact zRf_rf _ | assumption) (ho : zObj G H a0 10 [b0, b1, b2, b3]) (hw : zFr G a0) (kk : ∀ H1 : Heap, zObj G H1 a0 10 [v1, b1, b2, b3] → zUp a0 H H1 → zW G d M_Sv_init 26 [some (.ref a0), some v1, o2] st H1 Q) : zW G d M_Sv_init 21 [some (.ref a0), some v1, o2] st H Q :=
  zw_aload_n (i := 0) dSv_init_21 rfl rfl zRf_ref <| zw_aload_n (i := 1) dSv_init_22 rfl rfl hr1 <| zw_putf (k := 0) dSv_init_23 zp_Sv_init_24 ho (Nat.le_of_ble_eq_true rfl) (Nat.le_of_ble_eq_true rfl) hw (zNarO hr1) (zFitO hr1) kk
theorem sSv_init_26 {G : zG} {d : Nat} {Q : Option Value → Heap → Prop} {H : Heap} {st : List Value} {o1 : Option Value} {a0 : Nat} {v2 : Value} {b0 : Value} {b1 : Value} {b2 : Value} {b3 : Value} (hr2 : zRf v2 := by first | exact zRf_ref | exact zRf_null | exact zRf_rf _ | assumption) (ho : zObj G H a0 10 [b0, b1, b2, b3]) (hw : zFr G a0) (kk : ∀ H1 : Heap, zObj G H1 a0 10 [b0, b1, v2, b3] → zUp a0 H H1 → zW G d M_Sv_init 31 [some (.ref a0), o1, some v2] st H1 Q) : zW G d M_Sv_init 26 [some (.ref a0), o1, some v2] st H Q :=
  zw_aload_n (i := 0) dSv_init_26 rfl rfl zRf_ref <| zw_aload_n (i := 2) dSv_init_27 rfl rfl hr2 <| zw_putf (k := 2) dSv_init_28 zp_Sv_init_27 ho (Nat.le_of_ble_eq_true rfl) (Nat.le_of_ble_eq_true rfl) hw (zNarO hr2) (zFitO hr2) kk
theorem sSv_init_31 {G : zG} {d : Nat} {Q : Option Value → Heap → Prop} {H : Heap} {o0 : Option Value} {o1 : Option Value} {o2 : Option Value} (hq : Q none H) : zW G d M_Sv_init 31 [o0, o1, o2] [] H Q :=
  zw_vret dSv_init_31 rfl hq
theorem sSv_firstWrong_0 {G : zG} {d : Nat} {Q : Option Value → Heap → Prop} {H : Heap} {st : List Value} {o1 : Option Value} {o2 : Option Value} {o3 : Option Value} {o4 : Option Value} {o5 : Option Value} {o6 : Option Value} {a0 : Nat} {af1 : Nat} {P : Int32 → Heap → Prop} (hf1 : zFd G H a0 10 0 (.ref af1)) (hd : 1 ≤ d) (hl : st.length ≤ 4) (ho : zIs G H af1 8) (hc : zC G (d - 1) M_St_indexOf_0 [(.ref af1), (.int (10 : Int32))] H (zPi P)) (kk : ∀ (r : Int32) (H1 : Heap), P r H1 → zOk G H1 → H.size ≤ H1.size → zT H ≤ zT H1 → zW G d M_Sv_firstWrong 9 [some (.ref a0), o1, o2, o3, o4, o5, o6] ((.int r) :: st) H1 Q) : zW G d M_Sv_firstWrong 0 [some (.ref a0), o1, o2, o3, o4, o5, o6] st H Q :=
  zw_aload_n (i := 0) dSv_firstWrong_0 rfl rfl zRf_ref <| zw_getf dSv_firstWrong_1 zf_Sv_24 hf1 <| zw_bipush (10 : Int32) dSv_firstWrong_4 zkb_10 <| zw_callV [(.int (10 : Int32))] _ dSv_firstWrong_6 hd zk_Sv_31 ho rfl rfl hl hc (zPi_k kk)
theorem sSv_firstWrong_9 {G : zG} {d : Nat} {Q : Option Value → Heap → Prop} {H : Heap} {st : List Value} {o0 : Option Value} {o1 : Option Value} {o2 : Option Value} {o3 : Option Value} {o4 : Option Value} {o5 : Option Value} {o6 : Option Value} {xs0 : Int32} (kt : (0 ≤ xs0) → zW G d M_Sv_firstWrong 24 [o0, some (.int xs0), o2, o3, o4, o5, o6] st H Q) (kf : (¬ 0 ≤ xs0) → zW G d M_Sv_firstWrong 14 [o0, some (.int xs0), o2, o3, o4, o5, o6] st H Q) : zW G d M_Sv_firstWrong 9 [o0, o1, o2, o3, o4, o5, o6] ((.int xs0) :: st) H Q :=
  zw_istore_n (i := 1) dSv_firstWrong_9 rfl (Nat.le_of_ble_eq_true rfl) <| zw_iload_n (i := 1) dSv_firstWrong_10 rfl rfl <| zw_if_ge 24 dSv_firstWrong_11 (by decide) kt kf
theorem sSv_firstWrong_14 {G : zG} {d : Nat} {Q : Option Value → Heap → Prop} {H : Heap} {st : List Value} {o1 : Option Value} {o2 : Option Value} {o3 : Option Value} {o4 : Option Value} {o5 : Option Value} {o6 : Option Value} {a0 : Nat} {af1 : Nat} {P : Int32 → Heap → Prop} (hf1 : zFd G H a0 10 0 (.ref af1)) (hd : 1 ≤ d) (hl : st.length ≤ 4) (ho : zIs G H af1 8) (hc : zC G (d - 1) M_St_length [(.ref af1)] H (zPi P)) (kk : ∀ (r : Int32) (H1 : Heap), P r H1 → zOk G H1 → H.size ≤ H1.size → zT H ≤ zT H1 → zW G d M_Sv_firstWrong 21 [some (.ref a0), o1, o2, o3, o4, o5, o6] ((.int r) :: st) H1 Q) : zW G d M_Sv_firstWrong 14 [some (.ref a0), o1, o2, o3, o4, o5, o6] st H Q :=
  zw_aload_n (i := 0) dSv_firstWrong_14 rfl rfl zRf_ref <| zw_getf dSv_firstWrong_15 zf_Sv_24 hf1 <| zw_callV [] _ dSv_firstWrong_18 hd zk_Sv_37 ho rfl rfl hl hc (zPi_k kk)
theorem sSv_firstWrong_21 {G : zG} {d : Nat} {Q : Option Value → Heap → Prop} {H : Heap} {st : List Value} {o0 : Option Value} {o1 : Option Value} {o2 : Option Value} {o3 : Option Value} {o4 : Option Value} {o5 : Option Value} {o6 : Option Value} {xs0 : Int32} (kk : zW G d M_Sv_firstWrong 31 [o0, o1, some (.int xs0), some (.int (0 : Int32)), some (.int (0 : Int32)), o5, o6] st H Q) : zW G d M_Sv_firstWrong 21 [o0, o1, o2, o3, o4, o5, o6] ((.int xs0) :: st) H Q :=
  zw_goto 25 dSv_firstWrong_21 (by decide) <| zw_istore_n (i := 2) dSv_firstWrong_25 rfl (Nat.le_of_ble_eq_true rfl) <| zw_iconst (0 : Int32) dSv_firstWrong_26 zki_0 <| zw_istore_n (i := 3) dSv_firstWrong_27 rfl (Nat.le_of_ble_eq_true rfl) <| zw_iconst (0 : Int32) dSv_firstWrong_28 zki_0 <| zw_istore (i := 4) dSv_firstWrong_29 (Nat.le_of_ble_eq_true rfl) <| kk
theorem sSv_firstWrong_24 {G : zG} {d : Nat} {Q : Option Value → Heap → Prop} {H : Heap} {st : List Value} {o0 : Option Value} {o2 : Option Value} {o3 : Option Value} {o4 : Option Value} {o5 : Option Value} {o6 : Option Value} {x1 : Int32} (kk : zW G d M_Sv_firstWrong 31 [o0, some (.int x1), some (.int x1), some (.int (0 : Int32)), some (.int (0 : Int32)), o5, o6] st H Q) : zW G d M_Sv_firstWrong 24 [o0, some (.int x1), o2, o3, o4, o5, o6] st H Q :=
  zw_iload_n (i := 1) dSv_firstWrong_24 rfl rfl <| zw_istore_n (i := 2) dSv_firstWrong_25 rfl (Nat.le_of_ble_eq_true rfl) <| zw_iconst (0 : Int32) dSv_firstWrong_26 zki_0 <| zw_istore_n (i := 3) dSv_firstWrong_27 rfl (Nat.le_of_ble_eq_true rfl) <| zw_iconst (0 : Int32) dSv_firstWrong_28 zki_0 <| zw_istore (i := 4) dSv_firstWrong_29 (Nat.le_of_ble_eq_true rfl) <| kk
theorem sSv_firstWrong_25 {G : zG} {d : Nat} {Q : Option Value → Heap → Prop} {H : Heap} {st : List Value} {o0 : Option Value} {o1 : Option Value} {o2 : Option Value} {o3 : Option Value} {o4 : Option Value} {o5 : Option Value} {o6 : Option Value} {xs0 : Int32} (kk : zW G d M_Sv_firstWrong 31 [o0, o1, some (.int xs0), some (.int (0 : Int32)), some (.int (0 : Int32)), o5, o6] st H Q) : zW G d M_Sv_firstWrong 25 [o0, o1, o2, o3, o4, o5, o6] ((.int xs0) :: st) H Q :=
  zw_istore_n (i := 2) dSv_firstWrong_25 rfl (Nat.le_of_ble_eq_true rfl) <| zw_iconst (0 : Int32) dSv_firstWrong_26 zki_0 <| zw_istore_n (i := 3) dSv_firstWrong_27 rfl (Nat.le_of_ble_eq_true rfl) <| zw_iconst (0 : Int32) dSv_firstWrong_28 zki_0 <| zw_istore (i := 4) dSv_firstWrong_29 (Nat.le_of_ble_eq_true rfl) <| kk
theorem sSv_firstWrong_31 {G : zG} {d : Nat} {Q : Option Value → Heap → Prop} {H : Heap} {st : List Value} {o0 : Option Value} {o1 : Option Value} {o3 : Option Value} {o5 : Option Value} {o6 : Option Value} {x4 : Int32} {x2 : Int32} (kt : (x2 < x4) → zW G d M_Sv_firstWrong 115 [o0, o1, some (.int x2), o3, some (.int x4), o5, o6] st H Q) (kf : (¬ x2 < x4) → zW G d M_Sv_firstWrong 37 [o0, o1, some (.int x2), o3, some (.int x4), o5, o6] st H Q) : zW G d M_Sv_firstWrong 31 [o0, o1, some (.int x2), o3, some (.int x4), o5, o6] st H Q :=
  zw_iload (i := 4) dSv_firstWrong_31 rfl <| zw_iload_n (i := 2) dSv_firstWrong_33 rfl rfl <| zw_icmp_gt 115 dSv_firstWrong_34 (by decide) kt kf
theorem sSv_firstWrong_37 {G : zG} {d : Nat} {Q : Option Value → Heap → Prop} {H : Heap} {st : List Value} {o0 : Option Value} {o1 : Option Value} {o3 : Option Value} {o5 : Option Value} {o6 : Option Value} {x4 : Int32} {x2 : Int32} (kt : (x4 = x2) → zW G d M_Sv_firstWrong 57 [o0, o1, some (.int x2), o3, some (.int x4), o5, o6] st H Q) (kf : (¬ x4 = x2) → zW G d M_Sv_firstWrong 43 [o0, o1, some (.int x2), o3, some (.int x4), o5, o6] st H Q) : zW G d M_Sv_firstWrong 37 [o0, o1, some (.int x2), o3, some (.int x4), o5, o6] st H Q :=
  zw_iload (i := 4) dSv_firstWrong_37 rfl <| zw_iload_n (i := 2) dSv_firstWrong_39 rfl rfl <| zw_icmp_eq 57 dSv_firstWrong_40 (by decide) kt kf
theorem sSv_firstWrong_43 {G : zG} {d : Nat} {Q : Option Value → Heap → Prop} {H : Heap} {st : List Value} {o1 : Option Value} {o2 : Option Value} {o3 : Option Value} {o5 : Option Value} {o6 : Option Value} {a0 : Nat} {af1 : Nat} {x4 : Int32} {P : Int32 → Heap → Prop} (hf1 : zFd G H a0 10 0 (.ref af1)) (hd : 1 ≤ d) (hl : st.length ≤ 4) (ho : zIs G H af1 8) (hc : zC G (d - 1) M_St_charAt [(.ref af1), (.int x4)] H (zPi P)) (kk : ∀ (r : Int32) (H1 : Heap), P r H1 → zOk G H1 → H.size ≤ H1.size → zT H ≤ zT H1 → zW G d M_Sv_firstWrong 52 [some (.ref a0), o1, o2, o3, some (.int x4), o5, o6] ((.int r) :: st) H1 Q) : zW G d M_Sv_firstWrong 43 [some (.ref a0), o1, o2, o3, some (.int x4), o5, o6] st H Q :=
  zw_aload_n (i := 0) dSv_firstWrong_43 rfl rfl zRf_ref <| zw_getf dSv_firstWrong_44 zf_Sv_24 hf1 <| zw_iload (i := 4) dSv_firstWrong_47 rfl <| zw_callV [(.int x4)] _ dSv_firstWrong_49 hd zk_Sv_41 ho rfl rfl hl hc (zPi_k kk)
theorem sSv_firstWrong_52 {G : zG} {d : Nat} {Q : Option Value → Heap → Prop} {H : Heap} {st : List Value} {o0 : Option Value} {o1 : Option Value} {o2 : Option Value} {o3 : Option Value} {o4 : Option Value} {o5 : Option Value} {o6 : Option Value} {xs0 : Int32} (kt : (¬ xs0 = (32 : Int32)) → zW G d M_Sv_firstWrong 109 [o0, o1, o2, o3, o4, o5, o6] st H Q) (kf : (xs0 = (32 : Int32)) → zW G d M_Sv_firstWrong 57 [o0, o1, o2, o3, o4, o5, o6] st H Q) : zW G d M_Sv_firstWrong 52 [o0, o1, o2, o3, o4, o5, o6] ((.int xs0) :: st) H Q :=
  zw_bipush (32 : Int32) dSv_firstWrong_52 zkb_32 <| zw_icmp_ne 109 dSv_firstWrong_54 (by decide) kt kf
theorem sSv_firstWrong_57 {G : zG} {d : Nat} {Q : Option Value → Heap → Prop} {H : Heap} {st : List Value} {o1 : Option Value} {o2 : Option Value} {o5 : Option Value} {o6 : Option Value} {a0 : Nat} {af1 : Nat} {x3 : Int32} {x4 : Int32} {P : Value → Heap → Prop} (hf1 : zFd G H a0 10 0 (.ref af1)) (hd : 1 ≤ d) (hl : st.length ≤ 4) (ho : zIs G H af1 8) (hc : zC G (d - 1) M_St_substring_0 [(.ref af1), (.int x3), (.int x4)] H (zPr P)) (kk : ∀ (r : Value) (H1 : Heap), zRf r → P r H1 → zOk G H1 → H.size ≤ H1.size → zT H ≤ zT H1 → zW G d M_Sv_firstWrong 67 [some (.ref a0), o1, o2, some (.int x3), some (.int x4), o5, o6] (r :: st) H1 Q) : zW G d M_Sv_firstWrong 57 [some (.ref a0), o1, o2, some (.int x3), some (.int x4), o5, o6] st H Q :=
  zw_aload_n (i := 0) dSv_firstWrong_57 rfl rfl zRf_ref <| zw_getf dSv_firstWrong_58 zf_Sv_24 hf1 <| zw_iload_n (i := 3) dSv_firstWrong_61 rfl rfl <| zw_iload (i := 4) dSv_firstWrong_62 rfl <| zw_callV [(.int x3), (.int x4)] _ dSv_firstWrong_64 hd zk_Sv_45 ho rfl rfl hl hc (zPr_k kk)
theorem sSv_firstWrong_67 {G : zG} {d : Nat} {Q : Option Value → Heap → Prop} {H : Heap} {st : List Value} {o0 : Option Value} {o1 : Option Value} {o2 : Option Value} {o4 : Option Value} {o5 : Option Value} {o6 : Option Value} {vs0 : Value} {x3 : Int32} (hrs0 : zRf vs0 := by first | exact zRf_ref | exact zRf_null | exact zRf_rf _ | assumption) (kt : (¬ x3 = 0) → zW G d M_Sv_firstWrong 82 [o0, o1, o2, some (.int x3), o4, some vs0, o6] st H Q) (kf : (x3 = 0) → zW G d M_Sv_firstWrong 73 [o0, o1, o2, some (.int x3), o4, some vs0, o6] st H Q) : zW G d M_Sv_firstWrong 67 [o0, o1, o2, some (.int x3), o4, o5, o6] (vs0 :: st) H Q :=
  zw_astore (i := 5) dSv_firstWrong_67 (Nat.le_of_ble_eq_true rfl) hrs0 <| zw_iload_n (i := 3) dSv_firstWrong_69 rfl rfl <| zw_if_ne 82 dSv_firstWrong_70 (by decide) kt kf
theorem sSv_firstWrong_73 {G : zG} {d : Nat} {Q : Option Value → Heap → Prop} {H : Heap} {st : List Value} {o1 : Option Value} {o2 : Option Value} {o3 : Option Value} {o4 : Option Value} {o6 : Option Value} {a0 : Nat} {v5 : Value} {P : Int32 → Heap → Prop} (hr5 : zRf v5 := by first | exact zRf_ref | exact zRf_null | exact zRf_rf _ | assumption) (hd : 1 ≤ d) (hl : st.length ≤ 4) (ho : zIs G H a0 10) (hc : zC G (d - 1) M_Sv_takeAddress [(.ref a0), v5] H (zPi P)) (kk : ∀ (r : Int32) (H1 : Heap), P r H1 → zOk G H1 → H.size ≤ H1.size → zT H ≤ zT H1 → zW G d M_Sv_firstWrong 79 [some (.ref a0), o1, o2, o3, o4, some v5, o6] ((.int r) :: st) H1 Q) : zW G d M_Sv_firstWrong 73 [some (.ref a0), o1, o2, o3, o4, some v5, o6] st H Q :=
  zw_aload_n (i := 0) dSv_firstWrong_73 rfl rfl zRf_ref <| zw_aload (i := 5) dSv_firstWrong_74 rfl hr5 <| zw_callV [v5] _ dSv_firstWrong_76 hd zk_Sv_49 ho rfl rfl hl hc (zPi_k kk)
theorem sSv_firstWrong_79 {G : zG} {d : Nat} {Q : Option Value → Heap → Prop} {H : Heap} {st : List Value} {o0 : Option Value} {o1 : Option Value} {o2 : Option Value} {o3 : Option Value} {o4 : Option Value} {o5 : Option Value} {o6 : Option Value} {xs0 : Int32} (kt : (¬ xs0 = 0) → zW G d M_Sv_firstWrong 104 [o0, o1, o2, o3, o4, o5, some (.int xs0)] st H Q) (kf : (xs0 = 0) → zW G d M_Sv_firstWrong 102 [o0, o1, o2, o3, o4, o5, some (.int xs0)] st H Q) : zW G d M_Sv_firstWrong 79 [o0, o1, o2, o3, o4, o5, o6] ((.int xs0) :: st) H Q :=
  zw_goto 95 dSv_firstWrong_79 (by decide) <| zw_istore (i := 6) dSv_firstWrong_95 (Nat.le_of_ble_eq_true rfl) <| zw_iload (i := 6) dSv_firstWrong_97 rfl <| zw_if_ne 104 dSv_firstWrong_99 (by decide) kt kf
theorem sSv_firstWrong_82 {G : zG} {d : Nat} {Q : Option Value → Heap → Prop} {H : Heap} {st : List Value} {o1 : Option Value} {o2 : Option Value} {o3 : Option Value} {o4 : Option Value} {o6 : Option Value} {a0 : Nat} {af1 : Nat} {v5 : Value} {vf2 : Value} {P : Int32 → Heap → Prop} (hr5 : zRf v5 := by first | exact zRf_ref | exact zRf_null | exact zRf_rf _ | assumption) (hrf2 : zRf vf2 := by first | exact zRf_ref | exact zRf_null | exact zRf_rf _ | assumption) (hf1 : zFd G H a0 10 1 (.ref af1)) (hf2 : zFd G H a0 10 2 vf2) (hd : 1 ≤ d) (hl : st.length ≤ 4) (ho : zIs G H af1 4) (hc : zC G (d - 1) M_Fl_take [(.ref af1), v5, vf2] H (zPi P)) (kk : ∀ (r : Int32) (H1 : Heap), P r H1 → zOk G H1 → H.size ≤ H1.size → zT H ≤ zT H1 → zW G d M_Sv_firstWrong 95 [some (.ref a0), o1, o2, o3, o4, some v5, o6] ((.int r) :: st) H1 Q) : zW G d M_Sv_firstWrong 82 [some (.ref a0), o1, o2, o3, o4, some v5, o6] st H Q :=
  zw_aload_n (i := 0) dSv_firstWrong_82 rfl rfl zRf_ref <| zw_getf dSv_firstWrong_83 zf_Sv_12 hf1 <| zw_aload (i := 5) dSv_firstWrong_86 rfl hr5 <| zw_aload_n (i := 0) dSv_firstWrong_88 rfl rfl zRf_ref <| zw_getf dSv_firstWrong_89 zf_Sv_27 hf2 <| zw_callV [v5, vf2] _ dSv_firstWrong_92 hd zk_Sv_53 ho rfl rfl hl hc (zPi_k kk)
theorem sSv_firstWrong_95 {G : zG} {d : Nat} {Q : Option Value → Heap → Prop} {H : Heap} {st : List Value} {o0 : Option Value} {o1 : Option Value} {o2 : Option Value} {o3 : Option Value} {o4 : Option Value} {o5 : Option Value} {o6 : Option Value} {xs0 : Int32} (kt : (¬ xs0 = 0) → zW G d M_Sv_firstWrong 104 [o0, o1, o2, o3, o4, o5, some (.int xs0)] st H Q) (kf : (xs0 = 0) → zW G d M_Sv_firstWrong 102 [o0, o1, o2, o3, o4, o5, some (.int xs0)] st H Q) : zW G d M_Sv_firstWrong 95 [o0, o1, o2, o3, o4, o5, o6] ((.int xs0) :: st) H Q :=
  zw_istore (i := 6) dSv_firstWrong_95 (Nat.le_of_ble_eq_true rfl) <| zw_iload (i := 6) dSv_firstWrong_97 rfl <| zw_if_ne 104 dSv_firstWrong_99 (by decide) kt kf
theorem sSv_firstWrong_102 {G : zG} {d : Nat} {Q : Option Value → Heap → Prop} {H : Heap} {o0 : Option Value} {o1 : Option Value} {o2 : Option Value} {o4 : Option Value} {o5 : Option Value} {o6 : Option Value} {x3 : Int32} (hq : Q (some (.int x3)) H) : zW G d M_Sv_firstWrong 102 [o0, o1, o2, some (.int x3), o4, o5, o6] [] H Q :=
  zw_iload_n (i := 3) dSv_firstWrong_102 rfl rfl <| zw_iret dSv_firstWrong_103 .int rfl rfl hq
theorem sSv_firstWrong_104 {G : zG} {d : Nat} {Q : Option Value → Heap → Prop} {H : Heap} {st : List Value} {o0 : Option Value} {o1 : Option Value} {o2 : Option Value} {o3 : Option Value} {o5 : Option Value} {o6 : Option Value} {x4 : Int32} (kk : zW G d M_Sv_firstWrong 31 [o0, o1, o2, some (.int (x4 + (1 : Int32))), some (.int (x4 + (1 : Int32))), o5, o6] st H Q) : zW G d M_Sv_firstWrong 104 [o0, o1, o2, o3, some (.int x4), o5, o6] st H Q :=
  zw_iload (i := 4) dSv_firstWrong_104 rfl <| zw_iconst (1 : Int32) dSv_firstWrong_106 zki_1 <| zw_iadd dSv_firstWrong_107 <| zw_istore_n (i := 3) dSv_firstWrong_108 rfl (Nat.le_of_ble_eq_true rfl) <| zw_iinc (i := 4) (x4 + (1 : Int32)) dSv_firstWrong_109 rfl (by rw [zki_1]) <| zw_goto 31 dSv_firstWrong_112 (by decide) <| kk
theorem sSv_firstWrong_109 {G : zG} {d : Nat} {Q : Option Value → Heap → Prop} {H : Heap} {st : List Value} {o0 : Option Value} {o1 : Option Value} {o2 : Option Value} {o3 : Option Value} {o5 : Option Value} {o6 : Option Value} {x4 : Int32} (kk : zW G d M_Sv_firstWrong 31 [o0, o1, o2, o3, some (.int (x4 + (1 : Int32))), o5, o6] st H Q) : zW G d M_Sv_firstWrong 109 [o0, o1, o2, o3, some (.int x4), o5, o6] st H Q :=
  zw_iinc (i := 4) (x4 + (1 : Int32)) dSv_firstWrong_109 rfl (by rw [zki_1]) <| zw_goto 31 dSv_firstWrong_112 (by decide) <| kk
theorem sSv_firstWrong_115 {G : zG} {d : Nat} {Q : Option Value → Heap → Prop} {H : Heap} {st : List Value} {o0 : Option Value} {o2 : Option Value} {o3 : Option Value} {o4 : Option Value} {o5 : Option Value} {o6 : Option Value} {x1 : Int32} (kt : (0 ≤ x1) → zW G d M_Sv_firstWrong 127 [o0, some (.int x1), o2, o3, o4, o5, o6] st H Q) (kf : (¬ 0 ≤ x1) → zW G d M_Sv_firstWrong 119 [o0, some (.int x1), o2, o3, o4, o5, o6] st H Q) : zW G d M_Sv_firstWrong 115 [o0, some (.int x1), o2, o3, o4, o5, o6] st H Q :=
  zw_iload_n (i := 1) dSv_firstWrong_115 rfl rfl <| zw_if_ge 127 dSv_firstWrong_116 (by decide) kt kf
theorem sSv_firstWrong_119 {G : zG} {d : Nat} {Q : Option Value → Heap → Prop} {H : Heap} {st : List Value} {o1 : Option Value} {o2 : Option Value} {o3 : Option Value} {o4 : Option Value} {o5 : Option Value} {o6 : Option Value} {a0 : Nat} {af1 : Nat} {P : Int32 → Heap → Prop} (hf1 : zFd G H a0 10 0 (.ref af1)) (hd : 1 ≤ d) (hl : st.length ≤ 4) (ho : zIs G H af1 8) (hc : zC G (d - 1) M_St_length [(.ref af1)] H (zPi P)) (kk : ∀ (r : Int32) (H1 : Heap), P r H1 → zOk G H1 → H.size ≤ H1.size → zT H ≤ zT H1 → zW G d M_Sv_firstWrong 126 [some (.ref a0), o1, o2, o3, o4, o5, o6] ((.int r) :: st) H1 Q) : zW G d M_Sv_firstWrong 119 [some (.ref a0), o1, o2, o3, o4, o5, o6] st H Q :=
  zw_aload_n (i := 0) dSv_firstWrong_119 rfl rfl zRf_ref <| zw_getf dSv_firstWrong_120 zf_Sv_24 hf1 <| zw_callV [] _ dSv_firstWrong_123 hd zk_Sv_37 ho rfl rfl hl hc (zPi_k kk)
theorem sSv_firstWrong_126 {G : zG} {d : Nat} {Q : Option Value → Heap → Prop} {H : Heap} {o0 : Option Value} {o1 : Option Value} {o2 : Option Value} {o3 : Option Value} {o4 : Option Value} {o5 : Option Value} {o6 : Option Value} {xs0 : Int32} (hq : Q (some (.int xs0)) H) : zW G d M_Sv_firstWrong 126 [o0, o1, o2, o3, o4, o5, o6] ((.int xs0) :: []) H Q :=
  zw_iret dSv_firstWrong_126 .int rfl rfl hq
theorem sSv_firstWrong_127 {G : zG} {d : Nat} {Q : Option Value → Heap → Prop} {H : Heap} {st : List Value} {o2 : Option Value} {o3 : Option Value} {o4 : Option Value} {o5 : Option Value} {o6 : Option Value} {a0 : Nat} {af1 : Nat} {x1 : Int32} {P : Value → Heap → Prop} (hf1 : zFd G H a0 10 0 (.ref af1)) (hd : 1 ≤ d) (hl : ((.ref a0) :: st).length ≤ 4) (ho : zIs G H af1 8) (hc : zC G (d - 1) M_St_substring_1 [(.ref af1), (.int (x1 + (1 : Int32)))] H (zPr P)) (kk : ∀ (r : Value) (H1 : Heap), zRf r → P r H1 → zOk G H1 → H.size ≤ H1.size → zT H ≤ zT H1 → zW G d M_Sv_firstWrong 138 [some (.ref a0), some (.int x1), o2, o3, o4, o5, o6] (r :: (.ref a0) :: st) H1 Q) : zW G d M_Sv_firstWrong 127 [some (.ref a0), some (.int x1), o2, o3, o4, o5, o6] st H Q :=
  zw_aload_n (i := 0) dSv_firstWrong_127 rfl rfl zRf_ref <| zw_aload_n (i := 0) dSv_firstWrong_128 rfl rfl zRf_ref <| zw_getf dSv_firstWrong_129 zf_Sv_24 hf1 <| zw_iload_n (i := 1) dSv_firstWrong_132 rfl rfl <| zw_iconst (1 : Int32) dSv_firstWrong_133 zki_1 <| zw_iadd dSv_firstWrong_134 <| zw_callV [(.int (x1 + (1 : Int32)))] _ dSv_firstWrong_135 hd zk_Sv_57 ho rfl rfl hl hc (zPr_k kk)
theorem sSv_firstWrong_138 {G : zG} {d : Nat} {Q : Option Value → Heap → Prop} {H : Heap} {st : List Value} {o0 : Option Value} {o1 : Option Value} {o2 : Option Value} {o3 : Option Value} {o4 : Option Value} {o5 : Option Value} {o6 : Option Value} {vs0 : Value} {as1 : Nat} {b0 : Value} {b1 : Value} {b2 : Value} {b3 : Value} (hrs0 : zRf vs0 := by first | exact zRf_ref | exact zRf_null | exact zRf_rf _ | assumption) (ho : zObj G H as1 10 [b0, b1, b2, b3]) (hw : zFr G as1) (kk : ∀ H1 : Heap, zObj G H1 as1 10 [b0, b1, b2, vs0] → zUp as1 H H1 → zW G d M_Sv_firstWrong 141 [o0, o1, o2, o3, o4, o5, o6] st H1 Q) : zW G d M_Sv_firstWrong 138 [o0, o1, o2, o3, o4, o5, o6] (vs0 :: (.ref as1) :: st) H Q :=
  zw_putf (k := 3) dSv_firstWrong_138 zp_Sv_firstWrong_20 ho (Nat.le_of_ble_eq_true rfl) (Nat.le_of_ble_eq_true rfl) hw (zNarO hrs0) (zFitO hrs0) kk
theorem sSv_firstWrong_141 {G : zG} {d : Nat} {Q : Option Value → Heap → Prop} {H : Heap} {st : List Value} {o1 : Option Value} {o2 : Option Value} {o3 : Option Value} {o4 : Option Value} {o5 : Option Value} {o6 : Option Value} {a0 : Nat} {af1 : Nat} {P : Int32 → Heap → Prop} (hf1 : zFd G H a0 10 3 (.ref af1)) (hd : 1 ≤ d) (hl : st.length ≤ 4) (ho : zIs G H af1 8) (hc : zC G (d - 1) M_St_length [(.ref af1)] H (zPi P)) (kk : ∀ (r : Int32) (H1 : Heap), P r H1 → zOk G H1 → H.size ≤ H1.size → zT H ≤ zT H1 → zW G d M_Sv_firstWrong 148 [some (.ref a0), o1, o2, o3, o4, o5, o6] ((.int r) :: st) H1 Q) : zW G d M_Sv_firstWrong 141 [some (.ref a0), o1, o2, o3, o4, o5, o6] st H Q :=
  zw_aload_n (i := 0) dSv_firstWrong_141 rfl rfl zRf_ref <| zw_getf dSv_firstWrong_142 zf_Sv_20 hf1 <| zw_callV [] _ dSv_firstWrong_145 hd zk_Sv_37 ho rfl rfl hl hc (zPi_k kk)
theorem sSv_firstWrong_148 {G : zG} {d : Nat} {Q : Option Value → Heap → Prop} {H : Heap} {st : List Value} {o0 : Option Value} {o1 : Option Value} {o2 : Option Value} {o3 : Option Value} {o4 : Option Value} {o5 : Option Value} {o6 : Option Value} {xs0 : Int32} (kt : (xs0 ≤ (1500 : Int32)) → zW G d M_Sv_firstWrong 164 [o0, o1, o2, o3, o4, o5, o6] st H Q) (kf : (¬ xs0 ≤ (1500 : Int32)) → zW G d M_Sv_firstWrong 154 [o0, o1, o2, o3, o4, o5, o6] st H Q) : zW G d M_Sv_firstWrong 148 [o0, o1, o2, o3, o4, o5, o6] ((.int xs0) :: st) H Q :=
  zw_sipush (1500 : Int32) dSv_firstWrong_148 zks_1500 <| zw_icmp_le 164 dSv_firstWrong_151 (by decide) kt kf
theorem sSv_firstWrong_154 {G : zG} {d : Nat} {Q : Option Value → Heap → Prop} {H : Heap} {o0 : Option Value} {o2 : Option Value} {o3 : Option Value} {o4 : Option Value} {o5 : Option Value} {o6 : Option Value} {x1 : Int32} (hq : Q (some (.int ((x1 + (1 : Int32)) + (1500 : Int32)))) H) : zW G d M_Sv_firstWrong 154 [o0, some (.int x1), o2, o3, o4, o5, o6] [] H Q :=
  zw_iload_n (i := 1) dSv_firstWrong_154 rfl rfl <| zw_iconst (1 : Int32) dSv_firstWrong_155 zki_1 <| zw_iadd dSv_firstWrong_156 <| zw_sipush (1500 : Int32) dSv_firstWrong_157 zks_1500 <| zw_iadd dSv_firstWrong_160 <| zw_goto 165 dSv_firstWrong_161 (by decide) <| zw_iret dSv_firstWrong_165 .int rfl rfl hq
theorem sSv_firstWrong_164 {G : zG} {d : Nat} {Q : Option Value → Heap → Prop} {H : Heap} {o0 : Option Value} {o1 : Option Value} {o2 : Option Value} {o3 : Option Value} {o4 : Option Value} {o5 : Option Value} {o6 : Option Value} (hq : Q (some (.int (-1 : Int32))) H) : zW G d M_Sv_firstWrong 164 [o0, o1, o2, o3, o4, o5, o6] [] H Q :=
  zw_iconst (-1 : Int32) dSv_firstWrong_164 zki_m1 <| zw_iret dSv_firstWrong_165 .int rfl rfl hq
theorem sSv_firstWrong_165 {G : zG} {d : Nat} {Q : Option Value → Heap → Prop} {H : Heap} {o0 : Option Value} {o1 : Option Value} {o2 : Option Value} {o3 : Option Value} {o4 : Option Value} {o5 : Option Value} {o6 : Option Value} {xs0 : Int32} (hq : Q (some (.int xs0)) H) : zW G d M_Sv_firstWrong 165 [o0, o1, o2, o3, o4, o5, o6] ((.int xs0) :: []) H Q :=
  zw_iret dSv_firstWrong_165 .int rfl rfl hq
theorem sSv_takeAddress_0 {G : zG} {d : Nat} {Q : Option Value → Heap → Prop} {H : Heap} {st : List Value} {o2 : Option Value} {v1 : Value} {a0 : Nat} {vf1 : Value} {P : Value → Heap → Prop} (hr1 : zRf v1 := by first | exact zRf_ref | exact zRf_null | exact zRf_rf _ | assumption) (hrf1 : zRf vf1 := by first | exact zRf_ref | exact zRf_null | exact zRf_rf _ | assumption) (hf1 : zFd G H a0 10 2 vf1) (hd : 1 ≤ d) (hl : st.length ≤ 4) (hc : zC G (d - 1) M_Ad_read [v1, vf1] H (zPr P)) (kk : ∀ (r : Value) (H1 : Heap), zRf r → P r H1 → zOk G H1 → H.size ≤ H1.size → zT H ≤ zT H1 → zW G d M_Sv_takeAddress 8 [some (.ref a0), some v1, o2] (r :: st) H1 Q) : zW G d M_Sv_takeAddress 0 [some (.ref a0), some v1, o2] st H Q :=
  zw_aload_n (i := 1) dSv_takeAddress_0 rfl rfl hr1 <| zw_aload_n (i := 0) dSv_takeAddress_1 rfl rfl zRf_ref <| zw_getf dSv_takeAddress_2 zf_Sv_27 hf1 <| zw_callS [v1, vf1] _ dSv_takeAddress_5 hd zk_Sv_60 rfl rfl hl hc (zPr_k kk)
theorem sSv_takeAddress_8 {G : zG} {d : Nat} {Q : Option Value → Heap → Prop} {H : Heap} {st : List Value} {o0 : Option Value} {o1 : Option Value} {o2 : Option Value} {vs0 : Value} (hrs0 : zRf vs0 := by first | exact zRf_ref | exact zRf_null | exact zRf_rf _ | assumption) (kt : (vs0 = .null) → zW G d M_Sv_takeAddress 32 [o0, o1, some vs0] st H Q) (kf : (∀ a : Nat, vs0 = .ref a → zW G d M_Sv_takeAddress 13 [o0, o1, some vs0] st H Q)) : zW G d M_Sv_takeAddress 8 [o0, o1, o2] (vs0 :: st) H Q :=
  zw_astore_n (i := 2) dSv_takeAddress_8 rfl (Nat.le_of_ble_eq_true rfl) hrs0 <| zw_aload_n (i := 2) dSv_takeAddress_9 rfl rfl hrs0 <| zw_ifnull 32 dSv_takeAddress_10 (by decide) hrs0 kt kf
theorem sSv_takeAddress_13 {G : zG} {d : Nat} {Q : Option Value → Heap → Prop} {H : Heap} {st : List Value} {o0 : Option Value} {o1 : Option Value} {a2 : Nat} {af1 : Nat} {P : Int32 → Heap → Prop} (hf1 : zFd G H a2 2 3 (.ref af1)) (hd : 1 ≤ d) (hl : st.length ≤ 4) (ho : zIs G H af1 8) (hc : zC G (d - 1) M_St_isEmpty [(.ref af1)] H (zPi P)) (kk : ∀ (r : Int32) (H1 : Heap), P r H1 → zOk G H1 → H.size ≤ H1.size → zT H ≤ zT H1 → zW G d M_Sv_takeAddress 20 [o0, o1, some (.ref a2)] ((.int r) :: st) H1 Q) : zW G d M_Sv_takeAddress 13 [o0, o1, some (.ref a2)] st H Q :=
  zw_aload_n (i := 2) dSv_takeAddress_13 rfl rfl zRf_ref <| zw_getf dSv_takeAddress_14 zf_Sv_66 hf1 <| zw_callV [] _ dSv_takeAddress_17 hd zk_Sv_69 ho rfl rfl hl hc (zPi_k kk)
theorem sSv_takeAddress_20 {G : zG} {d : Nat} {Q : Option Value → Heap → Prop} {H : Heap} {st : List Value} {o0 : Option Value} {o1 : Option Value} {o2 : Option Value} {xs0 : Int32} (kt : (xs0 = 0) → zW G d M_Sv_takeAddress 32 [o0, o1, o2] st H Q) (kf : (¬ xs0 = 0) → zW G d M_Sv_takeAddress 23 [o0, o1, o2] st H Q) : zW G d M_Sv_takeAddress 20 [o0, o1, o2] ((.int xs0) :: st) H Q :=
  zw_if_eq 32 dSv_takeAddress_20 (by decide) kt kf
theorem sSv_takeAddress_23 {G : zG} {d : Nat} {Q : Option Value → Heap → Prop} {H : Heap} {st : List Value} {o0 : Option Value} {o2 : Option Value} {v1 : Value} {ak1 : Nat} {P : Int32 → Heap → Prop} (hr1 : zRf v1 := by first | exact zRf_ref | exact zRf_null | exact zRf_rf _ | assumption) (hk1 : vk_R "NetDesk$ServerText" 73 "//" ak1 (zS G)) (hd : 1 ≤ d) (hl : st.length ≤ 4) (hc : zC G (d - 1) M_Tx_begins [v1, (.ref ak1)] H (zPi P)) (kk : ∀ (r : Int32) (H1 : Heap), P r H1 → zOk G H1 → H.size ≤ H1.size → zT H ≤ zT H1 → zW G d M_Sv_takeAddress 29 [o0, some v1, o2] ((.int r) :: st) H1 Q) : zW G d M_Sv_takeAddress 23 [o0, some v1, o2] st H Q :=
  zw_aload_n (i := 1) dSv_takeAddress_23 rfl rfl hr1 <| zw_ldcS dSv_takeAddress_24 rfl hk1 <| zw_callS [v1, (.ref ak1)] _ dSv_takeAddress_26 hd zk_Sv_75 rfl rfl hl hc (zPi_k kk)
theorem sSv_takeAddress_29 {G : zG} {d : Nat} {Q : Option Value → Heap → Prop} {H : Heap} {st : List Value} {o0 : Option Value} {o1 : Option Value} {o2 : Option Value} {xs0 : Int32} (kt : (¬ xs0 = 0) → zW G d M_Sv_takeAddress 34 [o0, o1, o2] st H Q) (kf : (xs0 = 0) → zW G d M_Sv_takeAddress 32 [o0, o1, o2] st H Q) : zW G d M_Sv_takeAddress 29 [o0, o1, o2] ((.int xs0) :: st) H Q :=
  zw_if_ne 34 dSv_takeAddress_29 (by decide) kt kf
theorem sSv_takeAddress_32 {G : zG} {d : Nat} {Q : Option Value → Heap → Prop} {H : Heap} {o0 : Option Value} {o1 : Option Value} {o2 : Option Value} (hn : narrow .boolean (.int (0 : Int32)) = .int (0 : Int32)) (hq : Q (some (.int (0 : Int32))) H) : zW G d M_Sv_takeAddress 32 [o0, o1, o2] [] H Q :=
  zw_iconst (0 : Int32) dSv_takeAddress_32 zki_0 <| zw_iret dSv_takeAddress_33 .boolean rfl hn hq
theorem sSv_takeAddress_34 {G : zG} {d : Nat} {Q : Option Value → Heap → Prop} {H : Heap} {st : List Value} {o1 : Option Value} {a0 : Nat} {v2 : Value} {b0 : Value} {b1 : Value} {b2 : Value} {b3 : Value} (hr2 : zRf v2 := by first | exact zRf_ref | exact zRf_null | exact zRf_rf _ | assumption) (ho : zObj G H a0 10 [b0, b1, b2, b3]) (hw : zFr G a0) (kk : ∀ H1 : Heap, zObj G H1 a0 10 [b0, b1, v2, b3] → zUp a0 H H1 → zW G d M_Sv_takeAddress 39 [some (.ref a0), o1, some v2] st H1 Q) : zW G d M_Sv_takeAddress 34 [some (.ref a0), o1, some v2] st H Q :=
  zw_aload_n (i := 0) dSv_takeAddress_34 rfl rfl zRf_ref <| zw_aload_n (i := 2) dSv_takeAddress_35 rfl rfl hr2 <| zw_putf (k := 2) dSv_takeAddress_36 zp_Sv_takeAddress_27 ho (Nat.le_of_ble_eq_true rfl) (Nat.le_of_ble_eq_true rfl) hw (zNarO hr2) (zFitO hr2) kk
theorem sSv_takeAddress_39 {G : zG} {d : Nat} {Q : Option Value → Heap → Prop} {H : Heap} {o0 : Option Value} {o1 : Option Value} {o2 : Option Value} (hn : narrow .boolean (.int (1 : Int32)) = .int (1 : Int32)) (hq : Q (some (.int (1 : Int32))) H) : zW G d M_Sv_takeAddress 39 [o0, o1, o2] [] H Q :=
  zw_iconst (1 : Int32) dSv_takeAddress_39 zki_1 <| zw_iret dSv_takeAddress_40 .boolean rfl hn hq
theorem sFl_take_0 {G : zG} {d : Nat} {Q : Option Value → Heap → Prop} {H : Heap} {st : List Value} {o0 : Option Value} {o2 : Option Value} {o3 : Option Value} {a1 : Nat} {ak1 : Nat} {P : Int32 → Heap → Prop} (hk1 : vk_R "NetDesk$Fields" 33 "open" ak1 (zS G)) (hd : 1 ≤ d) (hl : st.length ≤ 4) (ho : zIs G H a1 8) (hc : zC G (d - 1) M_St_equals [(.ref a1), (.ref ak1)] H (zPi P)) (kk : ∀ (r : Int32) (H1 : Heap), P r H1 → zOk G H1 → H.size ≤ H1.size → zT H ≤ zT H1 → zW G d M_Fl_take 6 [o0, some (.ref a1), o2, o3] ((.int r) :: st) H1 Q) : zW G d M_Fl_take 0 [o0, some (.ref a1), o2, o3] st H Q :=
  zw_aload_n (i := 1) dFl_take_0 rfl rfl zRf_ref <| zw_ldcS dFl_take_1 rfl hk1 <| zw_callV [(.ref ak1)] _ dFl_take_3 hd zk_Fl_34 ho rfl rfl hl hc (zPi_k kk)
theorem sFl_take_6 {G : zG} {d : Nat} {Q : Option Value → Heap → Prop} {H : Heap} {st : List Value} {o0 : Option Value} {o1 : Option Value} {o2 : Option Value} {o3 : Option Value} {xs0 : Int32} (kt : (xs0 = 0) → zW G d M_Fl_take 29 [o0, o1, o2, o3] st H Q) (kf : (¬ xs0 = 0) → zW G d M_Fl_take 9 [o0, o1, o2, o3] st H Q) : zW G d M_Fl_take 6 [o0, o1, o2, o3] ((.int xs0) :: st) H Q :=
  zw_if_eq 29 dFl_take_6 (by decide) kt kf
theorem sFl_take_9 {G : zG} {d : Nat} {Q : Option Value → Heap → Prop} {H : Heap} {st : List Value} {o1 : Option Value} {o2 : Option Value} {o3 : Option Value} {a0 : Nat} {xf1 : Int32} (hf1 : zFd G H a0 4 5 (.int xf1)) (kt : (¬ xf1 = 0) → zW G d M_Fl_take 20 [some (.ref a0), o1, o2, o3] st H Q) (kf : (xf1 = 0) → zW G d M_Fl_take 16 [some (.ref a0), o1, o2, o3] st H Q) : zW G d M_Fl_take 9 [some (.ref a0), o1, o2, o3] st H Q :=
  zw_aload_n (i := 0) dFl_take_9 rfl rfl zRf_ref <| zw_getf dFl_take_10 zf_Fl_30 hf1 <| zw_if_ne 20 dFl_take_13 (by decide) kt kf
theorem sFl_take_16 {G : zG} {d : Nat} {Q : Option Value → Heap → Prop} {H : Heap} {st : List Value} {o1 : Option Value} {o2 : Option Value} {o3 : Option Value} {a0 : Nat} {b0 : Value} {b1 : Value} {b2 : Value} {b3 : Value} {b4 : Value} {b5 : Value} (ho : zObj G H a0 4 [b0, b1, b2, b3, b4, b5]) (hw : zFr G a0) (hn : narrow .boolean (.int (1 : Int32)) = (.int (1 : Int32))) (hfit : fits .boolean (.int (1 : Int32)) = true) (kk : ∀ H1 : Heap, zObj G H1 a0 4 [b0, b1, b2, b3, b4, (.int (1 : Int32))] → zUp a0 H H1 → zW G d M_Fl_take 27 [some (.ref a0), o1, o2, some (.int (1 : Int32))] st H1 Q) : zW G d M_Fl_take 16 [some (.ref a0), o1, o2, o3] st H Q :=
  zw_iconst (1 : Int32) dFl_take_16 zki_1 <| zw_goto 21 dFl_take_17 (by decide) <| zw_istore_n (i := 3) dFl_take_21 rfl (Nat.le_of_ble_eq_true rfl) <| zw_aload_n (i := 0) dFl_take_22 rfl rfl zRf_ref <| zw_iconst (1 : Int32) dFl_take_23 zki_1 <| zw_putf (k := 5) dFl_take_24 zp_Fl_take_30 ho (Nat.le_of_ble_eq_true rfl) (Nat.le_of_ble_eq_true rfl) hw hn hfit kk
theorem sFl_take_20 {G : zG} {d : Nat} {Q : Option Value → Heap → Prop} {H : Heap} {st : List Value} {o1 : Option Value} {o2 : Option Value} {o3 : Option Value} {a0 : Nat} {b0 : Value} {b1 : Value} {b2 : Value} {b3 : Value} {b4 : Value} {b5 : Value} (ho : zObj G H a0 4 [b0, b1, b2, b3, b4, b5]) (hw : zFr G a0) (hn : narrow .boolean (.int (1 : Int32)) = (.int (1 : Int32))) (hfit : fits .boolean (.int (1 : Int32)) = true) (kk : ∀ H1 : Heap, zObj G H1 a0 4 [b0, b1, b2, b3, b4, (.int (1 : Int32))] → zUp a0 H H1 → zW G d M_Fl_take 27 [some (.ref a0), o1, o2, some (.int (0 : Int32))] st H1 Q) : zW G d M_Fl_take 20 [some (.ref a0), o1, o2, o3] st H Q :=
  zw_iconst (0 : Int32) dFl_take_20 zki_0 <| zw_istore_n (i := 3) dFl_take_21 rfl (Nat.le_of_ble_eq_true rfl) <| zw_aload_n (i := 0) dFl_take_22 rfl rfl zRf_ref <| zw_iconst (1 : Int32) dFl_take_23 zki_1 <| zw_putf (k := 5) dFl_take_24 zp_Fl_take_30 ho (Nat.le_of_ble_eq_true rfl) (Nat.le_of_ble_eq_true rfl) hw hn hfit kk
theorem sFl_take_21 {G : zG} {d : Nat} {Q : Option Value → Heap → Prop} {H : Heap} {st : List Value} {o1 : Option Value} {o2 : Option Value} {o3 : Option Value} {xs0 : Int32} {a0 : Nat} {b0 : Value} {b1 : Value} {b2 : Value} {b3 : Value} {b4 : Value} {b5 : Value} (ho : zObj G H a0 4 [b0, b1, b2, b3, b4, b5]) (hw : zFr G a0) (hn : narrow .boolean (.int (1 : Int32)) = (.int (1 : Int32))) (hfit : fits .boolean (.int (1 : Int32)) = true) (kk : ∀ H1 : Heap, zObj G H1 a0 4 [b0, b1, b2, b3, b4, (.int (1 : Int32))] → zUp a0 H H1 → zW G d M_Fl_take 27 [some (.ref a0), o1, o2, some (.int xs0)] st H1 Q) : zW G d M_Fl_take 21 [some (.ref a0), o1, o2, o3] ((.int xs0) :: st) H Q :=
  zw_istore_n (i := 3) dFl_take_21 rfl (Nat.le_of_ble_eq_true rfl) <| zw_aload_n (i := 0) dFl_take_22 rfl rfl zRf_ref <| zw_iconst (1 : Int32) dFl_take_23 zki_1 <| zw_putf (k := 5) dFl_take_24 zp_Fl_take_30 ho (Nat.le_of_ble_eq_true rfl) (Nat.le_of_ble_eq_true rfl) hw hn hfit kk
theorem sFl_take_27 {G : zG} {d : Nat} {Q : Option Value → Heap → Prop} {H : Heap} {o0 : Option Value} {o1 : Option Value} {o2 : Option Value} {x3 : Int32} (hn : narrow .boolean (.int x3) = .int x3) (hq : Q (some (.int x3)) H) : zW G d M_Fl_take 27 [o0, o1, o2, some (.int x3)] [] H Q :=
  zw_iload_n (i := 3) dFl_take_27 rfl rfl <| zw_iret dFl_take_28 .boolean rfl hn hq
theorem sFl_take_29 {G : zG} {d : Nat} {Q : Option Value → Heap → Prop} {H : Heap} {st : List Value} {o0 : Option Value} {o2 : Option Value} {o3 : Option Value} {v1 : Value} {ak1 : Nat} {P : Int32 → Heap → Prop} (hr1 : zRf v1 := by first | exact zRf_ref | exact zRf_null | exact zRf_rf _ | assumption) (hk1 : vk_R "NetDesk$Fields" 40 "age=" ak1 (zS G)) (hd : 1 ≤ d) (hl : st.length ≤ 4) (hc : zC G (d - 1) M_Tx_begins [v1, (.ref ak1)] H (zPi P)) (kk : ∀ (r : Int32) (H1 : Heap), P r H1 → zOk G H1 → H.size ≤ H1.size → zT H ≤ zT H1 → zW G d M_Fl_take 35 [o0, some v1, o2, o3] ((.int r) :: st) H1 Q) : zW G d M_Fl_take 29 [o0, some v1, o2, o3] st H Q :=
  zw_aload_n (i := 1) dFl_take_29 rfl rfl hr1 <| zw_ldcS dFl_take_30 rfl hk1 <| zw_callS [v1, (.ref ak1)] _ dFl_take_32 hd zk_Fl_42 rfl rfl hl hc (zPi_k kk)
theorem sFl_take_35 {G : zG} {d : Nat} {Q : Option Value → Heap → Prop} {H : Heap} {st : List Value} {o0 : Option Value} {o1 : Option Value} {o2 : Option Value} {o3 : Option Value} {xs0 : Int32} (kt : (xs0 = 0) → zW G d M_Fl_take 48 [o0, o1, o2, o3] st H Q) (kf : (¬ xs0 = 0) → zW G d M_Fl_take 38 [o0, o1, o2, o3] st H Q) : zW G d M_Fl_take 35 [o0, o1, o2, o3] ((.int xs0) :: st) H Q :=
  zw_if_eq 48 dFl_take_35 (by decide) kt kf
theorem sFl_take_38 {G : zG} {d : Nat} {Q : Option Value → Heap → Prop} {H : Heap} {st : List Value} {o2 : Option Value} {o3 : Option Value} {v0 : Value} {a1 : Nat} {P : Value → Heap → Prop} (hr0 : zRf v0 := by first | exact zRf_ref | exact zRf_null | exact zRf_rf _ | assumption) (hd : 1 ≤ d) (hl : (v0 :: st).length ≤ 4) (ho : zIs G H a1 8) (hc : zC G (d - 1) M_St_substring_1 [(.ref a1), (.int (4 : Int32))] H (zPr P)) (kk : ∀ (r : Value) (H1 : Heap), zRf r → P r H1 → zOk G H1 → H.size ≤ H1.size → zT H ≤ zT H1 → zW G d M_Fl_take 44 [some v0, some (.ref a1), o2, o3] (r :: v0 :: st) H1 Q) : zW G d M_Fl_take 38 [some v0, some (.ref a1), o2, o3] st H Q :=
  zw_aload_n (i := 0) dFl_take_38 rfl rfl hr0 <| zw_aload_n (i := 1) dFl_take_39 rfl rfl zRf_ref <| zw_iconst (4 : Int32) dFl_take_40 zki_4 <| zw_callV [(.int (4 : Int32))] _ dFl_take_41 hd zk_Fl_48 ho rfl rfl hl hc (zPr_k kk)
theorem sFl_take_44 {G : zG} {d : Nat} {Q : Option Value → Heap → Prop} {H : Heap} {st : List Value} {o0 : Option Value} {o1 : Option Value} {o2 : Option Value} {o3 : Option Value} {vs0 : Value} {as1 : Nat} {P : Int32 → Heap → Prop} (hrs0 : zRf vs0 := by first | exact zRf_ref | exact zRf_null | exact zRf_rf _ | assumption) (hd : 1 ≤ d) (hl : st.length ≤ 4) (ho : zIs G H as1 4) (hc : zC G (d - 1) M_Fl_takeAge [(.ref as1), vs0] H (zPi P)) (kk : ∀ (r : Int32) (H1 : Heap), P r H1 → zOk G H1 → H.size ≤ H1.size → zT H ≤ zT H1 → zW G d M_Fl_take 47 [o0, o1, o2, o3] ((.int r) :: st) H1 Q) : zW G d M_Fl_take 44 [o0, o1, o2, o3] (vs0 :: (.ref as1) :: st) H Q :=
  zw_callV [vs0] _ dFl_take_44 hd zk_Fl_52 ho rfl rfl hl hc (zPi_k kk)
theorem sFl_take_47 {G : zG} {d : Nat} {Q : Option Value → Heap → Prop} {H : Heap} {o0 : Option Value} {o1 : Option Value} {o2 : Option Value} {o3 : Option Value} {xs0 : Int32} (hn : narrow .boolean (.int xs0) = .int xs0) (hq : Q (some (.int xs0)) H) : zW G d M_Fl_take 47 [o0, o1, o2, o3] ((.int xs0) :: []) H Q :=
  zw_iret dFl_take_47 .boolean rfl hn hq
theorem sFl_take_48 {G : zG} {d : Nat} {Q : Option Value → Heap → Prop} {H : Heap} {st : List Value} {o0 : Option Value} {o2 : Option Value} {o3 : Option Value} {v1 : Value} {ak1 : Nat} {P : Int32 → Heap → Prop} (hr1 : zRf v1 := by first | exact zRf_ref | exact zRf_null | exact zRf_rf _ | assumption) (hk1 : vk_R "NetDesk$Fields" 56 "cookie=" ak1 (zS G)) (hd : 1 ≤ d) (hl : st.length ≤ 4) (hc : zC G (d - 1) M_Tx_begins [v1, (.ref ak1)] H (zPi P)) (kk : ∀ (r : Int32) (H1 : Heap), P r H1 → zOk G H1 → H.size ≤ H1.size → zT H ≤ zT H1 → zW G d M_Fl_take 54 [o0, some v1, o2, o3] ((.int r) :: st) H1 Q) : zW G d M_Fl_take 48 [o0, some v1, o2, o3] st H Q :=
  zw_aload_n (i := 1) dFl_take_48 rfl rfl hr1 <| zw_ldcS dFl_take_49 rfl hk1 <| zw_callS [v1, (.ref ak1)] _ dFl_take_51 hd zk_Fl_42 rfl rfl hl hc (zPi_k kk)
theorem sFl_take_54 {G : zG} {d : Nat} {Q : Option Value → Heap → Prop} {H : Heap} {st : List Value} {o0 : Option Value} {o1 : Option Value} {o2 : Option Value} {o3 : Option Value} {xs0 : Int32} (kt : (xs0 = 0) → zW G d M_Fl_take 68 [o0, o1, o2, o3] st H Q) (kf : (¬ xs0 = 0) → zW G d M_Fl_take 57 [o0, o1, o2, o3] st H Q) : zW G d M_Fl_take 54 [o0, o1, o2, o3] ((.int xs0) :: st) H Q :=
  zw_if_eq 68 dFl_take_54 (by decide) kt kf
theorem sFl_take_57 {G : zG} {d : Nat} {Q : Option Value → Heap → Prop} {H : Heap} {st : List Value} {o2 : Option Value} {o3 : Option Value} {v0 : Value} {a1 : Nat} {P : Value → Heap → Prop} (hr0 : zRf v0 := by first | exact zRf_ref | exact zRf_null | exact zRf_rf _ | assumption) (hd : 1 ≤ d) (hl : (v0 :: st).length ≤ 4) (ho : zIs G H a1 8) (hc : zC G (d - 1) M_St_substring_1 [(.ref a1), (.int (7 : Int32))] H (zPr P)) (kk : ∀ (r : Value) (H1 : Heap), zRf r → P r H1 → zOk G H1 → H.size ≤ H1.size → zT H ≤ zT H1 → zW G d M_Fl_take 64 [some v0, some (.ref a1), o2, o3] (r :: v0 :: st) H1 Q) : zW G d M_Fl_take 57 [some v0, some (.ref a1), o2, o3] st H Q :=
  zw_aload_n (i := 0) dFl_take_57 rfl rfl hr0 <| zw_aload_n (i := 1) dFl_take_58 rfl rfl zRf_ref <| zw_bipush (7 : Int32) dFl_take_59 zkb_7 <| zw_callV [(.int (7 : Int32))] _ dFl_take_61 hd zk_Fl_48 ho rfl rfl hl hc (zPr_k kk)
theorem sFl_take_64 {G : zG} {d : Nat} {Q : Option Value → Heap → Prop} {H : Heap} {st : List Value} {o0 : Option Value} {o1 : Option Value} {o2 : Option Value} {o3 : Option Value} {vs0 : Value} {as1 : Nat} {P : Int32 → Heap → Prop} (hrs0 : zRf vs0 := by first | exact zRf_ref | exact zRf_null | exact zRf_rf _ | assumption) (hd : 1 ≤ d) (hl : st.length ≤ 4) (ho : zIs G H as1 4) (hc : zC G (d - 1) M_Fl_takeCookie [(.ref as1), vs0] H (zPi P)) (kk : ∀ (r : Int32) (H1 : Heap), P r H1 → zOk G H1 → H.size ≤ H1.size → zT H ≤ zT H1 → zW G d M_Fl_take 67 [o0, o1, o2, o3] ((.int r) :: st) H1 Q) : zW G d M_Fl_take 64 [o0, o1, o2, o3] (vs0 :: (.ref as1) :: st) H Q :=
  zw_callV [vs0] _ dFl_take_64 hd zk_Fl_58 ho rfl rfl hl hc (zPi_k kk)
theorem sFl_take_67 {G : zG} {d : Nat} {Q : Option Value → Heap → Prop} {H : Heap} {o0 : Option Value} {o1 : Option Value} {o2 : Option Value} {o3 : Option Value} {xs0 : Int32} (hn : narrow .boolean (.int xs0) = .int xs0) (hq : Q (some (.int xs0)) H) : zW G d M_Fl_take 67 [o0, o1, o2, o3] ((.int xs0) :: []) H Q :=
  zw_iret dFl_take_67 .boolean rfl hn hq
theorem sFl_take_68 {G : zG} {d : Nat} {Q : Option Value → Heap → Prop} {H : Heap} {st : List Value} {o0 : Option Value} {o2 : Option Value} {o3 : Option Value} {v1 : Value} {ak1 : Nat} {P : Int32 → Heap → Prop} (hr1 : zRf v1 := by first | exact zRf_ref | exact zRf_null | exact zRf_rf _ | assumption) (hk1 : vk_R "NetDesk$Fields" 61 "to=" ak1 (zS G)) (hd : 1 ≤ d) (hl : st.length ≤ 4) (hc : zC G (d - 1) M_Tx_begins [v1, (.ref ak1)] H (zPi P)) (kk : ∀ (r : Int32) (H1 : Heap), P r H1 → zOk G H1 → H.size ≤ H1.size → zT H ≤ zT H1 → zW G d M_Fl_take 74 [o0, some v1, o2, o3] ((.int r) :: st) H1 Q) : zW G d M_Fl_take 68 [o0, some v1, o2, o3] st H Q :=
  zw_aload_n (i := 1) dFl_take_68 rfl rfl hr1 <| zw_ldcS dFl_take_69 rfl hk1 <| zw_callS [v1, (.ref ak1)] _ dFl_take_71 hd zk_Fl_42 rfl rfl hl hc (zPi_k kk)
theorem sFl_take_74 {G : zG} {d : Nat} {Q : Option Value → Heap → Prop} {H : Heap} {st : List Value} {o0 : Option Value} {o1 : Option Value} {o2 : Option Value} {o3 : Option Value} {xs0 : Int32} (kt : (xs0 = 0) → zW G d M_Fl_take 110 [o0, o1, o2, o3] st H Q) (kf : (¬ xs0 = 0) → zW G d M_Fl_take 77 [o0, o1, o2, o3] st H Q) : zW G d M_Fl_take 74 [o0, o1, o2, o3] ((.int xs0) :: st) H Q :=
  zw_if_eq 110 dFl_take_74 (by decide) kt kf
theorem sFl_take_77 {G : zG} {d : Nat} {Q : Option Value → Heap → Prop} {H : Heap} {st : List Value} {o1 : Option Value} {o2 : Option Value} {o3 : Option Value} {a0 : Nat} {vf1 : Value} (hrf1 : zRf vf1 := by first | exact zRf_ref | exact zRf_null | exact zRf_rf _ | assumption) (hf1 : zFd G H a0 4 4 vf1) (kt : (∀ a : Nat, vf1 = .ref a → zW G d M_Fl_take 110 [some (.ref a0), o1, o2, o3] st H Q)) (kf : (vf1 = .null) → zW G d M_Fl_take 84 [some (.ref a0), o1, o2, o3] st H Q) : zW G d M_Fl_take 77 [some (.ref a0), o1, o2, o3] st H Q :=
  zw_aload_n (i := 0) dFl_take_77 rfl rfl zRf_ref <| zw_getf dFl_take_78 zf_Fl_26 hf1 <| zw_ifnonnull 110 dFl_take_81 (by decide) hrf1 kt kf
theorem sFl_take_84 {G : zG} {d : Nat} {Q : Option Value → Heap → Prop} {H : Heap} {st : List Value} {o2 : Option Value} {o3 : Option Value} {v0 : Value} {a1 : Nat} {P : Value → Heap → Prop} (hr0 : zRf v0 := by first | exact zRf_ref | exact zRf_null | exact zRf_rf _ | assumption) (hd : 1 ≤ d) (hl : (v0 :: st).length ≤ 4) (ho : zIs G H a1 8) (hc : zC G (d - 1) M_St_substring_1 [(.ref a1), (.int (3 : Int32))] H (zPr P)) (kk : ∀ (r : Value) (H1 : Heap), zRf r → P r H1 → zOk G H1 → H.size ≤ H1.size → zT H ≤ zT H1 → zW G d M_Fl_take 90 [some v0, some (.ref a1), o2, o3] (r :: v0 :: st) H1 Q) : zW G d M_Fl_take 84 [some v0, some (.ref a1), o2, o3] st H Q :=
  zw_aload_n (i := 0) dFl_take_84 rfl rfl hr0 <| zw_aload_n (i := 1) dFl_take_85 rfl rfl zRf_ref <| zw_iconst (3 : Int32) dFl_take_86 zki_3 <| zw_callV [(.int (3 : Int32))] _ dFl_take_87 hd zk_Fl_48 ho rfl rfl hl hc (zPr_k kk)
theorem sFl_take_90 {G : zG} {d : Nat} {Q : Option Value → Heap → Prop} {H : Heap} {st : List Value} {o0 : Option Value} {o1 : Option Value} {o3 : Option Value} {v2 : Value} {vs0 : Value} {P : Value → Heap → Prop} (hr2 : zRf v2 := by first | exact zRf_ref | exact zRf_null | exact zRf_rf _ | assumption) (hrs0 : zRf vs0 := by first | exact zRf_ref | exact zRf_null | exact zRf_rf _ | assumption) (hd : 1 ≤ d) (hl : st.length ≤ 4) (hc : zC G (d - 1) M_Ad_read [vs0, v2] H (zPr P)) (kk : ∀ (r : Value) (H1 : Heap), zRf r → P r H1 → zOk G H1 → H.size ≤ H1.size → zT H ≤ zT H1 → zW G d M_Fl_take 94 [o0, o1, some v2, o3] (r :: st) H1 Q) : zW G d M_Fl_take 90 [o0, o1, some v2, o3] (vs0 :: st) H Q :=
  zw_aload_n (i := 2) dFl_take_90 rfl rfl hr2 <| zw_callS [vs0, v2] _ dFl_take_91 hd zk_Fl_63 rfl rfl hl hc (zPr_k kk)
theorem sFl_take_94 {G : zG} {d : Nat} {Q : Option Value → Heap → Prop} {H : Heap} {st : List Value} {o0 : Option Value} {o1 : Option Value} {o2 : Option Value} {o3 : Option Value} {vs0 : Value} {as1 : Nat} {b0 : Value} {b1 : Value} {b2 : Value} {b3 : Value} {b4 : Value} {b5 : Value} (hrs0 : zRf vs0 := by first | exact zRf_ref | exact zRf_null | exact zRf_rf _ | assumption) (ho : zObj G H as1 4 [b0, b1, b2, b3, b4, b5]) (hw : zFr G as1) (kk : ∀ H1 : Heap, zObj G H1 as1 4 [b0, b1, b2, b3, vs0, b5] → zUp as1 H H1 → zW G d M_Fl_take 97 [o0, o1, o2, o3] st H1 Q) : zW G d M_Fl_take 94 [o0, o1, o2, o3] (vs0 :: (.ref as1) :: st) H Q :=
  zw_putf (k := 4) dFl_take_94 zp_Fl_take_26 ho (Nat.le_of_ble_eq_true rfl) (Nat.le_of_ble_eq_true rfl) hw (zNarO hrs0) (zFitO hrs0) kk
theorem sFl_take_97 {G : zG} {d : Nat} {Q : Option Value → Heap → Prop} {H : Heap} {st : List Value} {o1 : Option Value} {o2 : Option Value} {o3 : Option Value} {a0 : Nat} {vf1 : Value} (hrf1 : zRf vf1 := by first | exact zRf_ref | exact zRf_null | exact zRf_rf _ | assumption) (hf1 : zFd G H a0 4 4 vf1) (kt : (vf1 = .null) → zW G d M_Fl_take 108 [some (.ref a0), o1, o2, o3] st H Q) (kf : (∀ a : Nat, vf1 = .ref a → zW G d M_Fl_take 104 [some (.ref a0), o1, o2, o3] st H Q)) : zW G d M_Fl_take 97 [some (.ref a0), o1, o2, o3] st H Q :=
  zw_aload_n (i := 0) dFl_take_97 rfl rfl zRf_ref <| zw_getf dFl_take_98 zf_Fl_26 hf1 <| zw_ifnull 108 dFl_take_101 (by decide) hrf1 kt kf
theorem sFl_take_104 {G : zG} {d : Nat} {Q : Option Value → Heap → Prop} {H : Heap} {o0 : Option Value} {o1 : Option Value} {o2 : Option Value} {o3 : Option Value} (hn : narrow .boolean (.int (1 : Int32)) = .int (1 : Int32)) (hq : Q (some (.int (1 : Int32))) H) : zW G d M_Fl_take 104 [o0, o1, o2, o3] [] H Q :=
  zw_iconst (1 : Int32) dFl_take_104 zki_1 <| zw_goto 109 dFl_take_105 (by decide) <| zw_iret dFl_take_109 .boolean rfl hn hq
theorem sFl_take_108 {G : zG} {d : Nat} {Q : Option Value → Heap → Prop} {H : Heap} {o0 : Option Value} {o1 : Option Value} {o2 : Option Value} {o3 : Option Value} (hn : narrow .boolean (.int (0 : Int32)) = .int (0 : Int32)) (hq : Q (some (.int (0 : Int32))) H) : zW G d M_Fl_take 108 [o0, o1, o2, o3] [] H Q :=
  zw_iconst (0 : Int32) dFl_take_108 zki_0 <| zw_iret dFl_take_109 .boolean rfl hn hq
theorem sFl_take_109 {G : zG} {d : Nat} {Q : Option Value → Heap → Prop} {H : Heap} {o0 : Option Value} {o1 : Option Value} {o2 : Option Value} {o3 : Option Value} {xs0 : Int32} (hn : narrow .boolean (.int xs0) = .int xs0) (hq : Q (some (.int xs0)) H) : zW G d M_Fl_take 109 [o0, o1, o2, o3] ((.int xs0) :: []) H Q :=
  zw_iret dFl_take_109 .boolean rfl hn hq
theorem sFl_take_110 {G : zG} {d : Nat} {Q : Option Value → Heap → Prop} {H : Heap} {o0 : Option Value} {o1 : Option Value} {o2 : Option Value} {o3 : Option Value} (hn : narrow .boolean (.int (0 : Int32)) = .int (0 : Int32)) (hq : Q (some (.int (0 : Int32))) H) : zW G d M_Fl_take 110 [o0, o1, o2, o3] [] H Q :=
  zw_iconst (0 : Int32) dFl_take_110 zki_0 <| zw_iret dFl_take_111 .boolean rfl hn hq
theorem sFl_takeAge_0 {G : zG} {d : Nat} {Q : Option Value → Heap → Prop} {H : Heap} {st : List Value} {o1 : Option Value} {a0 : Nat} {xf1 : Int32} (hf1 : zFd G H a0 4 0 (.int xf1)) (kt : (¬ xf1 = 0) → zW G d M_Fl_takeAge 14 [some (.ref a0), o1] st H Q) (kf : (xf1 = 0) → zW G d M_Fl_takeAge 7 [some (.ref a0), o1] st H Q) : zW G d M_Fl_takeAge 0 [some (.ref a0), o1] st H Q :=
  zw_aload_n (i := 0) dFl_takeAge_0 rfl rfl zRf_ref <| zw_getf dFl_takeAge_1 zf_Fl_7 hf1 <| zw_if_ne 14 dFl_takeAge_4 (by decide) kt kf
theorem sFl_takeAge_7 {G : zG} {d : Nat} {Q : Option Value → Heap → Prop} {H : Heap} {st : List Value} {o0 : Option Value} {v1 : Value} {P : Int32 → Heap → Prop} (hr1 : zRf v1 := by first | exact zRf_ref | exact zRf_null | exact zRf_rf _ | assumption) (hd : 1 ≤ d) (hl : st.length ≤ 4) (hc : zC G (d - 1) M_Tx_isNumber [v1] H (zPi P)) (kk : ∀ (r : Int32) (H1 : Heap), P r H1 → zOk G H1 → H.size ≤ H1.size → zT H ≤ zT H1 → zW G d M_Fl_takeAge 11 [o0, some v1] ((.int r) :: st) H1 Q) : zW G d M_Fl_takeAge 7 [o0, some v1] st H Q :=
  zw_aload_n (i := 1) dFl_takeAge_7 rfl rfl hr1 <| zw_callS [v1] _ dFl_takeAge_8 hd zk_Fl_69 rfl rfl hl hc (zPi_k kk)
theorem sFl_takeAge_11 {G : zG} {d : Nat} {Q : Option Value → Heap → Prop} {H : Heap} {st : List Value} {o0 : Option Value} {o1 : Option Value} {xs0 : Int32} (kt : (¬ xs0 = 0) → zW G d M_Fl_takeAge 16 [o0, o1] st H Q) (kf : (xs0 = 0) → zW G d M_Fl_takeAge 14 [o0, o1] st H Q) : zW G d M_Fl_takeAge 11 [o0, o1] ((.int xs0) :: st) H Q :=
  zw_if_ne 16 dFl_takeAge_11 (by decide) kt kf
theorem sFl_takeAge_14 {G : zG} {d : Nat} {Q : Option Value → Heap → Prop} {H : Heap} {o0 : Option Value} {o1 : Option Value} (hn : narrow .boolean (.int (0 : Int32)) = .int (0 : Int32)) (hq : Q (some (.int (0 : Int32))) H) : zW G d M_Fl_takeAge 14 [o0, o1] [] H Q :=
  zw_iconst (0 : Int32) dFl_takeAge_14 zki_0 <| zw_iret dFl_takeAge_15 .boolean rfl hn hq
theorem sFl_takeAge_16 {G : zG} {d : Nat} {Q : Option Value → Heap → Prop} {H : Heap} {st : List Value} {o1 : Option Value} {a0 : Nat} {b0 : Value} {b1 : Value} {b2 : Value} {b3 : Value} {b4 : Value} {b5 : Value} (ho : zObj G H a0 4 [b0, b1, b2, b3, b4, b5]) (hw : zFr G a0) (hn : narrow .boolean (.int (1 : Int32)) = (.int (1 : Int32))) (hfit : fits .boolean (.int (1 : Int32)) = true) (kk : ∀ H1 : Heap, zObj G H1 a0 4 [(.int (1 : Int32)), b1, b2, b3, b4, b5] → zUp a0 H H1 → zW G d M_Fl_takeAge 21 [some (.ref a0), o1] st H1 Q) : zW G d M_Fl_takeAge 16 [some (.ref a0), o1] st H Q :=
  zw_aload_n (i := 0) dFl_takeAge_16 rfl rfl zRf_ref <| zw_iconst (1 : Int32) dFl_takeAge_17 zki_1 <| zw_putf (k := 0) dFl_takeAge_18 zp_Fl_takeAge_7 ho (Nat.le_of_ble_eq_true rfl) (Nat.le_of_ble_eq_true rfl) hw hn hfit kk
theorem sFl_takeAge_21 {G : zG} {d : Nat} {Q : Option Value → Heap → Prop} {H : Heap} {st : List Value} {v0 : Value} {v1 : Value} {P : Int32 → Heap → Prop} (hr0 : zRf v0 := by first | exact zRf_ref | exact zRf_null | exact zRf_rf _ | assumption) (hr1 : zRf v1 := by first | exact zRf_ref | exact zRf_null | exact zRf_rf _ | assumption) (hd : 1 ≤ d) (hl : (v0 :: st).length ≤ 4) (hc : zC G (d - 1) M_Tx_number [v1] H (zPi P)) (kk : ∀ (r : Int32) (H1 : Heap), P r H1 → zOk G H1 → H.size ≤ H1.size → zT H ≤ zT H1 → zW G d M_Fl_takeAge 26 [some v0, some v1] ((.int r) :: v0 :: st) H1 Q) : zW G d M_Fl_takeAge 21 [some v0, some v1] st H Q :=
  zw_aload_n (i := 0) dFl_takeAge_21 rfl rfl hr0 <| zw_aload_n (i := 1) dFl_takeAge_22 rfl rfl hr1 <| zw_callS [v1] _ dFl_takeAge_23 hd zk_Fl_72 rfl rfl hl hc (zPi_k kk)
theorem sFl_takeAge_26 {G : zG} {d : Nat} {Q : Option Value → Heap → Prop} {H : Heap} {st : List Value} {o0 : Option Value} {o1 : Option Value} {xs0 : Int32} {as1 : Nat} {b0 : Value} {b1 : Value} {b2 : Value} {b3 : Value} {b4 : Value} {b5 : Value} (ho : zObj G H as1 4 [b0, b1, b2, b3, b4, b5]) (hw : zFr G as1) (kk : ∀ H1 : Heap, zObj G H1 as1 4 [b0, (.int xs0), b2, b3, b4, b5] → zUp as1 H H1 → zW G d M_Fl_takeAge 29 [o0, o1] st H1 Q) : zW G d M_Fl_takeAge 26 [o0, o1] ((.int xs0) :: (.ref as1) :: st) H Q :=
  zw_putf (k := 1) dFl_takeAge_26 zp_Fl_takeAge_13 ho (Nat.le_of_ble_eq_true rfl) (Nat.le_of_ble_eq_true rfl) hw rfl rfl kk
theorem sFl_takeAge_29 {G : zG} {d : Nat} {Q : Option Value → Heap → Prop} {H : Heap} {o0 : Option Value} {o1 : Option Value} (hn : narrow .boolean (.int (1 : Int32)) = .int (1 : Int32)) (hq : Q (some (.int (1 : Int32))) H) : zW G d M_Fl_takeAge 29 [o0, o1] [] H Q :=
  zw_iconst (1 : Int32) dFl_takeAge_29 zki_1 <| zw_iret dFl_takeAge_30 .boolean rfl hn hq
theorem sFl_takeCookie_0 {G : zG} {d : Nat} {Q : Option Value → Heap → Prop} {H : Heap} {st : List Value} {o0 : Option Value} {o2 : Option Value} {o3 : Option Value} {o4 : Option Value} {a1 : Nat} {P : Int32 → Heap → Prop} (hd : 1 ≤ d) (hl : st.length ≤ 4) (ho : zIs G H a1 8) (hc : zC G (d - 1) M_St_indexOf_0 [(.ref a1), (.int (58 : Int32))] H (zPi P)) (kk : ∀ (r : Int32) (H1 : Heap), P r H1 → zOk G H1 → H.size ≤ H1.size → zT H ≤ zT H1 → zW G d M_Fl_takeCookie 6 [o0, some (.ref a1), o2, o3, o4] ((.int r) :: st) H1 Q) : zW G d M_Fl_takeCookie 0 [o0, some (.ref a1), o2, o3, o4] st H Q :=
  zw_aload_n (i := 1) dFl_takeCookie_0 rfl rfl zRf_ref <| zw_bipush (58 : Int32) dFl_takeCookie_1 zkb_58 <| zw_callV [(.int (58 : Int32))] _ dFl_takeCookie_3 hd zk_Fl_76 ho rfl rfl hl hc (zPi_k kk)
theorem sFl_takeCookie_6 {G : zG} {d : Nat} {Q : Option Value → Heap → Prop} {H : Heap} {st : List Value} {o1 : Option Value} {o2 : Option Value} {o3 : Option Value} {o4 : Option Value} {xs0 : Int32} {a0 : Nat} {af1 : Nat} {P : Int32 → Heap → Prop} (hf1 : zFd G H a0 4 2 (.ref af1)) (hd : 1 ≤ d) (hl : st.length ≤ 4) (ho : zIs G H af1 8) (hc : zC G (d - 1) M_St_isEmpty [(.ref af1)] H (zPi P)) (kk : ∀ (r : Int32) (H1 : Heap), P r H1 → zOk G H1 → H.size ≤ H1.size → zT H ≤ zT H1 → zW G d M_Fl_takeCookie 14 [some (.ref a0), o1, some (.int xs0), o3, o4] ((.int r) :: st) H1 Q) : zW G d M_Fl_takeCookie 6 [some (.ref a0), o1, o2, o3, o4] ((.int xs0) :: st) H Q :=
  zw_istore_n (i := 2) dFl_takeCookie_6 rfl (Nat.le_of_ble_eq_true rfl) <| zw_aload_n (i := 0) dFl_takeCookie_7 rfl rfl zRf_ref <| zw_getf dFl_takeCookie_8 zf_Fl_19 hf1 <| zw_callV [] _ dFl_takeCookie_11 hd zk_Fl_80 ho rfl rfl hl hc (zPi_k kk)
theorem sFl_takeCookie_14 {G : zG} {d : Nat} {Q : Option Value → Heap → Prop} {H : Heap} {st : List Value} {o0 : Option Value} {o1 : Option Value} {o2 : Option Value} {o3 : Option Value} {o4 : Option Value} {xs0 : Int32} (kt : (xs0 = 0) → zW G d M_Fl_takeCookie 21 [o0, o1, o2, o3, o4] st H Q) (kf : (¬ xs0 = 0) → zW G d M_Fl_takeCookie 17 [o0, o1, o2, o3, o4] st H Q) : zW G d M_Fl_takeCookie 14 [o0, o1, o2, o3, o4] ((.int xs0) :: st) H Q :=
  zw_if_eq 21 dFl_takeCookie_14 (by decide) kt kf
theorem sFl_takeCookie_17 {G : zG} {d : Nat} {Q : Option Value → Heap → Prop} {H : Heap} {st : List Value} {o0 : Option Value} {o1 : Option Value} {o3 : Option Value} {o4 : Option Value} {x2 : Int32} (kt : (0 ≤ x2) → zW G d M_Fl_takeCookie 23 [o0, o1, some (.int x2), o3, o4] st H Q) (kf : (¬ 0 ≤ x2) → zW G d M_Fl_takeCookie 21 [o0, o1, some (.int x2), o3, o4] st H Q) : zW G d M_Fl_takeCookie 17 [o0, o1, some (.int x2), o3, o4] st H Q :=
  zw_iload_n (i := 2) dFl_takeCookie_17 rfl rfl <| zw_if_ge 23 dFl_takeCookie_18 (by decide) kt kf
theorem sFl_takeCookie_21 {G : zG} {d : Nat} {Q : Option Value → Heap → Prop} {H : Heap} {o0 : Option Value} {o1 : Option Value} {o2 : Option Value} {o3 : Option Value} {o4 : Option Value} (hn : narrow .boolean (.int (0 : Int32)) = .int (0 : Int32)) (hq : Q (some (.int (0 : Int32))) H) : zW G d M_Fl_takeCookie 21 [o0, o1, o2, o3, o4] [] H Q :=
  zw_iconst (0 : Int32) dFl_takeCookie_21 zki_0 <| zw_iret dFl_takeCookie_22 .boolean rfl hn hq
theorem sFl_takeCookie_23 {G : zG} {d : Nat} {Q : Option Value → Heap → Prop} {H : Heap} {st : List Value} {o0 : Option Value} {o3 : Option Value} {o4 : Option Value} {a1 : Nat} {x2 : Int32} {P : Value → Heap → Prop} (hd : 1 ≤ d) (hl : st.length ≤ 4) (ho : zIs G H a1 8) (hc : zC G (d - 1) M_St_substring_0 [(.ref a1), (.int (0 : Int32)), (.int x2)] H (zPr P)) (kk : ∀ (r : Value) (H1 : Heap), zRf r → P r H1 → zOk G H1 → H.size ≤ H1.size → zT H ≤ zT H1 → zW G d M_Fl_takeCookie 29 [o0, some (.ref a1), some (.int x2), o3, o4] (r :: st) H1 Q) : zW G d M_Fl_takeCookie 23 [o0, some (.ref a1), some (.int x2), o3, o4] st H Q :=
  zw_aload_n (i := 1) dFl_takeCookie_23 rfl rfl zRf_ref <| zw_iconst (0 : Int32) dFl_takeCookie_24 zki_0 <| zw_iload_n (i := 2) dFl_takeCookie_25 rfl rfl <| zw_callV [(.int (0 : Int32)), (.int x2)] _ dFl_takeCookie_26 hd zk_Fl_84 ho rfl rfl hl hc (zPr_k kk)
theorem sFl_takeCookie_29 {G : zG} {d : Nat} {Q : Option Value → Heap → Prop} {H : Heap} {st : List Value} {o0 : Option Value} {o3 : Option Value} {o4 : Option Value} {vs0 : Value} {a1 : Nat} {x2 : Int32} {P : Value → Heap → Prop} (hrs0 : zRf vs0 := by first | exact zRf_ref | exact zRf_null | exact zRf_rf _ | assumption) (hd : 1 ≤ d) (hl : st.length ≤ 4) (ho : zIs G H a1 8) (hc : zC G (d - 1) M_St_substring_1 [(.ref a1), (.int (x2 + (1 : Int32)))] H (zPr P)) (kk : ∀ (r : Value) (H1 : Heap), zRf r → P r H1 → zOk G H1 → H.size ≤ H1.size → zT H ≤ zT H1 → zW G d M_Fl_takeCookie 37 [o0, some (.ref a1), some (.int x2), some vs0, o4] (r :: st) H1 Q) : zW G d M_Fl_takeCookie 29 [o0, some (.ref a1), some (.int x2), o3, o4] (vs0 :: st) H Q :=
  zw_astore_n (i := 3) dFl_takeCookie_29 rfl (Nat.le_of_ble_eq_true rfl) hrs0 <| zw_aload_n (i := 1) dFl_takeCookie_30 rfl rfl zRf_ref <| zw_iload_n (i := 2) dFl_takeCookie_31 rfl rfl <| zw_iconst (1 : Int32) dFl_takeCookie_32 zki_1 <| zw_iadd dFl_takeCookie_33 <| zw_callV [(.int (x2 + (1 : Int32)))] _ dFl_takeCookie_34 hd zk_Fl_48 ho rfl rfl hl hc (zPr_k kk)
theorem sFl_takeCookie_37 {G : zG} {d : Nat} {Q : Option Value → Heap → Prop} {H : Heap} {st : List Value} {o0 : Option Value} {o1 : Option Value} {o2 : Option Value} {o4 : Option Value} {vs0 : Value} {v3 : Value} {P : Int32 → Heap → Prop} (hrs0 : zRf vs0 := by first | exact zRf_ref | exact zRf_null | exact zRf_rf _ | assumption) (hr3 : zRf v3 := by first | exact zRf_ref | exact zRf_null | exact zRf_rf _ | assumption) (hd : 1 ≤ d) (hl : st.length ≤ 4) (hc : zC G (d - 1) M_Tx_isName [v3] H (zPi P)) (kk : ∀ (r : Int32) (H1 : Heap), P r H1 → zOk G H1 → H.size ≤ H1.size → zT H ≤ zT H1 → zW G d M_Fl_takeCookie 43 [o0, o1, o2, some v3, some vs0] ((.int r) :: st) H1 Q) : zW G d M_Fl_takeCookie 37 [o0, o1, o2, some v3, o4] (vs0 :: st) H Q :=
  zw_astore (i := 4) dFl_takeCookie_37 (Nat.le_of_ble_eq_true rfl) hrs0 <| zw_aload_n (i := 3) dFl_takeCookie_39 rfl rfl hr3 <| zw_callS [v3] _ dFl_takeCookie_40 hd zk_Fl_87 rfl rfl hl hc (zPi_k kk)
theorem sFl_takeCookie_43 {G : zG} {d : Nat} {Q : Option Value → Heap → Prop} {H : Heap} {st : List Value} {o0 : Option Value} {o1 : Option Value} {o2 : Option Value} {o3 : Option Value} {o4 : Option Value} {xs0 : Int32} (kt : (xs0 = 0) → zW G d M_Fl_takeCookie 54 [o0, o1, o2, o3, o4] st H Q) (kf : (¬ xs0 = 0) → zW G d M_Fl_takeCookie 46 [o0, o1, o2, o3, o4] st H Q) : zW G d M_Fl_takeCookie 43 [o0, o1, o2, o3, o4] ((.int xs0) :: st) H Q :=
  zw_if_eq 54 dFl_takeCookie_43 (by decide) kt kf
theorem sFl_takeCookie_46 {G : zG} {d : Nat} {Q : Option Value → Heap → Prop} {H : Heap} {st : List Value} {o0 : Option Value} {o1 : Option Value} {o2 : Option Value} {o3 : Option Value} {v4 : Value} {P : Int32 → Heap → Prop} (hr4 : zRf v4 := by first | exact zRf_ref | exact zRf_null | exact zRf_rf _ | assumption) (hd : 1 ≤ d) (hl : st.length ≤ 4) (hc : zC G (d - 1) M_Tx_isName [v4] H (zPi P)) (kk : ∀ (r : Int32) (H1 : Heap), P r H1 → zOk G H1 → H.size ≤ H1.size → zT H ≤ zT H1 → zW G d M_Fl_takeCookie 51 [o0, o1, o2, o3, some v4] ((.int r) :: st) H1 Q) : zW G d M_Fl_takeCookie 46 [o0, o1, o2, o3, some v4] st H Q :=
  zw_aload (i := 4) dFl_takeCookie_46 rfl hr4 <| zw_callS [v4] _ dFl_takeCookie_48 hd zk_Fl_87 rfl rfl hl hc (zPi_k kk)
theorem sFl_takeCookie_51 {G : zG} {d : Nat} {Q : Option Value → Heap → Prop} {H : Heap} {st : List Value} {o0 : Option Value} {o1 : Option Value} {o2 : Option Value} {o3 : Option Value} {o4 : Option Value} {xs0 : Int32} (kt : (¬ xs0 = 0) → zW G d M_Fl_takeCookie 56 [o0, o1, o2, o3, o4] st H Q) (kf : (xs0 = 0) → zW G d M_Fl_takeCookie 54 [o0, o1, o2, o3, o4] st H Q) : zW G d M_Fl_takeCookie 51 [o0, o1, o2, o3, o4] ((.int xs0) :: st) H Q :=
  zw_if_ne 56 dFl_takeCookie_51 (by decide) kt kf
theorem sFl_takeCookie_54 {G : zG} {d : Nat} {Q : Option Value → Heap → Prop} {H : Heap} {o0 : Option Value} {o1 : Option Value} {o2 : Option Value} {o3 : Option Value} {o4 : Option Value} (hn : narrow .boolean (.int (0 : Int32)) = .int (0 : Int32)) (hq : Q (some (.int (0 : Int32))) H) : zW G d M_Fl_takeCookie 54 [o0, o1, o2, o3, o4] [] H Q :=
  zw_iconst (0 : Int32) dFl_takeCookie_54 zki_0 <| zw_iret dFl_takeCookie_55 .boolean rfl hn hq
theorem sFl_takeCookie_56 {G : zG} {d : Nat} {Q : Option Value → Heap → Prop} {H : Heap} {st : List Value} {o1 : Option Value} {o2 : Option Value} {o4 : Option Value} {a0 : Nat} {v3 : Value} {b0 : Value} {b1 : Value} {b2 : Value} {b3 : Value} {b4 : Value} {b5 : Value} (hr3 : zRf v3 := by first | exact zRf_ref | exact zRf_null | exact zRf_rf _ | assumption) (ho : zObj G H a0 4 [b0, b1, b2, b3, b4, b5]) (hw : zFr G a0) (kk : ∀ H1 : Heap, zObj G H1 a0 4 [b0, b1, v3, b3, b4, b5] → zUp a0 H H1 → zW G d M_Fl_takeCookie 61 [some (.ref a0), o1, o2, some v3, o4] st H1 Q) : zW G d M_Fl_takeCookie 56 [some (.ref a0), o1, o2, some v3, o4] st H Q :=
  zw_aload_n (i := 0) dFl_takeCookie_56 rfl rfl zRf_ref <| zw_aload_n (i := 3) dFl_takeCookie_57 rfl rfl hr3 <| zw_putf (k := 2) dFl_takeCookie_58 zp_Fl_takeCookie_19 ho (Nat.le_of_ble_eq_true rfl) (Nat.le_of_ble_eq_true rfl) hw (zNarO hr3) (zFitO hr3) kk
theorem sFl_takeCookie_61 {G : zG} {d : Nat} {Q : Option Value → Heap → Prop} {H : Heap} {st : List Value} {o1 : Option Value} {o2 : Option Value} {o3 : Option Value} {a0 : Nat} {v4 : Value} {b0 : Value} {b1 : Value} {b2 : Value} {b3 : Value} {b4 : Value} {b5 : Value} (hr4 : zRf v4 := by first | exact zRf_ref | exact zRf_null | exact zRf_rf _ | assumption) (ho : zObj G H a0 4 [b0, b1, b2, b3, b4, b5]) (hw : zFr G a0) (kk : ∀ H1 : Heap, zObj G H1 a0 4 [b0, b1, b2, v4, b4, b5] → zUp a0 H H1 → zW G d M_Fl_takeCookie 67 [some (.ref a0), o1, o2, o3, some v4] st H1 Q) : zW G d M_Fl_takeCookie 61 [some (.ref a0), o1, o2, o3, some v4] st H Q :=
  zw_aload_n (i := 0) dFl_takeCookie_61 rfl rfl zRf_ref <| zw_aload (i := 4) dFl_takeCookie_62 rfl hr4 <| zw_putf (k := 3) dFl_takeCookie_64 zp_Fl_takeCookie_23 ho (Nat.le_of_ble_eq_true rfl) (Nat.le_of_ble_eq_true rfl) hw (zNarO hr4) (zFitO hr4) kk
theorem sFl_takeCookie_67 {G : zG} {d : Nat} {Q : Option Value → Heap → Prop} {H : Heap} {o0 : Option Value} {o1 : Option Value} {o2 : Option Value} {o3 : Option Value} {o4 : Option Value} (hn : narrow .boolean (.int (1 : Int32)) = .int (1 : Int32)) (hq : Q (some (.int (1 : Int32))) H) : zW G d M_Fl_takeCookie 67 [o0, o1, o2, o3, o4] [] H Q :=
  zw_iconst (1 : Int32) dFl_takeCookie_67 zki_1 <| zw_iret dFl_takeCookie_68 .boolean rfl hn hq
theorem sCk_init_0 {G : zG} {d : Nat} {Q : Option Value → Heap → Prop} {H : Heap} {st : List Value} {o1 : Option Value} {o2 : Option Value} {o3 : Option Value} {a0 : Nat} (hd : 1 ≤ d) (hl : st.length ≤ 4) (kk : zW G d M_Ck_init 4 [some (.ref a0), o1, o2, o3] st H Q) : zW G d M_Ck_init 0 [some (.ref a0), o1, o2, o3] st H Q :=
  zw_aload_n (i := 0) dCk_init_0 rfl rfl zRf_ref <| zw_objInit dCk_init_1 hd (zt4 209 rfl) zo_inst zo_code hl kk
theorem sCk_init_4 {G : zG} {d : Nat} {Q : Option Value → Heap → Prop} {H : Heap} {st : List Value} {o2 : Option Value} {o3 : Option Value} {a0 : Nat} {v1 : Value} {b0 : Value} {b1 : Value} {b2 : Value} (hr1 : zRf v1 := by first | exact zRf_ref | exact zRf_null | exact zRf_rf _ | assumption) (ho : zObj G H a0 11 [b0, b1, b2]) (hw : zFr G a0) (kk : ∀ H1 : Heap, zObj G H1 a0 11 [v1, b1, b2] → zUp a0 H H1 → zW G d M_Ck_init 9 [some (.ref a0), some v1, o2, o3] st H1 Q) : zW G d M_Ck_init 4 [some (.ref a0), some v1, o2, o3] st H Q :=
  zw_aload_n (i := 0) dCk_init_4 rfl rfl zRf_ref <| zw_aload_n (i := 1) dCk_init_5 rfl rfl hr1 <| zw_putf (k := 0) dCk_init_6 zp_Ck_init_7 ho (Nat.le_of_ble_eq_true rfl) (Nat.le_of_ble_eq_true rfl) hw (zNarO hr1) (zFitO hr1) kk
theorem sCk_init_9 {G : zG} {d : Nat} {Q : Option Value → Heap → Prop} {H : Heap} {st : List Value} {o1 : Option Value} {o3 : Option Value} {a0 : Nat} {v2 : Value} {b0 : Value} {b1 : Value} {b2 : Value} (hr2 : zRf v2 := by first | exact zRf_ref | exact zRf_null | exact zRf_rf _ | assumption) (ho : zObj G H a0 11 [b0, b1, b2]) (hw : zFr G a0) (kk : ∀ H1 : Heap, zObj G H1 a0 11 [b0, v2, b2] → zUp a0 H H1 → zW G d M_Ck_init 14 [some (.ref a0), o1, some v2, o3] st H1 Q) : zW G d M_Ck_init 9 [some (.ref a0), o1, some v2, o3] st H Q :=
  zw_aload_n (i := 0) dCk_init_9 rfl rfl zRf_ref <| zw_aload_n (i := 2) dCk_init_10 rfl rfl hr2 <| zw_putf (k := 1) dCk_init_11 zp_Ck_init_13 ho (Nat.le_of_ble_eq_true rfl) (Nat.le_of_ble_eq_true rfl) hw (zNarO hr2) (zFitO hr2) kk
theorem sCk_init_14 {G : zG} {d : Nat} {Q : Option Value → Heap → Prop} {H : Heap} {st : List Value} {o1 : Option Value} {o2 : Option Value} {a0 : Nat} {v3 : Value} {b0 : Value} {b1 : Value} {b2 : Value} (hr3 : zRf v3 := by first | exact zRf_ref | exact zRf_null | exact zRf_rf _ | assumption) (ho : zObj G H a0 11 [b0, b1, b2]) (hw : zFr G a0) (kk : ∀ H1 : Heap, zObj G H1 a0 11 [b0, b1, v3] → zUp a0 H H1 → zW G d M_Ck_init 19 [some (.ref a0), o1, o2, some v3] st H1 Q) : zW G d M_Ck_init 14 [some (.ref a0), o1, o2, some v3] st H Q :=
  zw_aload_n (i := 0) dCk_init_14 rfl rfl zRf_ref <| zw_aload_n (i := 3) dCk_init_15 rfl rfl hr3 <| zw_putf (k := 2) dCk_init_16 zp_Ck_init_16 ho (Nat.le_of_ble_eq_true rfl) (Nat.le_of_ble_eq_true rfl) hw (zNarO hr3) (zFitO hr3) kk
theorem sCk_init_19 {G : zG} {d : Nat} {Q : Option Value → Heap → Prop} {H : Heap} {o0 : Option Value} {o1 : Option Value} {o2 : Option Value} {o3 : Option Value} (hq : Q none H) : zW G d M_Ck_init 19 [o0, o1, o2, o3] [] H Q :=
  zw_vret dCk_init_19 rfl hq
theorem sKt_init_0 {G : zG} {d : Nat} {Q : Option Value → Heap → Prop} {H : Heap} {st : List Value} {o1 : Option Value} {o2 : Option Value} {a0 : Nat} (hd : 1 ≤ d) (hl : st.length ≤ 4) (kk : zW G d M_Kt_init 4 [some (.ref a0), o1, o2] st H Q) : zW G d M_Kt_init 0 [some (.ref a0), o1, o2] st H Q :=
  zw_aload_n (i := 0) dKt_init_0 rfl rfl zRf_ref <| zw_objInit dKt_init_1 hd (zt4 234 rfl) zo_inst zo_code hl kk
theorem sKt_init_4 {G : zG} {d : Nat} {Q : Option Value → Heap → Prop} {H : Heap} {st : List Value} {o2 : Option Value} {a0 : Nat} {v1 : Value} {b0 : Value} {b1 : Value} (hr1 : zRf v1 := by first | exact zRf_ref | exact zRf_null | exact zRf_rf _ | assumption) (ho : zObj G H a0 12 [b0, b1]) (hw : zFr G a0) (kk : ∀ H1 : Heap, zObj G H1 a0 12 [v1, b1] → zUp a0 H H1 → zW G d M_Kt_init 9 [some (.ref a0), some v1, o2] st H1 Q) : zW G d M_Kt_init 4 [some (.ref a0), some v1, o2] st H Q :=
  zw_aload_n (i := 0) dKt_init_4 rfl rfl zRf_ref <| zw_aload_n (i := 1) dKt_init_5 rfl rfl hr1 <| zw_putf (k := 0) dKt_init_6 zp_Kt_init_7 ho (Nat.le_of_ble_eq_true rfl) (Nat.le_of_ble_eq_true rfl) hw (zNarO hr1) (zFitO hr1) kk
theorem sKt_init_9 {G : zG} {d : Nat} {Q : Option Value → Heap → Prop} {H : Heap} {st : List Value} {o1 : Option Value} {a0 : Nat} {x2 : Int32} {b0 : Value} {b1 : Value} (ho : zObj G H a0 12 [b0, b1]) (hw : zFr G a0) (kk : ∀ H1 : Heap, zObj G H1 a0 12 [b0, (.int x2)] → zUp a0 H H1 → zW G d M_Kt_init 14 [some (.ref a0), o1, some (.int x2)] st H1 Q) : zW G d M_Kt_init 9 [some (.ref a0), o1, some (.int x2)] st H Q :=
  zw_aload_n (i := 0) dKt_init_9 rfl rfl zRf_ref <| zw_iload_n (i := 2) dKt_init_10 rfl rfl <| zw_putf (k := 1) dKt_init_11 zp_Kt_init_13 ho (Nat.le_of_ble_eq_true rfl) (Nat.le_of_ble_eq_true rfl) hw rfl rfl kk
theorem sKt_init_14 {G : zG} {d : Nat} {Q : Option Value → Heap → Prop} {H : Heap} {o0 : Option Value} {o1 : Option Value} {o2 : Option Value} (hq : Q none H) : zW G d M_Kt_init 14 [o0, o1, o2] [] H Q :=
  zw_vret dKt_init_14 rfl hq


