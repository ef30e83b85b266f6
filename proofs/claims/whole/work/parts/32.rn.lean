theorem dN_init_0 : decode prog_1_method_1_code 0 = .ok (.aload_n 0, 1) := by decide +kernel
theorem dN_init_1 : decode prog_1_method_1_code 1 = .ok (.invokespecial 1, 3) := by decide +kernel
theorem dN_init_4 : decode prog_1_method_1_code 4 = .ok (.aload_n 0, 1) := by decide +kernel
theorem dN_init_5 : decode prog_1_method_1_code 5 = .ok (.new 7, 3) := by decide +kernel
theorem dN_init_8 : decode prog_1_method_1_code 8 = .ok (.dup, 1) := by decide +kernel
theorem dN_init_9 : decode prog_1_method_1_code 9 = .ok (.invokespecial 9, 3) := by decide +kernel
theorem dN_init_12 : decode prog_1_method_1_code 12 = .ok (.putfield 10, 3) := by decide +kernel
theorem dN_init_15 : decode prog_1_method_1_code 15 = .ok (.aload_n 0, 1) := by decide +kernel
theorem dN_init_16 : decode prog_1_method_1_code 16 = .ok (.new 7, 3) := by decide +kernel
theorem dN_init_19 : decode prog_1_method_1_code 19 = .ok (.dup, 1) := by decide +kernel
theorem dN_init_20 : decode prog_1_method_1_code 20 = .ok (.invokespecial 9, 3) := by decide +kernel
theorem dN_init_23 : decode prog_1_method_1_code 23 = .ok (.putfield 16, 3) := by decide +kernel
theorem dN_init_26 : decode prog_1_method_1_code 26 = .ok (.aload_n 0, 1) := by decide +kernel
theorem dN_init_27 : decode prog_1_method_1_code 27 = .ok (.new 19, 3) := by decide +kernel
theorem dN_init_30 : decode prog_1_method_1_code 30 = .ok (.dup, 1) := by decide +kernel
theorem dN_init_31 : decode prog_1_method_1_code 31 = .ok (.ldc 21, 2) := by decide +kernel
theorem dN_init_33 : decode prog_1_method_1_code 33 = .ok (.ldc 23, 2) := by decide +kernel
theorem dN_init_35 : decode prog_1_method_1_code 35 = .ok (.ldc 25, 2) := by decide +kernel
theorem dN_init_37 : decode prog_1_method_1_code 37 = .ok (.ldc 25, 2) := by decide +kernel
theorem dN_init_39 : decode prog_1_method_1_code 39 = .ok (.invokespecial 27, 3) := by decide +kernel
theorem dN_init_42 : decode prog_1_method_1_code 42 = .ok (.putfield 30, 3) := by decide +kernel
theorem dN_init_45 : decode prog_1_method_1_code 45 = .ok (.aload_n 0, 1) := by decide +kernel
theorem dN_init_46 : decode prog_1_method_1_code 46 = .ok (.new 33, 3) := by decide +kernel
theorem dN_init_49 : decode prog_1_method_1_code 49 = .ok (.dup, 1) := by decide +kernel
theorem dN_init_50 : decode prog_1_method_1_code 50 = .ok (.aload_n 0, 1) := by decide +kernel
theorem dN_init_51 : decode prog_1_method_1_code 51 = .ok (.getfield 30, 3) := by decide +kernel
theorem dN_init_54 : decode prog_1_method_1_code 54 = .ok (.new 35, 3) := by decide +kernel
theorem dN_init_57 : decode prog_1_method_1_code 57 = .ok (.dup, 1) := by decide +kernel
theorem dN_init_58 : decode prog_1_method_1_code 58 = .ok (.invokespecial 37, 3) := by decide +kernel
theorem dN_init_61 : decode prog_1_method_1_code 61 = .ok (.ldc 25, 2) := by decide +kernel
theorem dN_init_63 : decode prog_1_method_1_code 63 = .ok (.invokespecial 38, 3) := by decide +kernel
theorem dN_init_66 : decode prog_1_method_1_code 66 = .ok (.putfield 41, 3) := by decide +kernel
theorem dN_init_69 : decode prog_1_method_1_code 69 = .ok (.aload_n 0, 1) := by decide +kernel
theorem dN_init_70 : decode prog_1_method_1_code 70 = .ok (.new 45, 3) := by decide +kernel
theorem dN_init_73 : decode prog_1_method_1_code 73 = .ok (.dup, 1) := by decide +kernel
theorem dN_init_74 : decode prog_1_method_1_code 74 = .ok (.invokespecial 47, 3) := by decide +kernel
theorem dN_init_77 : decode prog_1_method_1_code 77 = .ok (.putfield 48, 3) := by decide +kernel
theorem dN_init_80 : decode prog_1_method_1_code 80 = .ok (.aload_n 0, 1) := by decide +kernel
theorem dN_init_81 : decode prog_1_method_1_code 81 = .ok (.new 52, 3) := by decide +kernel
theorem dN_init_84 : decode prog_1_method_1_code 84 = .ok (.dup, 1) := by decide +kernel
theorem dN_init_85 : decode prog_1_method_1_code 85 = .ok (.invokespecial 54, 3) := by decide +kernel
theorem dN_init_88 : decode prog_1_method_1_code 88 = .ok (.putfield 55, 3) := by decide +kernel
theorem dN_init_91 : decode prog_1_method_1_code 91 = .ok (.aload_n 0, 1) := by decide +kernel
theorem dN_init_92 : decode prog_1_method_1_code 92 = .ok (.new 59, 3) := by decide +kernel
theorem dN_init_95 : decode prog_1_method_1_code 95 = .ok (.dup, 1) := by decide +kernel
theorem dN_init_96 : decode prog_1_method_1_code 96 = .ok (.invokespecial 61, 3) := by decide +kernel
theorem dN_init_99 : decode prog_1_method_1_code 99 = .ok (.putfield 62, 3) := by decide +kernel
theorem dN_init_102 : decode prog_1_method_1_code 102 = .ok (.aload_n 0, 1) := by decide +kernel
theorem dN_init_103 : decode prog_1_method_1_code 103 = .ok (.new 7, 3) := by decide +kernel
theorem dN_init_106 : decode prog_1_method_1_code 106 = .ok (.dup, 1) := by decide +kernel
theorem dN_init_107 : decode prog_1_method_1_code 107 = .ok (.invokespecial 9, 3) := by decide +kernel
theorem dN_init_110 : decode prog_1_method_1_code 110 = .ok (.putfield 66, 3) := by decide +kernel
theorem dN_init_113 : decode prog_1_method_1_code 113 = .ok (.aload_n 0, 1) := by decide +kernel
theorem dN_init_114 : decode prog_1_method_1_code 114 = .ok (.aload_n 0, 1) := by decide +kernel
theorem dN_init_115 : decode prog_1_method_1_code 115 = .ok (.getfield 30, 3) := by decide +kernel
theorem dN_init_118 : decode prog_1_method_1_code 118 = .ok (.putfield 69, 3) := by decide +kernel
theorem dN_init_121 : decode prog_1_method_1_code 121 = .ok (.aload_n 0, 1) := by decide +kernel
theorem dN_init_122 : decode prog_1_method_1_code 122 = .ok (.iconst 0, 1) := by decide +kernel
theorem dN_init_123 : decode prog_1_method_1_code 123 = .ok (.putfield 72, 3) := by decide +kernel
theorem dN_init_126 : decode prog_1_method_1_code 126 = .ok (.aload_n 0, 1) := by decide +kernel
theorem dN_init_127 : decode prog_1_method_1_code 127 = .ok (.iconst 0, 1) := by decide +kernel
theorem dN_init_128 : decode prog_1_method_1_code 128 = .ok (.putfield 76, 3) := by decide +kernel
theorem dN_init_131 : decode prog_1_method_1_code 131 = .ok (.aload_n 0, 1) := by decide +kernel
theorem dN_init_132 : decode prog_1_method_1_code 132 = .ok (.aconst_null, 1) := by decide +kernel
theorem dN_init_133 : decode prog_1_method_1_code 133 = .ok (.putfield 79, 3) := by decide +kernel
theorem dN_init_136 : decode prog_1_method_1_code 136 = .ok (.aload_n 0, 1) := by decide +kernel
theorem dN_init_137 : decode prog_1_method_1_code 137 = .ok (.aload_n 0, 1) := by decide +kernel
theorem dN_init_138 : decode prog_1_method_1_code 138 = .ok (.getfield 41, 3) := by decide +kernel
theorem dN_init_141 : decode prog_1_method_1_code 141 = .ok (.putfield 82, 3) := by decide +kernel
theorem dN_init_144 : decode prog_1_method_1_code 144 = .ok (.aload_n 0, 1) := by decide +kernel
theorem dN_init_145 : decode prog_1_method_1_code 145 = .ok (.aconst_null, 1) := by decide +kernel
theorem dN_init_146 : decode prog_1_method_1_code 146 = .ok (.putfield 85, 3) := by decide +kernel
theorem dN_init_149 : decode prog_1_method_1_code 149 = .ok (.aload_n 0, 1) := by decide +kernel
theorem dN_init_150 : decode prog_1_method_1_code 150 = .ok (.ldc 25, 2) := by decide +kernel
theorem dN_init_152 : decode prog_1_method_1_code 152 = .ok (.putfield 88, 3) := by decide +kernel
theorem dN_init_155 : decode prog_1_method_1_code 155 = .ok (.aload_n 0, 1) := by decide +kernel
theorem dN_init_156 : decode prog_1_method_1_code 156 = .ok (.iconst 0, 1) := by decide +kernel
theorem dN_init_157 : decode prog_1_method_1_code 157 = .ok (.putfield 92, 3) := by decide +kernel
theorem dN_init_160 : decode prog_1_method_1_code 160 = .ok (.aload_n 0, 1) := by decide +kernel
theorem dN_init_161 : decode prog_1_method_1_code 161 = .ok (.iconst 0, 1) := by decide +kernel
theorem dN_init_162 : decode prog_1_method_1_code 162 = .ok (.putfield 95, 3) := by decide +kernel
theorem dN_init_165 : decode prog_1_method_1_code 165 = .ok (.return_, 1) := by decide +kernel
theorem dJr_init_0 : decode prog_6_method_1_code 0 = .ok (.aload_n 0, 1) := by decide +kernel
theorem dJr_init_1 : decode prog_6_method_1_code 1 = .ok (.invokespecial 3, 3) := by decide +kernel
theorem dJr_init_4 : decode prog_6_method_1_code 4 = .ok (.aload_n 0, 1) := by decide +kernel
theorem dJr_init_5 : decode prog_6_method_1_code 5 = .ok (.new 9, 3) := by decide +kernel
theorem dJr_init_8 : decode prog_6_method_1_code 8 = .ok (.dup, 1) := by decide +kernel
theorem dJr_init_9 : decode prog_6_method_1_code 9 = .ok (.invokespecial 11, 3) := by decide +kernel
theorem dJr_init_12 : decode prog_6_method_1_code 12 = .ok (.putfield 12, 3) := by decide +kernel
theorem dJr_init_15 : decode prog_6_method_1_code 15 = .ok (.return_, 1) := by decide +kernel
theorem dKp_init_0 : decode prog_7_method_1_code 0 = .ok (.aload_n 0, 1) := by decide +kernel
theorem dKp_init_1 : decode prog_7_method_1_code 1 = .ok (.invokespecial 3, 3) := by decide +kernel
theorem dKp_init_4 : decode prog_7_method_1_code 4 = .ok (.aload_n 0, 1) := by decide +kernel
theorem dKp_init_5 : decode prog_7_method_1_code 5 = .ok (.new 9, 3) := by decide +kernel
theorem dKp_init_8 : decode prog_7_method_1_code 8 = .ok (.dup, 1) := by decide +kernel
theorem dKp_init_9 : decode prog_7_method_1_code 9 = .ok (.invokespecial 11, 3) := by decide +kernel
theorem dKp_init_12 : decode prog_7_method_1_code 12 = .ok (.putfield 12, 3) := by decide +kernel
theorem dKp_init_15 : decode prog_7_method_1_code 15 = .ok (.return_, 1) := by decide +kernel
theorem dN_feed_0 : decode prog_1_method_2_code 0 = .ok (.aload_n 0, 1) := by decide +kernel
theorem dN_feed_1 : decode prog_1_method_2_code 1 = .ok (.getfield 10, 3) := by decide +kernel
theorem dN_feed_4 : decode prog_1_method_2_code 4 = .ok (.invokevirtual 99, 3) := by decide +kernel
theorem dN_feed_7 : decode prog_1_method_2_code 7 = .ok (.sipush 1980, 3) := by decide +kernel
theorem dN_feed_10 : decode prog_1_method_2_code 10 = .ok (.if_icmp .le 5, 3) := by decide +kernel
theorem dN_feed_13 : decode prog_1_method_2_code 13 = .ok (.iconst (-1), 1) := by decide +kernel
theorem dN_feed_14 : decode prog_1_method_2_code 14 = .ok (.ireturn, 1) := by decide +kernel
theorem dN_feed_15 : decode prog_1_method_2_code 15 = .ok (.aload_n 0, 1) := by decide +kernel
theorem dN_feed_16 : decode prog_1_method_2_code 16 = .ok (.iload_n 1, 1) := by decide +kernel
theorem dN_feed_17 : decode prog_1_method_2_code 17 = .ok (.invokevirtual 103, 3) := by decide +kernel
theorem dN_feed_20 : decode prog_1_method_2_code 20 = .ok (.aload_n 0, 1) := by decide +kernel
theorem dN_feed_21 : decode prog_1_method_2_code 21 = .ok (.iload_n 2, 1) := by decide +kernel
theorem dN_feed_22 : decode prog_1_method_2_code 22 = .ok (.invokevirtual 103, 3) := by decide +kernel
theorem dN_feed_25 : decode prog_1_method_2_code 25 = .ok (.aload_n 0, 1) := by decide +kernel
theorem dN_feed_26 : decode prog_1_method_2_code 26 = .ok (.iload_n 3, 1) := by decide +kernel
theorem dN_feed_27 : decode prog_1_method_2_code 27 = .ok (.invokevirtual 103, 3) := by decide +kernel
theorem dN_feed_30 : decode prog_1_method_2_code 30 = .ok (.aload_n 0, 1) := by decide +kernel
theorem dN_feed_31 : decode prog_1_method_2_code 31 = .ok (.iload 4, 2) := by decide +kernel
theorem dN_feed_33 : decode prog_1_method_2_code 33 = .ok (.invokevirtual 103, 3) := by decide +kernel
theorem dN_feed_36 : decode prog_1_method_2_code 36 = .ok (.aload_n 0, 1) := by decide +kernel
theorem dN_feed_37 : decode prog_1_method_2_code 37 = .ok (.iload 5, 2) := by decide +kernel
theorem dN_feed_39 : decode prog_1_method_2_code 39 = .ok (.invokevirtual 103, 3) := by decide +kernel
theorem dN_feed_42 : decode prog_1_method_2_code 42 = .ok (.aload_n 0, 1) := by decide +kernel
theorem dN_feed_43 : decode prog_1_method_2_code 43 = .ok (.getfield 10, 3) := by decide +kernel
theorem dN_feed_46 : decode prog_1_method_2_code 46 = .ok (.invokevirtual 99, 3) := by decide +kernel
theorem dN_feed_49 : decode prog_1_method_2_code 49 = .ok (.ireturn, 1) := by decide +kernel
theorem dN_addWord_0 : decode prog_1_method_14_code 0 = .ok (.bipush 24, 2) := by decide +kernel
theorem dN_addWord_2 : decode prog_1_method_14_code 2 = .ok (.istore_n 2, 1) := by decide +kernel
theorem dN_addWord_3 : decode prog_1_method_14_code 3 = .ok (.iload_n 2, 1) := by decide +kernel
theorem dN_addWord_4 : decode prog_1_method_14_code 4 = .ok (.ifCond .lt 25, 3) := by decide +kernel
theorem dN_addWord_7 : decode prog_1_method_14_code 7 = .ok (.aload_n 0, 1) := by decide +kernel
theorem dN_addWord_8 : decode prog_1_method_14_code 8 = .ok (.getfield 10, 3) := by decide +kernel
theorem dN_addWord_11 : decode prog_1_method_14_code 11 = .ok (.iload_n 1, 1) := by decide +kernel
theorem dN_addWord_12 : decode prog_1_method_14_code 12 = .ok (.iload_n 2, 1) := by decide +kernel
theorem dN_addWord_13 : decode prog_1_method_14_code 13 = .ok (.iushr, 1) := by decide +kernel
theorem dN_addWord_14 : decode prog_1_method_14_code 14 = .ok (.sipush 255, 3) := by decide +kernel
theorem dN_addWord_17 : decode prog_1_method_14_code 17 = .ok (.iand, 1) := by decide +kernel
theorem dN_addWord_18 : decode prog_1_method_14_code 18 = .ok (.i2c, 1) := by decide +kernel
theorem dN_addWord_19 : decode prog_1_method_14_code 19 = .ok (.invokevirtual 199, 3) := by decide +kernel
theorem dN_addWord_22 : decode prog_1_method_14_code 22 = .ok (.pop, 1) := by decide +kernel
theorem dN_addWord_23 : decode prog_1_method_14_code 23 = .ok (.iinc 2 (-8), 3) := by decide +kernel
theorem dN_addWord_26 : decode prog_1_method_14_code 26 = .ok (.goto (-23), 3) := by decide +kernel
theorem dN_addWord_29 : decode prog_1_method_14_code 29 = .ok (.return_, 1) := by decide +kernel
theorem dN_end_0 : decode prog_1_method_3_code 0 = .ok (.iload_n 1, 1) := by decide +kernel
theorem dN_end_1 : decode prog_1_method_3_code 1 = .ok (.ifCond .lt 14, 3) := by decide +kernel
theorem dN_end_4 : decode prog_1_method_3_code 4 = .ok (.iload_n 1, 1) := by decide +kernel
theorem dN_end_5 : decode prog_1_method_3_code 5 = .ok (.aload_n 0, 1) := by decide +kernel
theorem dN_end_6 : decode prog_1_method_3_code 6 = .ok (.getfield 10, 3) := by decide +kernel
theorem dN_end_9 : decode prog_1_method_3_code 9 = .ok (.invokevirtual 99, 3) := by decide +kernel
theorem dN_end_12 : decode prog_1_method_3_code 12 = .ok (.if_icmp .le 5, 3) := by decide +kernel
theorem dN_end_15 : decode prog_1_method_3_code 15 = .ok (.iconst (-1), 1) := by decide +kernel
theorem dN_end_16 : decode prog_1_method_3_code 16 = .ok (.ireturn, 1) := by decide +kernel
theorem dN_end_17 : decode prog_1_method_3_code 17 = .ok (.aload_n 0, 1) := by decide +kernel
theorem dN_end_18 : decode prog_1_method_3_code 18 = .ok (.getfield 10, 3) := by decide +kernel
theorem dN_end_21 : decode prog_1_method_3_code 21 = .ok (.iload_n 1, 1) := by decide +kernel
theorem dN_end_22 : decode prog_1_method_3_code 22 = .ok (.invokevirtual 107, 3) := by decide +kernel
theorem dN_end_25 : decode prog_1_method_3_code 25 = .ok (.iload_n 1, 1) := by decide +kernel
theorem dN_end_26 : decode prog_1_method_3_code 26 = .ok (.ireturn, 1) := by decide +kernel
theorem dN_out_0 : decode prog_1_method_4_code 0 = .ok (.iload_n 1, 1) := by decide +kernel
theorem dN_out_1 : decode prog_1_method_4_code 1 = .ok (.ifCond .lt 14, 3) := by decide +kernel
theorem dN_out_4 : decode prog_1_method_4_code 4 = .ok (.iload_n 1, 1) := by decide +kernel
theorem dN_out_5 : decode prog_1_method_4_code 5 = .ok (.aload_n 0, 1) := by decide +kernel
theorem dN_out_6 : decode prog_1_method_4_code 6 = .ok (.getfield 16, 3) := by decide +kernel
theorem dN_out_9 : decode prog_1_method_4_code 9 = .ok (.invokevirtual 99, 3) := by decide +kernel
theorem dN_out_12 : decode prog_1_method_4_code 12 = .ok (.if_icmp .lt 5, 3) := by decide +kernel
theorem dN_out_15 : decode prog_1_method_4_code 15 = .ok (.iconst (-1), 1) := by decide +kernel
theorem dN_out_16 : decode prog_1_method_4_code 16 = .ok (.ireturn, 1) := by decide +kernel
theorem dN_out_17 : decode prog_1_method_4_code 17 = .ok (.aload_n 0, 1) := by decide +kernel
theorem dN_out_18 : decode prog_1_method_4_code 18 = .ok (.getfield 16, 3) := by decide +kernel
theorem dN_out_21 : decode prog_1_method_4_code 21 = .ok (.iload_n 1, 1) := by decide +kernel
theorem dN_out_22 : decode prog_1_method_4_code 22 = .ok (.invokevirtual 110, 3) := by decide +kernel
theorem dN_out_25 : decode prog_1_method_4_code 25 = .ok (.ireturn, 1) := by decide +kernel
theorem dN_resolve_0 : decode prog_1_method_5_code 0 = .ok (.aload_n 0, 1) := by decide +kernel
theorem dN_resolve_1 : decode prog_1_method_5_code 1 = .ok (.invokevirtual 114, 3) := by decide +kernel
theorem dN_resolve_4 : decode prog_1_method_5_code 4 = .ok (.astore_n 1, 1) := by decide +kernel
theorem dN_resolve_5 : decode prog_1_method_5_code 5 = .ok (.aload_n 1, 1) := by decide +kernel
theorem dN_resolve_6 : decode prog_1_method_5_code 6 = .ok (.invokestatic 118, 3) := by decide +kernel
theorem dN_resolve_9 : decode prog_1_method_5_code 9 = .ok (.istore_n 2, 1) := by decide +kernel
theorem dN_resolve_10 : decode prog_1_method_5_code 10 = .ok (.iload_n 2, 1) := by decide +kernel
theorem dN_resolve_11 : decode prog_1_method_5_code 11 = .ok (.iconst (-1), 1) := by decide +kernel
theorem dN_resolve_12 : decode prog_1_method_5_code 12 = .ok (.if_icmp .eq 9, 3) := by decide +kernel
theorem dN_resolve_15 : decode prog_1_method_5_code 15 = .ok (.sipush (-1000), 3) := by decide +kernel
theorem dN_resolve_18 : decode prog_1_method_5_code 18 = .ok (.iload_n 2, 1) := by decide +kernel
theorem dN_resolve_19 : decode prog_1_method_5_code 19 = .ok (.isub, 1) := by decide +kernel
theorem dN_resolve_20 : decode prog_1_method_5_code 20 = .ok (.ireturn, 1) := by decide +kernel
theorem dN_resolve_21 : decode prog_1_method_5_code 21 = .ok (.aload_n 1, 1) := by decide +kernel
theorem dN_resolve_22 : decode prog_1_method_5_code 22 = .ok (.aload_n 0, 1) := by decide +kernel
theorem dN_resolve_23 : decode prog_1_method_5_code 23 = .ok (.getfield 69, 3) := by decide +kernel
theorem dN_resolve_26 : decode prog_1_method_5_code 26 = .ok (.invokestatic 124, 3) := by decide +kernel
theorem dN_resolve_29 : decode prog_1_method_5_code 29 = .ok (.astore_n 3, 1) := by decide +kernel
theorem dN_resolve_30 : decode prog_1_method_5_code 30 = .ok (.aload_n 3, 1) := by decide +kernel
theorem dN_resolve_31 : decode prog_1_method_5_code 31 = .ok (.ifnonnull 5, 3) := by decide +kernel
theorem dN_resolve_34 : decode prog_1_method_5_code 34 = .ok (.iconst (-1), 1) := by decide +kernel
theorem dN_resolve_35 : decode prog_1_method_5_code 35 = .ok (.ireturn, 1) := by decide +kernel
theorem dN_resolve_36 : decode prog_1_method_5_code 36 = .ok (.aload_n 0, 1) := by decide +kernel
theorem dN_resolve_37 : decode prog_1_method_5_code 37 = .ok (.aload_n 3, 1) := by decide +kernel
theorem dN_resolve_38 : decode prog_1_method_5_code 38 = .ok (.aload_n 3, 1) := by decide +kernel
theorem dN_resolve_39 : decode prog_1_method_5_code 39 = .ok (.getfield 128, 3) := by decide +kernel
theorem dN_resolve_42 : decode prog_1_method_5_code 42 = .ok (.invokevirtual 131, 3) := by decide +kernel
theorem dN_resolve_45 : decode prog_1_method_5_code 45 = .ok (.ireturn, 1) := by decide +kernel
theorem dN_takeText_0 : decode prog_1_method_15_code 0 = .ok (.aload_n 0, 1) := by decide +kernel
theorem dN_takeText_1 : decode prog_1_method_15_code 1 = .ok (.getfield 10, 3) := by decide +kernel
theorem dN_takeText_4 : decode prog_1_method_15_code 4 = .ok (.invokevirtual 187, 3) := by decide +kernel
theorem dN_takeText_7 : decode prog_1_method_15_code 7 = .ok (.astore_n 1, 1) := by decide +kernel
theorem dN_takeText_8 : decode prog_1_method_15_code 8 = .ok (.aload_n 0, 1) := by decide +kernel
theorem dN_takeText_9 : decode prog_1_method_15_code 9 = .ok (.getfield 10, 3) := by decide +kernel
theorem dN_takeText_12 : decode prog_1_method_15_code 12 = .ok (.iconst 0, 1) := by decide +kernel
theorem dN_takeText_13 : decode prog_1_method_15_code 13 = .ok (.invokevirtual 107, 3) := by decide +kernel
theorem dN_takeText_16 : decode prog_1_method_15_code 16 = .ok (.aload_n 1, 1) := by decide +kernel
theorem dN_takeText_17 : decode prog_1_method_15_code 17 = .ok (.areturn, 1) := by decide +kernel
theorem dN_writeAddress_0 : decode prog_1_method_16_code 0 = .ok (.aload_n 0, 1) := by decide +kernel
theorem dN_writeAddress_1 : decode prog_1_method_16_code 1 = .ok (.getfield 16, 3) := by decide +kernel
theorem dN_writeAddress_4 : decode prog_1_method_16_code 4 = .ok (.iconst 0, 1) := by decide +kernel
theorem dN_writeAddress_5 : decode prog_1_method_16_code 5 = .ok (.invokevirtual 107, 3) := by decide +kernel
theorem dN_writeAddress_8 : decode prog_1_method_16_code 8 = .ok (.aload_n 1, 1) := by decide +kernel
theorem dN_writeAddress_9 : decode prog_1_method_16_code 9 = .ok (.ifnull 20, 3) := by decide +kernel
theorem dN_writeAddress_12 : decode prog_1_method_16_code 12 = .ok (.aload_n 1, 1) := by decide +kernel
theorem dN_writeAddress_13 : decode prog_1_method_16_code 13 = .ok (.aload_n 0, 1) := by decide +kernel
theorem dN_writeAddress_14 : decode prog_1_method_16_code 14 = .ok (.getfield 16, 3) := by decide +kernel
theorem dN_writeAddress_17 : decode prog_1_method_16_code 17 = .ok (.invokevirtual 202, 3) := by decide +kernel
theorem dN_writeAddress_20 : decode prog_1_method_16_code 20 = .ok (.aload_n 0, 1) := by decide +kernel
theorem dN_writeAddress_21 : decode prog_1_method_16_code 21 = .ok (.getfield 16, 3) := by decide +kernel
theorem dN_writeAddress_24 : decode prog_1_method_16_code 24 = .ok (.aload_n 2, 1) := by decide +kernel
theorem dN_writeAddress_25 : decode prog_1_method_16_code 25 = .ok (.invokevirtual 190, 3) := by decide +kernel
theorem dN_writeAddress_28 : decode prog_1_method_16_code 28 = .ok (.pop, 1) := by decide +kernel
theorem dN_writeAddress_29 : decode prog_1_method_16_code 29 = .ok (.aload_n 0, 1) := by decide +kernel
theorem dN_writeAddress_30 : decode prog_1_method_16_code 30 = .ok (.getfield 16, 3) := by decide +kernel
theorem dN_writeAddress_33 : decode prog_1_method_16_code 33 = .ok (.invokevirtual 99, 3) := by decide +kernel
theorem dN_writeAddress_36 : decode prog_1_method_16_code 36 = .ok (.ireturn, 1) := by decide +kernel
theorem dN_base_0 : decode prog_1_method_6_code 0 = .ok (.aload_n 0, 1) := by decide +kernel
theorem dN_base_1 : decode prog_1_method_6_code 1 = .ok (.invokevirtual 114, 3) := by decide +kernel
theorem dN_base_4 : decode prog_1_method_6_code 4 = .ok (.astore_n 1, 1) := by decide +kernel
theorem dN_base_5 : decode prog_1_method_6_code 5 = .ok (.aload_n 1, 1) := by decide +kernel
theorem dN_base_6 : decode prog_1_method_6_code 6 = .ok (.invokestatic 118, 3) := by decide +kernel
theorem dN_base_9 : decode prog_1_method_6_code 9 = .ok (.istore_n 2, 1) := by decide +kernel
theorem dN_base_10 : decode prog_1_method_6_code 10 = .ok (.iload_n 2, 1) := by decide +kernel
theorem dN_base_11 : decode prog_1_method_6_code 11 = .ok (.iconst (-1), 1) := by decide +kernel
theorem dN_base_12 : decode prog_1_method_6_code 12 = .ok (.if_icmp .eq 9, 3) := by decide +kernel
theorem dN_base_15 : decode prog_1_method_6_code 15 = .ok (.sipush (-1000), 3) := by decide +kernel
theorem dN_base_18 : decode prog_1_method_6_code 18 = .ok (.iload_n 2, 1) := by decide +kernel
theorem dN_base_19 : decode prog_1_method_6_code 19 = .ok (.isub, 1) := by decide +kernel
theorem dN_base_20 : decode prog_1_method_6_code 20 = .ok (.ireturn, 1) := by decide +kernel
theorem dN_base_21 : decode prog_1_method_6_code 21 = .ok (.aload_n 1, 1) := by decide +kernel
theorem dN_base_22 : decode prog_1_method_6_code 22 = .ok (.aload_n 0, 1) := by decide +kernel
theorem dN_base_23 : decode prog_1_method_6_code 23 = .ok (.getfield 69, 3) := by decide +kernel
theorem dN_base_26 : decode prog_1_method_6_code 26 = .ok (.invokestatic 124, 3) := by decide +kernel
theorem dN_base_29 : decode prog_1_method_6_code 29 = .ok (.astore_n 3, 1) := by decide +kernel
theorem dN_base_30 : decode prog_1_method_6_code 30 = .ok (.aload_n 3, 1) := by decide +kernel
theorem dN_base_31 : decode prog_1_method_6_code 31 = .ok (.ifnonnull 5, 3) := by decide +kernel
theorem dN_base_34 : decode prog_1_method_6_code 34 = .ok (.iconst (-1), 1) := by decide +kernel
theorem dN_base_35 : decode prog_1_method_6_code 35 = .ok (.ireturn, 1) := by decide +kernel
theorem dN_base_36 : decode prog_1_method_6_code 36 = .ok (.aload_n 0, 1) := by decide +kernel
theorem dN_base_37 : decode prog_1_method_6_code 37 = .ok (.aload_n 3, 1) := by decide +kernel
theorem dN_base_38 : decode prog_1_method_6_code 38 = .ok (.putfield 69, 3) := by decide +kernel
theorem dN_base_41 : decode prog_1_method_6_code 41 = .ok (.aload_n 3, 1) := by decide +kernel
theorem dN_base_42 : decode prog_1_method_6_code 42 = .ok (.invokevirtual 135, 3) := by decide +kernel
theorem dN_base_45 : decode prog_1_method_6_code 45 = .ok (.ireturn, 1) := by decide +kernel
theorem dN_server_0 : decode prog_1_method_7_code 0 = .ok (.aload_n 0, 1) := by decide +kernel
theorem dN_server_1 : decode prog_1_method_7_code 1 = .ok (.invokevirtual 114, 3) := by decide +kernel
theorem dN_server_4 : decode prog_1_method_7_code 4 = .ok (.astore_n 1, 1) := by decide +kernel
theorem dN_server_5 : decode prog_1_method_7_code 5 = .ok (.aload_n 1, 1) := by decide +kernel
theorem dN_server_6 : decode prog_1_method_7_code 6 = .ok (.invokestatic 118, 3) := by decide +kernel
theorem dN_server_9 : decode prog_1_method_7_code 9 = .ok (.istore_n 2, 1) := by decide +kernel
theorem dN_server_10 : decode prog_1_method_7_code 10 = .ok (.iload_n 2, 1) := by decide +kernel
theorem dN_server_11 : decode prog_1_method_7_code 11 = .ok (.iconst (-1), 1) := by decide +kernel
theorem dN_server_12 : decode prog_1_method_7_code 12 = .ok (.if_icmp .eq 9, 3) := by decide +kernel
theorem dN_server_15 : decode prog_1_method_7_code 15 = .ok (.sipush (-1000), 3) := by decide +kernel
theorem dN_server_18 : decode prog_1_method_7_code 18 = .ok (.iload_n 2, 1) := by decide +kernel
theorem dN_server_19 : decode prog_1_method_7_code 19 = .ok (.isub, 1) := by decide +kernel
theorem dN_server_20 : decode prog_1_method_7_code 20 = .ok (.ireturn, 1) := by decide +kernel
theorem dN_server_21 : decode prog_1_method_7_code 21 = .ok (.new 138, 3) := by decide +kernel
theorem dN_server_24 : decode prog_1_method_7_code 24 = .ok (.dup, 1) := by decide +kernel
theorem dN_server_25 : decode prog_1_method_7_code 25 = .ok (.aload_n 1, 1) := by decide +kernel
theorem dN_server_26 : decode prog_1_method_7_code 26 = .ok (.aload_n 0, 1) := by decide +kernel
theorem dN_server_27 : decode prog_1_method_7_code 27 = .ok (.getfield 30, 3) := by decide +kernel
theorem dN_server_30 : decode prog_1_method_7_code 30 = .ok (.invokespecial 140, 3) := by decide +kernel
theorem dN_server_33 : decode prog_1_method_7_code 33 = .ok (.astore_n 3, 1) := by decide +kernel
theorem dN_server_34 : decode prog_1_method_7_code 34 = .ok (.aload_n 3, 1) := by decide +kernel
theorem dN_server_35 : decode prog_1_method_7_code 35 = .ok (.invokevirtual 143, 3) := by decide +kernel
theorem dN_server_38 : decode prog_1_method_7_code 38 = .ok (.istore 4, 2) := by decide +kernel
theorem dN_server_40 : decode prog_1_method_7_code 40 = .ok (.iload 4, 2) := by decide +kernel
theorem dN_server_42 : decode prog_1_method_7_code 42 = .ok (.iconst (-1), 1) := by decide +kernel
theorem dN_server_43 : decode prog_1_method_7_code 43 = .ok (.if_icmp .eq 10, 3) := by decide +kernel
theorem dN_server_46 : decode prog_1_method_7_code 46 = .ok (.sipush (-1000), 3) := by decide +kernel
theorem dN_server_49 : decode prog_1_method_7_code 49 = .ok (.iload 4, 2) := by decide +kernel
theorem dN_server_51 : decode prog_1_method_7_code 51 = .ok (.isub, 1) := by decide +kernel
theorem dN_server_52 : decode prog_1_method_7_code 52 = .ok (.ireturn, 1) := by decide +kernel
theorem dN_server_53 : decode prog_1_method_7_code 53 = .ok (.new 33, 3) := by decide +kernel
theorem dN_server_56 : decode prog_1_method_7_code 56 = .ok (.dup, 1) := by decide +kernel
theorem dN_server_57 : decode prog_1_method_7_code 57 = .ok (.aload_n 3, 1) := by decide +kernel
theorem dN_server_58 : decode prog_1_method_7_code 58 = .ok (.getfield 146, 3) := by decide +kernel
theorem dN_server_61 : decode prog_1_method_7_code 61 = .ok (.aload_n 3, 1) := by decide +kernel
theorem dN_server_62 : decode prog_1_method_7_code 62 = .ok (.getfield 149, 3) := by decide +kernel
theorem dN_server_65 : decode prog_1_method_7_code 65 = .ok (.aload_n 3, 1) := by decide +kernel
theorem dN_server_66 : decode prog_1_method_7_code 66 = .ok (.getfield 153, 3) := by decide +kernel
theorem dN_server_69 : decode prog_1_method_7_code 69 = .ok (.invokespecial 38, 3) := by decide +kernel
theorem dN_server_72 : decode prog_1_method_7_code 72 = .ok (.astore 5, 2) := by decide +kernel
theorem dN_server_74 : decode prog_1_method_7_code 74 = .ok (.aload_n 0, 1) := by decide +kernel
theorem dN_server_75 : decode prog_1_method_7_code 75 = .ok (.aload 5, 2) := by decide +kernel
theorem dN_server_77 : decode prog_1_method_7_code 77 = .ok (.getfield 156, 3) := by decide +kernel
theorem dN_server_80 : decode prog_1_method_7_code 80 = .ok (.invokevirtual 157, 3) := by decide +kernel
theorem dN_server_83 : decode prog_1_method_7_code 83 = .ok (.istore 6, 2) := by decide +kernel
theorem dN_server_85 : decode prog_1_method_7_code 85 = .ok (.iload 6, 2) := by decide +kernel
theorem dN_server_87 : decode prog_1_method_7_code 87 = .ok (.iconst (-1), 1) := by decide +kernel
theorem dN_server_88 : decode prog_1_method_7_code 88 = .ok (.if_icmp .eq 18, 3) := by decide +kernel
theorem dN_server_91 : decode prog_1_method_7_code 91 = .ok (.aload_n 0, 1) := by decide +kernel
theorem dN_server_92 : decode prog_1_method_7_code 92 = .ok (.getfield 48, 3) := by decide +kernel
theorem dN_server_95 : decode prog_1_method_7_code 95 = .ok (.iload 6, 2) := by decide +kernel
theorem dN_server_97 : decode prog_1_method_7_code 97 = .ok (.aload 5, 2) := by decide +kernel
theorem dN_server_99 : decode prog_1_method_7_code 99 = .ok (.invokevirtual 161, 3) := by decide +kernel
theorem dN_server_102 : decode prog_1_method_7_code 102 = .ok (.pop, 1) := by decide +kernel
theorem dN_server_103 : decode prog_1_method_7_code 103 = .ok (.goto 30, 3) := by decide +kernel
theorem dN_server_106 : decode prog_1_method_7_code 106 = .ok (.aload_n 0, 1) := by decide +kernel
theorem dN_server_107 : decode prog_1_method_7_code 107 = .ok (.getfield 48, 3) := by decide +kernel
theorem dN_server_110 : decode prog_1_method_7_code 110 = .ok (.invokevirtual 165, 3) := by decide +kernel
theorem dN_server_113 : decode prog_1_method_7_code 113 = .ok (.bipush 12, 2) := by decide +kernel
theorem dN_server_115 : decode prog_1_method_7_code 115 = .ok (.if_icmp .ge 16, 3) := by decide +kernel
theorem dN_server_118 : decode prog_1_method_7_code 118 = .ok (.aload_n 0, 1) := by decide +kernel
theorem dN_server_119 : decode prog_1_method_7_code 119 = .ok (.getfield 48, 3) := by decide +kernel
theorem dN_server_122 : decode prog_1_method_7_code 122 = .ok (.aload 5, 2) := by decide +kernel
theorem dN_server_124 : decode prog_1_method_7_code 124 = .ok (.invokevirtual 168, 3) := by decide +kernel
theorem dN_server_127 : decode prog_1_method_7_code 127 = .ok (.pop, 1) := by decide +kernel
theorem dN_server_128 : decode prog_1_method_7_code 128 = .ok (.goto 5, 3) := by decide +kernel
theorem dN_server_131 : decode prog_1_method_7_code 131 = .ok (.iconst (-1), 1) := by decide +kernel
theorem dN_server_132 : decode prog_1_method_7_code 132 = .ok (.ireturn, 1) := by decide +kernel
theorem dN_server_133 : decode prog_1_method_7_code 133 = .ok (.aload_n 0, 1) := by decide +kernel
theorem dN_server_134 : decode prog_1_method_7_code 134 = .ok (.getfield 48, 3) := by decide +kernel
theorem dN_server_137 : decode prog_1_method_7_code 137 = .ok (.invokevirtual 165, 3) := by decide +kernel
theorem dN_server_140 : decode prog_1_method_7_code 140 = .ok (.ireturn, 1) := by decide +kernel
theorem dN_placeOfAnswer_0 : decode prog_1_method_17_code 0 = .ok (.iconst 0, 1) := by decide +kernel
theorem dN_placeOfAnswer_1 : decode prog_1_method_17_code 1 = .ok (.istore_n 2, 1) := by decide +kernel
theorem dN_placeOfAnswer_2 : decode prog_1_method_17_code 2 = .ok (.iload_n 2, 1) := by decide +kernel
theorem dN_placeOfAnswer_3 : decode prog_1_method_17_code 3 = .ok (.aload_n 0, 1) := by decide +kernel
theorem dN_placeOfAnswer_4 : decode prog_1_method_17_code 4 = .ok (.getfield 48, 3) := by decide +kernel
theorem dN_placeOfAnswer_7 : decode prog_1_method_17_code 7 = .ok (.invokevirtual 165, 3) := by decide +kernel
theorem dN_placeOfAnswer_10 : decode prog_1_method_17_code 10 = .ok (.if_icmp .ge 32, 3) := by decide +kernel
theorem dN_placeOfAnswer_13 : decode prog_1_method_17_code 13 = .ok (.aload_n 0, 1) := by decide +kernel
theorem dN_placeOfAnswer_14 : decode prog_1_method_17_code 14 = .ok (.getfield 48, 3) := by decide +kernel
theorem dN_placeOfAnswer_17 : decode prog_1_method_17_code 17 = .ok (.iload_n 2, 1) := by decide +kernel
theorem dN_placeOfAnswer_18 : decode prog_1_method_17_code 18 = .ok (.invokevirtual 206, 3) := by decide +kernel
theorem dN_placeOfAnswer_21 : decode prog_1_method_17_code 21 = .ok (.checkcast 33, 3) := by decide +kernel
theorem dN_placeOfAnswer_24 : decode prog_1_method_17_code 24 = .ok (.getfield 156, 3) := by decide +kernel
theorem dN_placeOfAnswer_27 : decode prog_1_method_17_code 27 = .ok (.aload_n 1, 1) := by decide +kernel
theorem dN_placeOfAnswer_28 : decode prog_1_method_17_code 28 = .ok (.invokevirtual 210, 3) := by decide +kernel
theorem dN_placeOfAnswer_31 : decode prog_1_method_17_code 31 = .ok (.ifCond .eq 5, 3) := by decide +kernel
theorem dN_placeOfAnswer_34 : decode prog_1_method_17_code 34 = .ok (.iload_n 2, 1) := by decide +kernel
theorem dN_placeOfAnswer_35 : decode prog_1_method_17_code 35 = .ok (.ireturn, 1) := by decide +kernel
theorem dN_placeOfAnswer_36 : decode prog_1_method_17_code 36 = .ok (.iinc 2 1, 3) := by decide +kernel
theorem dN_placeOfAnswer_39 : decode prog_1_method_17_code 39 = .ok (.goto (-37), 3) := by decide +kernel
theorem dN_placeOfAnswer_42 : decode prog_1_method_17_code 42 = .ok (.iconst (-1), 1) := by decide +kernel
theorem dN_placeOfAnswer_43 : decode prog_1_method_17_code 43 = .ok (.ireturn, 1) := by decide +kernel
theorem dN_fetch_0 : decode prog_1_method_8_code 0 = .ok (.aload_n 0, 1) := by decide +kernel
theorem dN_fetch_1 : decode prog_1_method_8_code 1 = .ok (.invokevirtual 114, 3) := by decide +kernel
theorem dN_fetch_4 : decode prog_1_method_8_code 4 = .ok (.astore_n 1, 1) := by decide +kernel
theorem dN_fetch_5 : decode prog_1_method_8_code 5 = .ok (.aload_n 1, 1) := by decide +kernel
theorem dN_fetch_6 : decode prog_1_method_8_code 6 = .ok (.invokestatic 118, 3) := by decide +kernel
theorem dN_fetch_9 : decode prog_1_method_8_code 9 = .ok (.istore_n 2, 1) := by decide +kernel
theorem dN_fetch_10 : decode prog_1_method_8_code 10 = .ok (.iload_n 2, 1) := by decide +kernel
theorem dN_fetch_11 : decode prog_1_method_8_code 11 = .ok (.iconst (-1), 1) := by decide +kernel
theorem dN_fetch_12 : decode prog_1_method_8_code 12 = .ok (.if_icmp .eq 9, 3) := by decide +kernel
theorem dN_fetch_15 : decode prog_1_method_8_code 15 = .ok (.sipush (-1000), 3) := by decide +kernel
theorem dN_fetch_18 : decode prog_1_method_8_code 18 = .ok (.iload_n 2, 1) := by decide +kernel
theorem dN_fetch_19 : decode prog_1_method_8_code 19 = .ok (.isub, 1) := by decide +kernel
theorem dN_fetch_20 : decode prog_1_method_8_code 20 = .ok (.ireturn, 1) := by decide +kernel
theorem dN_fetch_21 : decode prog_1_method_8_code 21 = .ok (.aload_n 1, 1) := by decide +kernel
theorem dN_fetch_22 : decode prog_1_method_8_code 22 = .ok (.aload_n 0, 1) := by decide +kernel
theorem dN_fetch_23 : decode prog_1_method_8_code 23 = .ok (.getfield 69, 3) := by decide +kernel
theorem dN_fetch_26 : decode prog_1_method_8_code 26 = .ok (.invokestatic 124, 3) := by decide +kernel
theorem dN_fetch_29 : decode prog_1_method_8_code 29 = .ok (.astore_n 3, 1) := by decide +kernel
theorem dN_fetch_30 : decode prog_1_method_8_code 30 = .ok (.aload_n 3, 1) := by decide +kernel
theorem dN_fetch_31 : decode prog_1_method_8_code 31 = .ok (.ifnonnull 5, 3) := by decide +kernel
theorem dN_fetch_34 : decode prog_1_method_8_code 34 = .ok (.iconst (-1), 1) := by decide +kernel
theorem dN_fetch_35 : decode prog_1_method_8_code 35 = .ok (.ireturn, 1) := by decide +kernel
theorem dN_fetch_36 : decode prog_1_method_8_code 36 = .ok (.aload_n 0, 1) := by decide +kernel
theorem dN_fetch_37 : decode prog_1_method_8_code 37 = .ok (.aload_n 3, 1) := by decide +kernel
theorem dN_fetch_38 : decode prog_1_method_8_code 38 = .ok (.invokevirtual 172, 3) := by decide +kernel
theorem dN_fetch_41 : decode prog_1_method_8_code 41 = .ok (.aload_n 0, 1) := by decide +kernel
theorem dN_fetch_42 : decode prog_1_method_8_code 42 = .ok (.getfield 82, 3) := by decide +kernel
theorem dN_fetch_45 : decode prog_1_method_8_code 45 = .ok (.getfield 176, 3) := by decide +kernel
theorem dN_fetch_48 : decode prog_1_method_8_code 48 = .ok (.invokevirtual 177, 3) := by decide +kernel
theorem dN_fetch_51 : decode prog_1_method_8_code 51 = .ok (.ireturn, 1) := by decide +kernel
theorem dN_follow_0 : decode prog_1_method_18_code 0 = .ok (.aload_n 1, 1) := by decide +kernel
theorem dN_follow_1 : decode prog_1_method_18_code 1 = .ok (.astore_n 2, 1) := by decide +kernel
theorem dN_follow_2 : decode prog_1_method_18_code 2 = .ok (.aload_n 0, 1) := by decide +kernel
theorem dN_follow_3 : decode prog_1_method_18_code 3 = .ok (.aload_n 2, 1) := by decide +kernel
theorem dN_follow_4 : decode prog_1_method_18_code 4 = .ok (.invokevirtual 214, 3) := by decide +kernel
theorem dN_follow_7 : decode prog_1_method_18_code 7 = .ok (.astore_n 3, 1) := by decide +kernel
theorem dN_follow_8 : decode prog_1_method_18_code 8 = .ok (.aload_n 0, 1) := by decide +kernel
theorem dN_follow_9 : decode prog_1_method_18_code 9 = .ok (.iconst 0, 1) := by decide +kernel
theorem dN_follow_10 : decode prog_1_method_18_code 10 = .ok (.putfield 92, 3) := by decide +kernel
theorem dN_follow_13 : decode prog_1_method_18_code 13 = .ok (.iconst 0, 1) := by decide +kernel
theorem dN_follow_14 : decode prog_1_method_18_code 14 = .ok (.istore 4, 2) := by decide +kernel
theorem dN_follow_16 : decode prog_1_method_18_code 16 = .ok (.iload 4, 2) := by decide +kernel
theorem dN_follow_18 : decode prog_1_method_18_code 18 = .ok (.iconst 5, 1) := by decide +kernel
theorem dN_follow_19 : decode prog_1_method_18_code 19 = .ok (.if_icmp .ge 37, 3) := by decide +kernel
theorem dN_follow_22 : decode prog_1_method_18_code 22 = .ok (.aload_n 3, 1) := by decide +kernel
theorem dN_follow_23 : decode prog_1_method_18_code 23 = .ok (.getfield 218, 3) := by decide +kernel
theorem dN_follow_26 : decode prog_1_method_18_code 26 = .ok (.ifnull 30, 3) := by decide +kernel
theorem dN_follow_29 : decode prog_1_method_18_code 29 = .ok (.aload_n 3, 1) := by decide +kernel
theorem dN_follow_30 : decode prog_1_method_18_code 30 = .ok (.getfield 218, 3) := by decide +kernel
theorem dN_follow_33 : decode prog_1_method_18_code 33 = .ok (.astore_n 2, 1) := by decide +kernel
theorem dN_follow_34 : decode prog_1_method_18_code 34 = .ok (.aload_n 0, 1) := by decide +kernel
theorem dN_follow_35 : decode prog_1_method_18_code 35 = .ok (.aload_n 2, 1) := by decide +kernel
theorem dN_follow_36 : decode prog_1_method_18_code 36 = .ok (.invokevirtual 214, 3) := by decide +kernel
theorem dN_follow_39 : decode prog_1_method_18_code 39 = .ok (.astore_n 3, 1) := by decide +kernel
theorem dN_follow_40 : decode prog_1_method_18_code 40 = .ok (.aload_n 0, 1) := by decide +kernel
theorem dN_follow_41 : decode prog_1_method_18_code 41 = .ok (.dup, 1) := by decide +kernel
theorem dN_follow_42 : decode prog_1_method_18_code 42 = .ok (.getfield 92, 3) := by decide +kernel
theorem dN_follow_45 : decode prog_1_method_18_code 45 = .ok (.iconst 1, 1) := by decide +kernel
theorem dN_follow_46 : decode prog_1_method_18_code 46 = .ok (.iadd, 1) := by decide +kernel
theorem dN_follow_47 : decode prog_1_method_18_code 47 = .ok (.putfield 92, 3) := by decide +kernel
theorem dN_follow_50 : decode prog_1_method_18_code 50 = .ok (.iinc 4 1, 3) := by decide +kernel
theorem dN_follow_53 : decode prog_1_method_18_code 53 = .ok (.goto (-37), 3) := by decide +kernel
theorem dN_follow_56 : decode prog_1_method_18_code 56 = .ok (.aload_n 0, 1) := by decide +kernel
theorem dN_follow_57 : decode prog_1_method_18_code 57 = .ok (.aload_n 3, 1) := by decide +kernel
theorem dN_follow_58 : decode prog_1_method_18_code 58 = .ok (.getfield 218, 3) := by decide +kernel
theorem dN_follow_61 : decode prog_1_method_18_code 61 = .ok (.ifnonnull 7, 3) := by decide +kernel
theorem dN_follow_64 : decode prog_1_method_18_code 64 = .ok (.aload_n 3, 1) := by decide +kernel
theorem dN_follow_65 : decode prog_1_method_18_code 65 = .ok (.goto 7, 3) := by decide +kernel
theorem dN_follow_68 : decode prog_1_method_18_code 68 = .ok (.aload_n 0, 1) := by decide +kernel
theorem dN_follow_69 : decode prog_1_method_18_code 69 = .ok (.getfield 41, 3) := by decide +kernel
theorem dN_follow_72 : decode prog_1_method_18_code 72 = .ok (.putfield 82, 3) := by decide +kernel
theorem dN_follow_75 : decode prog_1_method_18_code 75 = .ok (.aload_n 0, 1) := by decide +kernel
theorem dN_follow_76 : decode prog_1_method_18_code 76 = .ok (.aload_n 2, 1) := by decide +kernel
theorem dN_follow_77 : decode prog_1_method_18_code 77 = .ok (.putfield 85, 3) := by decide +kernel
theorem dN_follow_80 : decode prog_1_method_18_code 80 = .ok (.aload_n 0, 1) := by decide +kernel
theorem dN_follow_81 : decode prog_1_method_18_code 81 = .ok (.aload_n 1, 1) := by decide +kernel
theorem dN_follow_82 : decode prog_1_method_18_code 82 = .ok (.getfield 128, 3) := by decide +kernel
theorem dN_follow_85 : decode prog_1_method_18_code 85 = .ok (.putfield 88, 3) := by decide +kernel
theorem dN_follow_88 : decode prog_1_method_18_code 88 = .ok (.return_, 1) := by decide +kernel
theorem dN_answerFrom_0 : decode prog_1_method_19_code 0 = .ok (.aload_n 0, 1) := by decide +kernel
theorem dN_answerFrom_1 : decode prog_1_method_19_code 1 = .ok (.getfield 62, 3) := by decide +kernel
theorem dN_answerFrom_4 : decode prog_1_method_19_code 4 = .ok (.aload_n 1, 1) := by decide +kernel
theorem dN_answerFrom_5 : decode prog_1_method_19_code 5 = .ok (.aload_n 0, 1) := by decide +kernel
theorem dN_answerFrom_6 : decode prog_1_method_19_code 6 = .ok (.getfield 72, 3) := by decide +kernel
theorem dN_answerFrom_9 : decode prog_1_method_19_code 9 = .ok (.invokevirtual 221, 3) := by decide +kernel
theorem dN_answerFrom_12 : decode prog_1_method_19_code 12 = .ok (.astore_n 2, 1) := by decide +kernel
theorem dN_answerFrom_13 : decode prog_1_method_19_code 13 = .ok (.aload_n 0, 1) := by decide +kernel
theorem dN_answerFrom_14 : decode prog_1_method_19_code 14 = .ok (.aload_n 2, 1) := by decide +kernel
theorem dN_answerFrom_15 : decode prog_1_method_19_code 15 = .ok (.ifnull 7, 3) := by decide +kernel
theorem dN_answerFrom_18 : decode prog_1_method_19_code 18 = .ok (.iconst 1, 1) := by decide +kernel
theorem dN_answerFrom_19 : decode prog_1_method_19_code 19 = .ok (.goto 4, 3) := by decide +kernel
theorem dN_answerFrom_22 : decode prog_1_method_19_code 22 = .ok (.iconst 0, 1) := by decide +kernel
theorem dN_answerFrom_23 : decode prog_1_method_19_code 23 = .ok (.putfield 95, 3) := by decide +kernel
theorem dN_answerFrom_26 : decode prog_1_method_19_code 26 = .ok (.aload_n 2, 1) := by decide +kernel
theorem dN_answerFrom_27 : decode prog_1_method_19_code 27 = .ok (.ifnull 5, 3) := by decide +kernel
theorem dN_answerFrom_30 : decode prog_1_method_19_code 30 = .ok (.aload_n 2, 1) := by decide +kernel
theorem dN_answerFrom_31 : decode prog_1_method_19_code 31 = .ok (.areturn, 1) := by decide +kernel
theorem dN_answerFrom_32 : decode prog_1_method_19_code 32 = .ok (.aload_n 0, 1) := by decide +kernel
theorem dN_answerFrom_33 : decode prog_1_method_19_code 33 = .ok (.aload_n 1, 1) := by decide +kernel
theorem dN_answerFrom_34 : decode prog_1_method_19_code 34 = .ok (.invokevirtual 225, 3) := by decide +kernel
theorem dN_answerFrom_37 : decode prog_1_method_19_code 37 = .ok (.areturn, 1) := by decide +kernel
theorem dKp_fresh_0 : decode prog_7_method_3_code 0 = .ok (.aload_n 0, 1) := by decide +kernel
theorem dKp_fresh_1 : decode prog_7_method_3_code 1 = .ok (.aload_n 1, 1) := by decide +kernel
theorem dKp_fresh_2 : decode prog_7_method_3_code 2 = .ok (.invokevirtual 22, 3) := by decide +kernel
theorem dKp_fresh_5 : decode prog_7_method_3_code 5 = .ok (.istore_n 3, 1) := by decide +kernel
theorem dKp_fresh_6 : decode prog_7_method_3_code 6 = .ok (.iload_n 3, 1) := by decide +kernel
theorem dKp_fresh_7 : decode prog_7_method_3_code 7 = .ok (.iconst (-1), 1) := by decide +kernel
theorem dKp_fresh_8 : decode prog_7_method_3_code 8 = .ok (.if_icmp .eq 21, 3) := by decide +kernel
theorem dKp_fresh_11 : decode prog_7_method_3_code 11 = .ok (.aload_n 0, 1) := by decide +kernel
theorem dKp_fresh_12 : decode prog_7_method_3_code 12 = .ok (.getfield 12, 3) := by decide +kernel
theorem dKp_fresh_15 : decode prog_7_method_3_code 15 = .ok (.iload_n 3, 1) := by decide +kernel
theorem dKp_fresh_16 : decode prog_7_method_3_code 16 = .ok (.invokevirtual 26, 3) := by decide +kernel
theorem dKp_fresh_19 : decode prog_7_method_3_code 19 = .ok (.checkcast 30, 3) := by decide +kernel
theorem dKp_fresh_22 : decode prog_7_method_3_code 22 = .ok (.getfield 32, 3) := by decide +kernel
theorem dKp_fresh_25 : decode prog_7_method_3_code 25 = .ok (.iload_n 2, 1) := by decide +kernel
theorem dKp_fresh_26 : decode prog_7_method_3_code 26 = .ok (.if_icmp .gt 5, 3) := by decide +kernel
theorem dKp_fresh_29 : decode prog_7_method_3_code 29 = .ok (.aconst_null, 1) := by decide +kernel
theorem dKp_fresh_30 : decode prog_7_method_3_code 30 = .ok (.areturn, 1) := by decide +kernel
theorem dKp_fresh_31 : decode prog_7_method_3_code 31 = .ok (.aload_n 0, 1) := by decide +kernel
theorem dKp_fresh_32 : decode prog_7_method_3_code 32 = .ok (.getfield 12, 3) := by decide +kernel
theorem dKp_fresh_35 : decode prog_7_method_3_code 35 = .ok (.iload_n 3, 1) := by decide +kernel
theorem dKp_fresh_36 : decode prog_7_method_3_code 36 = .ok (.invokevirtual 26, 3) := by decide +kernel
theorem dKp_fresh_39 : decode prog_7_method_3_code 39 = .ok (.checkcast 30, 3) := by decide +kernel
theorem dKp_fresh_42 : decode prog_7_method_3_code 42 = .ok (.getfield 36, 3) := by decide +kernel
theorem dKp_fresh_45 : decode prog_7_method_3_code 45 = .ok (.areturn, 1) := by decide +kernel
theorem dKp_placeOf_0 : decode prog_7_method_5_code 0 = .ok (.iconst 0, 1) := by decide +kernel
theorem dKp_placeOf_1 : decode prog_7_method_5_code 1 = .ok (.istore_n 2, 1) := by decide +kernel
theorem dKp_placeOf_2 : decode prog_7_method_5_code 2 = .ok (.iload_n 2, 1) := by decide +kernel
theorem dKp_placeOf_3 : decode prog_7_method_5_code 3 = .ok (.aload_n 0, 1) := by decide +kernel
theorem dKp_placeOf_4 : decode prog_7_method_5_code 4 = .ok (.getfield 12, 3) := by decide +kernel
theorem dKp_placeOf_7 : decode prog_7_method_5_code 7 = .ok (.invokevirtual 18, 3) := by decide +kernel
theorem dKp_placeOf_10 : decode prog_7_method_5_code 10 = .ok (.if_icmp .ge 35, 3) := by decide +kernel
theorem dKp_placeOf_13 : decode prog_7_method_5_code 13 = .ok (.aload_n 0, 1) := by decide +kernel
theorem dKp_placeOf_14 : decode prog_7_method_5_code 14 = .ok (.getfield 12, 3) := by decide +kernel
theorem dKp_placeOf_17 : decode prog_7_method_5_code 17 = .ok (.iload_n 2, 1) := by decide +kernel
theorem dKp_placeOf_18 : decode prog_7_method_5_code 18 = .ok (.invokevirtual 26, 3) := by decide +kernel
theorem dKp_placeOf_21 : decode prog_7_method_5_code 21 = .ok (.checkcast 30, 3) := by decide +kernel
theorem dKp_placeOf_24 : decode prog_7_method_5_code 24 = .ok (.getfield 36, 3) := by decide +kernel
theorem dKp_placeOf_27 : decode prog_7_method_5_code 27 = .ok (.getfield 40, 3) := by decide +kernel
theorem dKp_placeOf_30 : decode prog_7_method_5_code 30 = .ok (.aload_n 1, 1) := by decide +kernel
theorem dKp_placeOf_31 : decode prog_7_method_5_code 31 = .ok (.invokevirtual 53, 3) := by decide +kernel
theorem dKp_placeOf_34 : decode prog_7_method_5_code 34 = .ok (.ifCond .eq 5, 3) := by decide +kernel
theorem dKp_placeOf_37 : decode prog_7_method_5_code 37 = .ok (.iload_n 2, 1) := by decide +kernel
theorem dKp_placeOf_38 : decode prog_7_method_5_code 38 = .ok (.ireturn, 1) := by decide +kernel
theorem dKp_placeOf_39 : decode prog_7_method_5_code 39 = .ok (.iinc 2 1, 3) := by decide +kernel
theorem dKp_placeOf_42 : decode prog_7_method_5_code 42 = .ok (.goto (-40), 3) := by decide +kernel
theorem dKp_placeOf_45 : decode prog_7_method_5_code 45 = .ok (.iconst (-1), 1) := by decide +kernel
theorem dKp_placeOf_46 : decode prog_7_method_5_code 46 = .ok (.ireturn, 1) := by decide +kernel
theorem dN_request_0 : decode prog_1_method_20_code 0 = .ok (.aload_n 0, 1) := by decide +kernel
theorem dN_request_1 : decode prog_1_method_20_code 1 = .ok (.dup, 1) := by decide +kernel
theorem dN_request_2 : decode prog_1_method_20_code 2 = .ok (.getfield 76, 3) := by decide +kernel
theorem dN_request_5 : decode prog_1_method_20_code 5 = .ok (.iconst 1, 1) := by decide +kernel
theorem dN_request_6 : decode prog_1_method_20_code 6 = .ok (.iadd, 1) := by decide +kernel
theorem dN_request_7 : decode prog_1_method_20_code 7 = .ok (.putfield 76, 3) := by decide +kernel
theorem dN_request_10 : decode prog_1_method_20_code 10 = .ok (.aload_n 0, 1) := by decide +kernel
theorem dN_request_11 : decode prog_1_method_20_code 11 = .ok (.aload_n 1, 1) := by decide +kernel
theorem dN_request_12 : decode prog_1_method_20_code 12 = .ok (.putfield 79, 3) := by decide +kernel
theorem dN_request_15 : decode prog_1_method_20_code 15 = .ok (.aload_n 0, 1) := by decide +kernel
theorem dN_request_16 : decode prog_1_method_20_code 16 = .ok (.getfield 66, 3) := by decide +kernel
theorem dN_request_19 : decode prog_1_method_20_code 19 = .ok (.iconst 0, 1) := by decide +kernel
theorem dN_request_20 : decode prog_1_method_20_code 20 = .ok (.invokevirtual 107, 3) := by decide +kernel
theorem dN_request_23 : decode prog_1_method_20_code 23 = .ok (.aload_n 0, 1) := by decide +kernel
theorem dN_request_24 : decode prog_1_method_20_code 24 = .ok (.getfield 55, 3) := by decide +kernel
theorem dN_request_27 : decode prog_1_method_20_code 27 = .ok (.aload_n 1, 1) := by decide +kernel
theorem dN_request_28 : decode prog_1_method_20_code 28 = .ok (.getfield 228, 3) := by decide +kernel
theorem dN_request_31 : decode prog_1_method_20_code 31 = .ok (.aload_n 0, 1) := by decide +kernel
theorem dN_request_32 : decode prog_1_method_20_code 32 = .ok (.getfield 66, 3) := by decide +kernel
theorem dN_request_35 : decode prog_1_method_20_code 35 = .ok (.invokevirtual 231, 3) := by decide +kernel
theorem dN_request_38 : decode prog_1_method_20_code 38 = .ok (.aload_n 0, 1) := by decide +kernel
theorem dN_request_39 : decode prog_1_method_20_code 39 = .ok (.aload_n 1, 1) := by decide +kernel
theorem dN_request_40 : decode prog_1_method_20_code 40 = .ok (.invokevirtual 157, 3) := by decide +kernel
theorem dN_request_43 : decode prog_1_method_20_code 43 = .ok (.istore_n 2, 1) := by decide +kernel
theorem dN_request_44 : decode prog_1_method_20_code 44 = .ok (.iload_n 2, 1) := by decide +kernel
theorem dN_request_45 : decode prog_1_method_20_code 45 = .ok (.iconst (-1), 1) := by decide +kernel
theorem dN_request_46 : decode prog_1_method_20_code 46 = .ok (.if_icmp .ne 8, 3) := by decide +kernel
theorem dN_request_49 : decode prog_1_method_20_code 49 = .ok (.aload_n 0, 1) := by decide +kernel
theorem dN_request_50 : decode prog_1_method_20_code 50 = .ok (.getfield 41, 3) := by decide +kernel
theorem dN_request_53 : decode prog_1_method_20_code 53 = .ok (.areturn, 1) := by decide +kernel
theorem dN_request_54 : decode prog_1_method_20_code 54 = .ok (.aload_n 0, 1) := by decide +kernel
theorem dN_request_55 : decode prog_1_method_20_code 55 = .ok (.getfield 48, 3) := by decide +kernel
theorem dN_request_58 : decode prog_1_method_20_code 58 = .ok (.iload_n 2, 1) := by decide +kernel
theorem dN_request_59 : decode prog_1_method_20_code 59 = .ok (.invokevirtual 206, 3) := by decide +kernel
theorem dN_request_62 : decode prog_1_method_20_code 62 = .ok (.checkcast 33, 3) := by decide +kernel
theorem dN_request_65 : decode prog_1_method_20_code 65 = .ok (.astore_n 3, 1) := by decide +kernel
theorem dN_request_66 : decode prog_1_method_20_code 66 = .ok (.aload_n 3, 1) := by decide +kernel
theorem dN_request_67 : decode prog_1_method_20_code 67 = .ok (.getfield 235, 3) := by decide +kernel
theorem dN_request_70 : decode prog_1_method_20_code 70 = .ok (.invokevirtual 238, 3) := by decide +kernel
theorem dN_request_73 : decode prog_1_method_20_code 73 = .ok (.ifCond .ne 29, 3) := by decide +kernel
theorem dN_request_76 : decode prog_1_method_20_code 76 = .ok (.aload_n 0, 1) := by decide +kernel
theorem dN_request_77 : decode prog_1_method_20_code 77 = .ok (.getfield 55, 3) := by decide +kernel
theorem dN_request_80 : decode prog_1_method_20_code 80 = .ok (.new 242, 3) := by decide +kernel
theorem dN_request_83 : decode prog_1_method_20_code 83 = .ok (.dup, 1) := by decide +kernel
theorem dN_request_84 : decode prog_1_method_20_code 84 = .ok (.aload_n 1, 1) := by decide +kernel
theorem dN_request_85 : decode prog_1_method_20_code 85 = .ok (.getfield 228, 3) := by decide +kernel
theorem dN_request_88 : decode prog_1_method_20_code 88 = .ok (.aload_n 3, 1) := by decide +kernel
theorem dN_request_89 : decode prog_1_method_20_code 89 = .ok (.getfield 235, 3) := by decide +kernel
theorem dN_request_92 : decode prog_1_method_20_code 92 = .ok (.aload_n 3, 1) := by decide +kernel
theorem dN_request_93 : decode prog_1_method_20_code 93 = .ok (.getfield 244, 3) := by decide +kernel
theorem dN_request_96 : decode prog_1_method_20_code 96 = .ok (.invokespecial 247, 3) := by decide +kernel
theorem dN_request_99 : decode prog_1_method_20_code 99 = .ok (.invokevirtual 250, 3) := by decide +kernel
theorem dN_request_102 : decode prog_1_method_20_code 102 = .ok (.aload_n 3, 1) := by decide +kernel
theorem dN_request_103 : decode prog_1_method_20_code 103 = .ok (.getfield 254, 3) := by decide +kernel
theorem dN_request_106 : decode prog_1_method_20_code 106 = .ok (.ifCond .le 27, 3) := by decide +kernel
theorem dN_request_109 : decode prog_1_method_20_code 109 = .ok (.aload_n 0, 1) := by decide +kernel
theorem dN_request_110 : decode prog_1_method_20_code 110 = .ok (.getfield 62, 3) := by decide +kernel
theorem dN_request_113 : decode prog_1_method_20_code 113 = .ok (.new 257, 3) := by decide +kernel
theorem dN_request_116 : decode prog_1_method_20_code 116 = .ok (.dup, 1) := by decide +kernel
theorem dN_request_117 : decode prog_1_method_20_code 117 = .ok (.aload_n 3, 1) := by decide +kernel
theorem dN_request_118 : decode prog_1_method_20_code 118 = .ok (.aload_n 0, 1) := by decide +kernel
theorem dN_request_119 : decode prog_1_method_20_code 119 = .ok (.getfield 72, 3) := by decide +kernel
theorem dN_request_122 : decode prog_1_method_20_code 122 = .ok (.aload_n 3, 1) := by decide +kernel
theorem dN_request_123 : decode prog_1_method_20_code 123 = .ok (.getfield 254, 3) := by decide +kernel
theorem dN_request_126 : decode prog_1_method_20_code 126 = .ok (.iadd, 1) := by decide +kernel
theorem dN_request_127 : decode prog_1_method_20_code 127 = .ok (.invokespecial 259, 3) := by decide +kernel
theorem dN_request_130 : decode prog_1_method_20_code 130 = .ok (.invokevirtual 262, 3) := by decide +kernel
theorem dN_request_133 : decode prog_1_method_20_code 133 = .ok (.aload_n 3, 1) := by decide +kernel
theorem dN_request_134 : decode prog_1_method_20_code 134 = .ok (.areturn, 1) := by decide +kernel
theorem dJr_tell_0 : decode prog_6_method_4_code 0 = .ok (.iconst 0, 1) := by decide +kernel
theorem dJr_tell_1 : decode prog_6_method_4_code 1 = .ok (.istore_n 3, 1) := by decide +kernel
theorem dJr_tell_2 : decode prog_6_method_4_code 2 = .ok (.iload_n 3, 1) := by decide +kernel
theorem dJr_tell_3 : decode prog_6_method_4_code 3 = .ok (.aload_n 0, 1) := by decide +kernel
theorem dJr_tell_4 : decode prog_6_method_4_code 4 = .ok (.getfield 12, 3) := by decide +kernel
theorem dJr_tell_7 : decode prog_6_method_4_code 7 = .ok (.invokevirtual 18, 3) := by decide +kernel
theorem dJr_tell_10 : decode prog_6_method_4_code 10 = .ok (.if_icmp .ge 75, 3) := by decide +kernel
theorem dJr_tell_13 : decode prog_6_method_4_code 13 = .ok (.aload_n 0, 1) := by decide +kernel
theorem dJr_tell_14 : decode prog_6_method_4_code 14 = .ok (.getfield 12, 3) := by decide +kernel
theorem dJr_tell_17 : decode prog_6_method_4_code 17 = .ok (.iload_n 3, 1) := by decide +kernel
theorem dJr_tell_18 : decode prog_6_method_4_code 18 = .ok (.invokevirtual 22, 3) := by decide +kernel
theorem dJr_tell_21 : decode prog_6_method_4_code 21 = .ok (.checkcast 26, 3) := by decide +kernel
theorem dJr_tell_24 : decode prog_6_method_4_code 24 = .ok (.astore 4, 2) := by decide +kernel
theorem dJr_tell_26 : decode prog_6_method_4_code 26 = .ok (.aload 4, 2) := by decide +kernel
theorem dJr_tell_28 : decode prog_6_method_4_code 28 = .ok (.getfield 28, 3) := by decide +kernel
theorem dJr_tell_31 : decode prog_6_method_4_code 31 = .ok (.aload_n 1, 1) := by decide +kernel
theorem dJr_tell_32 : decode prog_6_method_4_code 32 = .ok (.invokevirtual 32, 3) := by decide +kernel
theorem dJr_tell_35 : decode prog_6_method_4_code 35 = .ok (.ifCond .eq 44, 3) := by decide +kernel
theorem dJr_tell_38 : decode prog_6_method_4_code 38 = .ok (.aload_n 2, 1) := by decide +kernel
theorem dJr_tell_39 : decode prog_6_method_4_code 39 = .ok (.invokevirtual 48, 3) := by decide +kernel
theorem dJr_tell_42 : decode prog_6_method_4_code 42 = .ok (.ifCond .le 10, 3) := by decide +kernel
theorem dJr_tell_45 : decode prog_6_method_4_code 45 = .ok (.aload_n 2, 1) := by decide +kernel
theorem dJr_tell_46 : decode prog_6_method_4_code 46 = .ok (.bipush 59, 2) := by decide +kernel
theorem dJr_tell_48 : decode prog_6_method_4_code 48 = .ok (.invokevirtual 53, 3) := by decide +kernel
theorem dJr_tell_51 : decode prog_6_method_4_code 51 = .ok (.pop, 1) := by decide +kernel
theorem dJr_tell_52 : decode prog_6_method_4_code 52 = .ok (.aload_n 2, 1) := by decide +kernel
theorem dJr_tell_53 : decode prog_6_method_4_code 53 = .ok (.aload 4, 2) := by decide +kernel
theorem dJr_tell_55 : decode prog_6_method_4_code 55 = .ok (.getfield 38, 3) := by decide +kernel
theorem dJr_tell_58 : decode prog_6_method_4_code 58 = .ok (.invokevirtual 57, 3) := by decide +kernel
theorem dJr_tell_61 : decode prog_6_method_4_code 61 = .ok (.pop, 1) := by decide +kernel
theorem dJr_tell_62 : decode prog_6_method_4_code 62 = .ok (.aload_n 2, 1) := by decide +kernel
theorem dJr_tell_63 : decode prog_6_method_4_code 63 = .ok (.bipush 61, 2) := by decide +kernel
theorem dJr_tell_65 : decode prog_6_method_4_code 65 = .ok (.invokevirtual 53, 3) := by decide +kernel
theorem dJr_tell_68 : decode prog_6_method_4_code 68 = .ok (.pop, 1) := by decide +kernel
theorem dJr_tell_69 : decode prog_6_method_4_code 69 = .ok (.aload_n 2, 1) := by decide +kernel
theorem dJr_tell_70 : decode prog_6_method_4_code 70 = .ok (.aload 4, 2) := by decide +kernel
theorem dJr_tell_72 : decode prog_6_method_4_code 72 = .ok (.getfield 60, 3) := by decide +kernel
theorem dJr_tell_75 : decode prog_6_method_4_code 75 = .ok (.invokevirtual 57, 3) := by decide +kernel
theorem dJr_tell_78 : decode prog_6_method_4_code 78 = .ok (.pop, 1) := by decide +kernel
theorem dJr_tell_79 : decode prog_6_method_4_code 79 = .ok (.iinc 3 1, 3) := by decide +kernel
theorem dJr_tell_82 : decode prog_6_method_4_code 82 = .ok (.goto (-80), 3) := by decide +kernel
theorem dJr_tell_85 : decode prog_6_method_4_code 85 = .ok (.return_, 1) := by decide +kernel
theorem dJr_put_0 : decode prog_6_method_3_code 0 = .ok (.iconst 0, 1) := by decide +kernel
theorem dJr_put_1 : decode prog_6_method_3_code 1 = .ok (.istore_n 2, 1) := by decide +kernel
theorem dJr_put_2 : decode prog_6_method_3_code 2 = .ok (.iload_n 2, 1) := by decide +kernel
theorem dJr_put_3 : decode prog_6_method_3_code 3 = .ok (.aload_n 0, 1) := by decide +kernel
theorem dJr_put_4 : decode prog_6_method_3_code 4 = .ok (.getfield 12, 3) := by decide +kernel
theorem dJr_put_7 : decode prog_6_method_3_code 7 = .ok (.invokevirtual 18, 3) := by decide +kernel
theorem dJr_put_10 : decode prog_6_method_3_code 10 = .ok (.if_icmp .ge 60, 3) := by decide +kernel
theorem dJr_put_13 : decode prog_6_method_3_code 13 = .ok (.aload_n 0, 1) := by decide +kernel
theorem dJr_put_14 : decode prog_6_method_3_code 14 = .ok (.getfield 12, 3) := by decide +kernel
theorem dJr_put_17 : decode prog_6_method_3_code 17 = .ok (.iload_n 2, 1) := by decide +kernel
theorem dJr_put_18 : decode prog_6_method_3_code 18 = .ok (.invokevirtual 22, 3) := by decide +kernel
theorem dJr_put_21 : decode prog_6_method_3_code 21 = .ok (.checkcast 26, 3) := by decide +kernel
theorem dJr_put_24 : decode prog_6_method_3_code 24 = .ok (.astore_n 3, 1) := by decide +kernel
theorem dJr_put_25 : decode prog_6_method_3_code 25 = .ok (.aload_n 3, 1) := by decide +kernel
theorem dJr_put_26 : decode prog_6_method_3_code 26 = .ok (.getfield 28, 3) := by decide +kernel
theorem dJr_put_29 : decode prog_6_method_3_code 29 = .ok (.aload_n 1, 1) := by decide +kernel
theorem dJr_put_30 : decode prog_6_method_3_code 30 = .ok (.getfield 28, 3) := by decide +kernel
theorem dJr_put_33 : decode prog_6_method_3_code 33 = .ok (.invokevirtual 32, 3) := by decide +kernel
theorem dJr_put_36 : decode prog_6_method_3_code 36 = .ok (.ifCond .eq 28, 3) := by decide +kernel
theorem dJr_put_39 : decode prog_6_method_3_code 39 = .ok (.aload_n 3, 1) := by decide +kernel
theorem dJr_put_40 : decode prog_6_method_3_code 40 = .ok (.getfield 38, 3) := by decide +kernel
theorem dJr_put_43 : decode prog_6_method_3_code 43 = .ok (.aload_n 1, 1) := by decide +kernel
theorem dJr_put_44 : decode prog_6_method_3_code 44 = .ok (.getfield 38, 3) := by decide +kernel
theorem dJr_put_47 : decode prog_6_method_3_code 47 = .ok (.invokevirtual 32, 3) := by decide +kernel
theorem dJr_put_50 : decode prog_6_method_3_code 50 = .ok (.ifCond .eq 14, 3) := by decide +kernel
theorem dJr_put_53 : decode prog_6_method_3_code 53 = .ok (.aload_n 0, 1) := by decide +kernel
theorem dJr_put_54 : decode prog_6_method_3_code 54 = .ok (.getfield 12, 3) := by decide +kernel
theorem dJr_put_57 : decode prog_6_method_3_code 57 = .ok (.iload_n 2, 1) := by decide +kernel
theorem dJr_put_58 : decode prog_6_method_3_code 58 = .ok (.aload_n 1, 1) := by decide +kernel
theorem dJr_put_59 : decode prog_6_method_3_code 59 = .ok (.invokevirtual 41, 3) := by decide +kernel
theorem dJr_put_62 : decode prog_6_method_3_code 62 = .ok (.pop, 1) := by decide +kernel
theorem dJr_put_63 : decode prog_6_method_3_code 63 = .ok (.return_, 1) := by decide +kernel
theorem dJr_put_64 : decode prog_6_method_3_code 64 = .ok (.iinc 2 1, 3) := by decide +kernel
theorem dJr_put_67 : decode prog_6_method_3_code 67 = .ok (.goto (-65), 3) := by decide +kernel
theorem dJr_put_70 : decode prog_6_method_3_code 70 = .ok (.aload_n 0, 1) := by decide +kernel
theorem dJr_put_71 : decode prog_6_method_3_code 71 = .ok (.getfield 12, 3) := by decide +kernel
theorem dJr_put_74 : decode prog_6_method_3_code 74 = .ok (.invokevirtual 18, 3) := by decide +kernel
theorem dJr_put_77 : decode prog_6_method_3_code 77 = .ok (.bipush 20, 2) := by decide +kernel
theorem dJr_put_79 : decode prog_6_method_3_code 79 = .ok (.if_icmp .ge 12, 3) := by decide +kernel
theorem dJr_put_82 : decode prog_6_method_3_code 82 = .ok (.aload_n 0, 1) := by decide +kernel
theorem dJr_put_83 : decode prog_6_method_3_code 83 = .ok (.getfield 12, 3) := by decide +kernel
theorem dJr_put_86 : decode prog_6_method_3_code 86 = .ok (.aload_n 1, 1) := by decide +kernel
theorem dJr_put_87 : decode prog_6_method_3_code 87 = .ok (.invokevirtual 45, 3) := by decide +kernel
theorem dJr_put_90 : decode prog_6_method_3_code 90 = .ok (.pop, 1) := by decide +kernel
theorem dJr_put_91 : decode prog_6_method_3_code 91 = .ok (.return_, 1) := by decide +kernel
theorem dKp_put_0 : decode prog_7_method_4_code 0 = .ok (.aload_n 0, 1) := by decide +kernel
theorem dKp_put_1 : decode prog_7_method_4_code 1 = .ok (.aload_n 1, 1) := by decide +kernel
theorem dKp_put_2 : decode prog_7_method_4_code 2 = .ok (.getfield 36, 3) := by decide +kernel
theorem dKp_put_5 : decode prog_7_method_4_code 5 = .ok (.getfield 40, 3) := by decide +kernel
theorem dKp_put_8 : decode prog_7_method_4_code 8 = .ok (.invokevirtual 22, 3) := by decide +kernel
theorem dKp_put_11 : decode prog_7_method_4_code 11 = .ok (.istore_n 2, 1) := by decide +kernel
theorem dKp_put_12 : decode prog_7_method_4_code 12 = .ok (.iload_n 2, 1) := by decide +kernel
theorem dKp_put_13 : decode prog_7_method_4_code 13 = .ok (.iconst (-1), 1) := by decide +kernel
theorem dKp_put_14 : decode prog_7_method_4_code 14 = .ok (.if_icmp .eq 15, 3) := by decide +kernel
theorem dKp_put_17 : decode prog_7_method_4_code 17 = .ok (.aload_n 0, 1) := by decide +kernel
theorem dKp_put_18 : decode prog_7_method_4_code 18 = .ok (.getfield 12, 3) := by decide +kernel
theorem dKp_put_21 : decode prog_7_method_4_code 21 = .ok (.iload_n 2, 1) := by decide +kernel
theorem dKp_put_22 : decode prog_7_method_4_code 22 = .ok (.invokevirtual 46, 3) := by decide +kernel
theorem dKp_put_25 : decode prog_7_method_4_code 25 = .ok (.pop, 1) := by decide +kernel
theorem dKp_put_26 : decode prog_7_method_4_code 26 = .ok (.goto 24, 3) := by decide +kernel
theorem dKp_put_29 : decode prog_7_method_4_code 29 = .ok (.aload_n 0, 1) := by decide +kernel
theorem dKp_put_30 : decode prog_7_method_4_code 30 = .ok (.getfield 12, 3) := by decide +kernel
theorem dKp_put_33 : decode prog_7_method_4_code 33 = .ok (.invokevirtual 18, 3) := by decide +kernel
theorem dKp_put_36 : decode prog_7_method_4_code 36 = .ok (.bipush 8, 2) := by decide +kernel
theorem dKp_put_38 : decode prog_7_method_4_code 38 = .ok (.if_icmp .lt 12, 3) := by decide +kernel
theorem dKp_put_41 : decode prog_7_method_4_code 41 = .ok (.aload_n 0, 1) := by decide +kernel
theorem dKp_put_42 : decode prog_7_method_4_code 42 = .ok (.getfield 12, 3) := by decide +kernel
theorem dKp_put_45 : decode prog_7_method_4_code 45 = .ok (.iconst 0, 1) := by decide +kernel
theorem dKp_put_46 : decode prog_7_method_4_code 46 = .ok (.invokevirtual 46, 3) := by decide +kernel
theorem dKp_put_49 : decode prog_7_method_4_code 49 = .ok (.pop, 1) := by decide +kernel
theorem dKp_put_50 : decode prog_7_method_4_code 50 = .ok (.aload_n 0, 1) := by decide +kernel
theorem dKp_put_51 : decode prog_7_method_4_code 51 = .ok (.getfield 12, 3) := by decide +kernel
theorem dKp_put_54 : decode prog_7_method_4_code 54 = .ok (.aload_n 1, 1) := by decide +kernel
theorem dKp_put_55 : decode prog_7_method_4_code 55 = .ok (.invokevirtual 49, 3) := by decide +kernel
theorem dKp_put_58 : decode prog_7_method_4_code 58 = .ok (.pop, 1) := by decide +kernel
theorem dKp_put_59 : decode prog_7_method_4_code 59 = .ok (.return_, 1) := by decide +kernel
theorem dN_body_0 : decode prog_1_method_9_code 0 = .ok (.iload_n 1, 1) := by decide +kernel
theorem dN_body_1 : decode prog_1_method_9_code 1 = .ok (.ifCond .lt 17, 3) := by decide +kernel
theorem dN_body_4 : decode prog_1_method_9_code 4 = .ok (.iload_n 1, 1) := by decide +kernel
theorem dN_body_5 : decode prog_1_method_9_code 5 = .ok (.aload_n 0, 1) := by decide +kernel
theorem dN_body_6 : decode prog_1_method_9_code 6 = .ok (.getfield 82, 3) := by decide +kernel
theorem dN_body_9 : decode prog_1_method_9_code 9 = .ok (.getfield 176, 3) := by decide +kernel
theorem dN_body_12 : decode prog_1_method_9_code 12 = .ok (.invokevirtual 177, 3) := by decide +kernel
theorem dN_body_15 : decode prog_1_method_9_code 15 = .ok (.if_icmp .lt 5, 3) := by decide +kernel
theorem dN_body_18 : decode prog_1_method_9_code 18 = .ok (.iconst (-1), 1) := by decide +kernel
theorem dN_body_19 : decode prog_1_method_9_code 19 = .ok (.ireturn, 1) := by decide +kernel
theorem dN_body_20 : decode prog_1_method_9_code 20 = .ok (.aload_n 0, 1) := by decide +kernel
theorem dN_body_21 : decode prog_1_method_9_code 21 = .ok (.getfield 82, 3) := by decide +kernel
theorem dN_body_24 : decode prog_1_method_9_code 24 = .ok (.getfield 176, 3) := by decide +kernel
theorem dN_body_27 : decode prog_1_method_9_code 27 = .ok (.iload_n 1, 1) := by decide +kernel
theorem dN_body_28 : decode prog_1_method_9_code 28 = .ok (.invokevirtual 180, 3) := by decide +kernel
theorem dN_body_31 : decode prog_1_method_9_code 31 = .ok (.ireturn, 1) := by decide +kernel
theorem dN_tick_0 : decode prog_1_method_10_code 0 = .ok (.iload_n 1, 1) := by decide +kernel
theorem dN_tick_1 : decode prog_1_method_10_code 1 = .ok (.ifCond .lt 10, 3) := by decide +kernel
theorem dN_tick_4 : decode prog_1_method_10_code 4 = .ok (.iload_n 1, 1) := by decide +kernel
theorem dN_tick_5 : decode prog_1_method_10_code 5 = .ok (.sipush 1000, 3) := by decide +kernel
theorem dN_tick_8 : decode prog_1_method_10_code 8 = .ok (.if_icmp .le 5, 3) := by decide +kernel
theorem dN_tick_11 : decode prog_1_method_10_code 11 = .ok (.iconst (-1), 1) := by decide +kernel
theorem dN_tick_12 : decode prog_1_method_10_code 12 = .ok (.ireturn, 1) := by decide +kernel
theorem dN_tick_13 : decode prog_1_method_10_code 13 = .ok (.aload_n 0, 1) := by decide +kernel
theorem dN_tick_14 : decode prog_1_method_10_code 14 = .ok (.dup, 1) := by decide +kernel
theorem dN_tick_15 : decode prog_1_method_10_code 15 = .ok (.getfield 72, 3) := by decide +kernel
theorem dN_tick_18 : decode prog_1_method_10_code 18 = .ok (.iload_n 1, 1) := by decide +kernel
theorem dN_tick_19 : decode prog_1_method_10_code 19 = .ok (.iadd, 1) := by decide +kernel
theorem dN_tick_20 : decode prog_1_method_10_code 20 = .ok (.putfield 72, 3) := by decide +kernel
theorem dN_tick_23 : decode prog_1_method_10_code 23 = .ok (.aload_n 0, 1) := by decide +kernel
theorem dN_tick_24 : decode prog_1_method_10_code 24 = .ok (.getfield 72, 3) := by decide +kernel
theorem dN_tick_27 : decode prog_1_method_10_code 27 = .ok (.ireturn, 1) := by decide +kernel
theorem dN_forget_0 : decode prog_1_method_11_code 0 = .ok (.aload_n 0, 1) := by decide +kernel
theorem dN_forget_1 : decode prog_1_method_11_code 1 = .ok (.invokevirtual 114, 3) := by decide +kernel
theorem dN_forget_4 : decode prog_1_method_11_code 4 = .ok (.astore_n 1, 1) := by decide +kernel
theorem dN_forget_5 : decode prog_1_method_11_code 5 = .ok (.aload_n 1, 1) := by decide +kernel
theorem dN_forget_6 : decode prog_1_method_11_code 6 = .ok (.invokestatic 118, 3) := by decide +kernel
theorem dN_forget_9 : decode prog_1_method_11_code 9 = .ok (.istore_n 2, 1) := by decide +kernel
theorem dN_forget_10 : decode prog_1_method_11_code 10 = .ok (.iload_n 2, 1) := by decide +kernel
theorem dN_forget_11 : decode prog_1_method_11_code 11 = .ok (.iconst (-1), 1) := by decide +kernel
theorem dN_forget_12 : decode prog_1_method_11_code 12 = .ok (.if_icmp .eq 9, 3) := by decide +kernel
theorem dN_forget_15 : decode prog_1_method_11_code 15 = .ok (.sipush (-1000), 3) := by decide +kernel
theorem dN_forget_18 : decode prog_1_method_11_code 18 = .ok (.iload_n 2, 1) := by decide +kernel
theorem dN_forget_19 : decode prog_1_method_11_code 19 = .ok (.isub, 1) := by decide +kernel
theorem dN_forget_20 : decode prog_1_method_11_code 20 = .ok (.ireturn, 1) := by decide +kernel
theorem dN_forget_21 : decode prog_1_method_11_code 21 = .ok (.aload_n 1, 1) := by decide +kernel
theorem dN_forget_22 : decode prog_1_method_11_code 22 = .ok (.invokestatic 181, 3) := by decide +kernel
theorem dN_forget_25 : decode prog_1_method_11_code 25 = .ok (.istore_n 3, 1) := by decide +kernel
theorem dN_forget_26 : decode prog_1_method_11_code 26 = .ok (.iload_n 3, 1) := by decide +kernel
theorem dN_forget_27 : decode prog_1_method_11_code 27 = .ok (.iconst (-1), 1) := by decide +kernel
theorem dN_forget_28 : decode prog_1_method_11_code 28 = .ok (.if_icmp .eq 9, 3) := by decide +kernel
theorem dN_forget_31 : decode prog_1_method_11_code 31 = .ok (.sipush (-1000), 3) := by decide +kernel
theorem dN_forget_34 : decode prog_1_method_11_code 34 = .ok (.iload_n 3, 1) := by decide +kernel
theorem dN_forget_35 : decode prog_1_method_11_code 35 = .ok (.isub, 1) := by decide +kernel
theorem dN_forget_36 : decode prog_1_method_11_code 36 = .ok (.ireturn, 1) := by decide +kernel
theorem dN_forget_37 : decode prog_1_method_11_code 37 = .ok (.aload_n 0, 1) := by decide +kernel
theorem dN_forget_38 : decode prog_1_method_11_code 38 = .ok (.getfield 55, 3) := by decide +kernel
theorem dN_forget_41 : decode prog_1_method_11_code 41 = .ok (.aload_n 1, 1) := by decide +kernel
theorem dN_forget_42 : decode prog_1_method_11_code 42 = .ok (.invokevirtual 184, 3) := by decide +kernel
theorem dN_forget_45 : decode prog_1_method_11_code 45 = .ok (.ireturn, 1) := by decide +kernel
theorem dJr_dropLast_0 : decode prog_6_method_5_code 0 = .ok (.iconst (-1), 1) := by decide +kernel
theorem dJr_dropLast_1 : decode prog_6_method_5_code 1 = .ok (.istore_n 2, 1) := by decide +kernel
theorem dJr_dropLast_2 : decode prog_6_method_5_code 2 = .ok (.iconst 0, 1) := by decide +kernel
theorem dJr_dropLast_3 : decode prog_6_method_5_code 3 = .ok (.istore_n 3, 1) := by decide +kernel
theorem dJr_dropLast_4 : decode prog_6_method_5_code 4 = .ok (.iconst 0, 1) := by decide +kernel
theorem dJr_dropLast_5 : decode prog_6_method_5_code 5 = .ok (.istore 4, 2) := by decide +kernel
theorem dJr_dropLast_7 : decode prog_6_method_5_code 7 = .ok (.iload 4, 2) := by decide +kernel
theorem dJr_dropLast_9 : decode prog_6_method_5_code 9 = .ok (.aload_n 0, 1) := by decide +kernel
theorem dJr_dropLast_10 : decode prog_6_method_5_code 10 = .ok (.getfield 12, 3) := by decide +kernel
theorem dJr_dropLast_13 : decode prog_6_method_5_code 13 = .ok (.invokevirtual 18, 3) := by decide +kernel
theorem dJr_dropLast_16 : decode prog_6_method_5_code 16 = .ok (.if_icmp .ge 37, 3) := by decide +kernel
theorem dJr_dropLast_19 : decode prog_6_method_5_code 19 = .ok (.aload_n 0, 1) := by decide +kernel
theorem dJr_dropLast_20 : decode prog_6_method_5_code 20 = .ok (.getfield 12, 3) := by decide +kernel
theorem dJr_dropLast_23 : decode prog_6_method_5_code 23 = .ok (.iload 4, 2) := by decide +kernel
theorem dJr_dropLast_25 : decode prog_6_method_5_code 25 = .ok (.invokevirtual 22, 3) := by decide +kernel
theorem dJr_dropLast_28 : decode prog_6_method_5_code 28 = .ok (.checkcast 26, 3) := by decide +kernel
theorem dJr_dropLast_31 : decode prog_6_method_5_code 31 = .ok (.getfield 28, 3) := by decide +kernel
theorem dJr_dropLast_34 : decode prog_6_method_5_code 34 = .ok (.aload_n 1, 1) := by decide +kernel
theorem dJr_dropLast_35 : decode prog_6_method_5_code 35 = .ok (.invokevirtual 32, 3) := by decide +kernel
theorem dJr_dropLast_38 : decode prog_6_method_5_code 38 = .ok (.ifCond .eq 9, 3) := by decide +kernel
theorem dJr_dropLast_41 : decode prog_6_method_5_code 41 = .ok (.iload 4, 2) := by decide +kernel
theorem dJr_dropLast_43 : decode prog_6_method_5_code 43 = .ok (.istore_n 2, 1) := by decide +kernel
theorem dJr_dropLast_44 : decode prog_6_method_5_code 44 = .ok (.iinc 3 1, 3) := by decide +kernel
theorem dJr_dropLast_47 : decode prog_6_method_5_code 47 = .ok (.iinc 4 1, 3) := by decide +kernel
theorem dJr_dropLast_50 : decode prog_6_method_5_code 50 = .ok (.goto (-43), 3) := by decide +kernel
theorem dJr_dropLast_53 : decode prog_6_method_5_code 53 = .ok (.iload_n 2, 1) := by decide +kernel
theorem dJr_dropLast_54 : decode prog_6_method_5_code 54 = .ok (.iconst (-1), 1) := by decide +kernel
theorem dJr_dropLast_55 : decode prog_6_method_5_code 55 = .ok (.if_icmp .ne 5, 3) := by decide +kernel
theorem dJr_dropLast_58 : decode prog_6_method_5_code 58 = .ok (.iconst (-1), 1) := by decide +kernel
theorem dJr_dropLast_59 : decode prog_6_method_5_code 59 = .ok (.ireturn, 1) := by decide +kernel
theorem dJr_dropLast_60 : decode prog_6_method_5_code 60 = .ok (.aload_n 0, 1) := by decide +kernel
theorem dJr_dropLast_61 : decode prog_6_method_5_code 61 = .ok (.getfield 12, 3) := by decide +kernel
theorem dJr_dropLast_64 : decode prog_6_method_5_code 64 = .ok (.iload_n 2, 1) := by decide +kernel
theorem dJr_dropLast_65 : decode prog_6_method_5_code 65 = .ok (.invokevirtual 63, 3) := by decide +kernel
theorem dJr_dropLast_68 : decode prog_6_method_5_code 68 = .ok (.pop, 1) := by decide +kernel
theorem dJr_dropLast_69 : decode prog_6_method_5_code 69 = .ok (.iload_n 3, 1) := by decide +kernel
theorem dJr_dropLast_70 : decode prog_6_method_5_code 70 = .ok (.iconst 1, 1) := by decide +kernel
theorem dJr_dropLast_71 : decode prog_6_method_5_code 71 = .ok (.isub, 1) := by decide +kernel
theorem dJr_dropLast_72 : decode prog_6_method_5_code 72 = .ok (.ireturn, 1) := by decide +kernel
theorem dN_write_0 : decode prog_1_method_12_code 0 = .ok (.iload_n 1, 1) := by decide +kernel
theorem dN_write_1 : decode prog_1_method_12_code 1 = .ok (.tableswitch 102 0 3 #[31, 47, 58, 89], 31) := by decide +kernel
theorem dN_write_32 : decode prog_1_method_12_code 32 = .ok (.aload_n 0, 1) := by decide +kernel
theorem dN_write_33 : decode prog_1_method_12_code 33 = .ok (.aload_n 0, 1) := by decide +kernel
theorem dN_write_34 : decode prog_1_method_12_code 34 = .ok (.getfield 69, 3) := by decide +kernel
theorem dN_write_37 : decode prog_1_method_12_code 37 = .ok (.aload_n 0, 1) := by decide +kernel
theorem dN_write_38 : decode prog_1_method_12_code 38 = .ok (.getfield 69, 3) := by decide +kernel
theorem dN_write_41 : decode prog_1_method_12_code 41 = .ok (.getfield 128, 3) := by decide +kernel
theorem dN_write_44 : decode prog_1_method_12_code 44 = .ok (.invokevirtual 131, 3) := by decide +kernel
theorem dN_write_47 : decode prog_1_method_12_code 47 = .ok (.ireturn, 1) := by decide +kernel
theorem dN_write_48 : decode prog_1_method_12_code 48 = .ok (.aload_n 0, 1) := by decide +kernel
theorem dN_write_49 : decode prog_1_method_12_code 49 = .ok (.aload_n 0, 1) := by decide +kernel
theorem dN_write_50 : decode prog_1_method_12_code 50 = .ok (.getfield 79, 3) := by decide +kernel
theorem dN_write_53 : decode prog_1_method_12_code 53 = .ok (.ldc 25, 2) := by decide +kernel
theorem dN_write_55 : decode prog_1_method_12_code 55 = .ok (.invokevirtual 131, 3) := by decide +kernel
theorem dN_write_58 : decode prog_1_method_12_code 58 = .ok (.ireturn, 1) := by decide +kernel
theorem dN_write_59 : decode prog_1_method_12_code 59 = .ok (.aload_n 0, 1) := by decide +kernel
theorem dN_write_60 : decode prog_1_method_12_code 60 = .ok (.getfield 16, 3) := by decide +kernel
theorem dN_write_63 : decode prog_1_method_12_code 63 = .ok (.iconst 0, 1) := by decide +kernel
theorem dN_write_64 : decode prog_1_method_12_code 64 = .ok (.invokevirtual 107, 3) := by decide +kernel
theorem dN_write_67 : decode prog_1_method_12_code 67 = .ok (.aload_n 0, 1) := by decide +kernel
theorem dN_write_68 : decode prog_1_method_12_code 68 = .ok (.getfield 16, 3) := by decide +kernel
theorem dN_write_71 : decode prog_1_method_12_code 71 = .ok (.aload_n 0, 1) := by decide +kernel
theorem dN_write_72 : decode prog_1_method_12_code 72 = .ok (.getfield 66, 3) := by decide +kernel
theorem dN_write_75 : decode prog_1_method_12_code 75 = .ok (.invokevirtual 187, 3) := by decide +kernel
theorem dN_write_78 : decode prog_1_method_12_code 78 = .ok (.invokevirtual 190, 3) := by decide +kernel
theorem dN_write_81 : decode prog_1_method_12_code 81 = .ok (.pop, 1) := by decide +kernel
theorem dN_write_82 : decode prog_1_method_12_code 82 = .ok (.aload_n 0, 1) := by decide +kernel
theorem dN_write_83 : decode prog_1_method_12_code 83 = .ok (.getfield 16, 3) := by decide +kernel
theorem dN_write_86 : decode prog_1_method_12_code 86 = .ok (.invokevirtual 99, 3) := by decide +kernel
theorem dN_write_89 : decode prog_1_method_12_code 89 = .ok (.ireturn, 1) := by decide +kernel
theorem dN_write_90 : decode prog_1_method_12_code 90 = .ok (.aload_n 0, 1) := by decide +kernel
theorem dN_write_91 : decode prog_1_method_12_code 91 = .ok (.aload_n 0, 1) := by decide +kernel
theorem dN_write_92 : decode prog_1_method_12_code 92 = .ok (.getfield 85, 3) := by decide +kernel
theorem dN_write_95 : decode prog_1_method_12_code 95 = .ok (.aload_n 0, 1) := by decide +kernel
theorem dN_write_96 : decode prog_1_method_12_code 96 = .ok (.getfield 88, 3) := by decide +kernel
theorem dN_write_99 : decode prog_1_method_12_code 99 = .ok (.invokevirtual 131, 3) := by decide +kernel
theorem dN_write_102 : decode prog_1_method_12_code 102 = .ok (.ireturn, 1) := by decide +kernel
theorem dN_write_103 : decode prog_1_method_12_code 103 = .ok (.iconst (-1), 1) := by decide +kernel
theorem dN_write_104 : decode prog_1_method_12_code 104 = .ok (.ireturn, 1) := by decide +kernel
theorem dN_count_0 : decode prog_1_method_13_code 0 = .ok (.iload_n 1, 1) := by decide +kernel
theorem dN_count_1 : decode prog_1_method_13_code 1 = .ok (.tableswitch 115 0 7 #[47, 55, 63, 71, 76, 81, 86, 102], 47) := by decide +kernel
theorem dN_count_48 : decode prog_1_method_13_code 48 = .ok (.aload_n 0, 1) := by decide +kernel
theorem dN_count_49 : decode prog_1_method_13_code 49 = .ok (.getfield 48, 3) := by decide +kernel
theorem dN_count_52 : decode prog_1_method_13_code 52 = .ok (.invokevirtual 165, 3) := by decide +kernel
theorem dN_count_55 : decode prog_1_method_13_code 55 = .ok (.ireturn, 1) := by decide +kernel
theorem dN_count_56 : decode prog_1_method_13_code 56 = .ok (.aload_n 0, 1) := by decide +kernel
theorem dN_count_57 : decode prog_1_method_13_code 57 = .ok (.getfield 55, 3) := by decide +kernel
theorem dN_count_60 : decode prog_1_method_13_code 60 = .ok (.invokevirtual 194, 3) := by decide +kernel
theorem dN_count_63 : decode prog_1_method_13_code 63 = .ok (.ireturn, 1) := by decide +kernel
theorem dN_count_64 : decode prog_1_method_13_code 64 = .ok (.aload_n 0, 1) := by decide +kernel
theorem dN_count_65 : decode prog_1_method_13_code 65 = .ok (.getfield 62, 3) := by decide +kernel
theorem dN_count_68 : decode prog_1_method_13_code 68 = .ok (.invokevirtual 195, 3) := by decide +kernel
theorem dN_count_71 : decode prog_1_method_13_code 71 = .ok (.ireturn, 1) := by decide +kernel
theorem dN_count_72 : decode prog_1_method_13_code 72 = .ok (.aload_n 0, 1) := by decide +kernel
theorem dN_count_73 : decode prog_1_method_13_code 73 = .ok (.getfield 76, 3) := by decide +kernel
theorem dN_count_76 : decode prog_1_method_13_code 76 = .ok (.ireturn, 1) := by decide +kernel
theorem dN_count_77 : decode prog_1_method_13_code 77 = .ok (.aload_n 0, 1) := by decide +kernel
theorem dN_count_78 : decode prog_1_method_13_code 78 = .ok (.getfield 72, 3) := by decide +kernel
theorem dN_count_81 : decode prog_1_method_13_code 81 = .ok (.ireturn, 1) := by decide +kernel
theorem dN_count_82 : decode prog_1_method_13_code 82 = .ok (.aload_n 0, 1) := by decide +kernel
theorem dN_count_83 : decode prog_1_method_13_code 83 = .ok (.getfield 92, 3) := by decide +kernel
theorem dN_count_86 : decode prog_1_method_13_code 86 = .ok (.ireturn, 1) := by decide +kernel
theorem dN_count_87 : decode prog_1_method_13_code 87 = .ok (.aload_n 0, 1) := by decide +kernel
theorem dN_count_88 : decode prog_1_method_13_code 88 = .ok (.getfield 82, 3) := by decide +kernel
theorem dN_count_91 : decode prog_1_method_13_code 91 = .ok (.getfield 196, 3) := by decide +kernel
theorem dN_count_94 : decode prog_1_method_13_code 94 = .ok (.ifCond .eq 7, 3) := by decide +kernel
theorem dN_count_97 : decode prog_1_method_13_code 97 = .ok (.iconst 1, 1) := by decide +kernel
theorem dN_count_98 : decode prog_1_method_13_code 98 = .ok (.goto 4, 3) := by decide +kernel
theorem dN_count_101 : decode prog_1_method_13_code 101 = .ok (.iconst 0, 1) := by decide +kernel
theorem dN_count_102 : decode prog_1_method_13_code 102 = .ok (.ireturn, 1) := by decide +kernel
theorem dN_count_103 : decode prog_1_method_13_code 103 = .ok (.aload_n 0, 1) := by decide +kernel
theorem dN_count_104 : decode prog_1_method_13_code 104 = .ok (.getfield 95, 3) := by decide +kernel
theorem dN_count_107 : decode prog_1_method_13_code 107 = .ok (.ifCond .eq 7, 3) := by decide +kernel
theorem dN_count_110 : decode prog_1_method_13_code 110 = .ok (.iconst 1, 1) := by decide +kernel
theorem dN_count_111 : decode prog_1_method_13_code 111 = .ok (.goto 4, 3) := by decide +kernel
theorem dN_count_114 : decode prog_1_method_13_code 114 = .ok (.iconst 0, 1) := by decide +kernel
theorem dN_count_115 : decode prog_1_method_13_code 115 = .ok (.ireturn, 1) := by decide +kernel
theorem dN_count_116 : decode prog_1_method_13_code 116 = .ok (.iconst (-1), 1) := by decide +kernel
theorem dN_count_117 : decode prog_1_method_13_code 117 = .ok (.ireturn, 1) := by decide +kernel
theorem dJr_size_0 : decode prog_6_method_2_code 0 = .ok (.aload_n 0, 1) := by decide +kernel
theorem dJr_size_1 : decode prog_6_method_2_code 1 = .ok (.getfield 12, 3) := by decide +kernel
theorem dJr_size_4 : decode prog_6_method_2_code 4 = .ok (.invokevirtual 18, 3) := by decide +kernel
theorem dJr_size_7 : decode prog_6_method_2_code 7 = .ok (.ireturn, 1) := by decide +kernel
theorem dKp_size_0 : decode prog_7_method_2_code 0 = .ok (.aload_n 0, 1) := by decide +kernel
theorem dKp_size_1 : decode prog_7_method_2_code 1 = .ok (.getfield 12, 3) := by decide +kernel
theorem dKp_size_4 : decode prog_7_method_2_code 4 = .ok (.invokevirtual 18, 3) := by decide +kernel
theorem dKp_size_7 : decode prog_7_method_2_code 7 = .ok (.ireturn, 1) := by decide +kernel
theorem zn_N_init_7 : zNf M_N_init 7 1 4 [.null, .int 0, .int 0, .int 0] := ⟨_, _, _, ty_Sb, rfl, in_Sb, tyok_Sb, zt1 36 rfl, zt1 37 rfl, zt1 3 rfl, Nat.le_of_ble_eq_true rfl, zDf_Sb⟩
theorem zk_N_9 : zLkI "NetDesk" 9 M_Sb_init 0 := ⟨zc_Sb_init, rfl, rfl, zt1 39 rfl, Or.inl (zt1 38 rfl)⟩
theorem zf_N_10 : zFl "NetDesk" 10 0 0 := ⟨_, _, _, "NetDesk", rfl, Nat.le_of_ble_eq_true rfl, in_N, Or.inl (zt1 212 rfl), Or.inl rfl⟩
theorem zp_N_init_10 : zPf M_N_init 10 0 0 (.object "java/lang/StringBuilder") := ⟨zf_N_10, _, _, _, ty_N, rfl, tyok_N, nm_N, rfl, Or.inr ⟨rfl, rfl, rfl⟩⟩
theorem zf_N_16 : zFl "NetDesk" 16 0 1 := ⟨_, _, _, "NetDesk", rfl, Nat.le_of_ble_eq_true rfl, in_N, Or.inl (zt1 213 rfl), Or.inl rfl⟩
theorem zp_N_init_16 : zPf M_N_init 16 0 1 (.object "java/lang/StringBuilder") := ⟨zf_N_16, _, _, _, ty_N, rfl, tyok_N, nm_N, rfl, Or.inr ⟨rfl, rfl, rfl⟩⟩
theorem zn_N_init_19 : zNf M_N_init 19 2 4 [.null, .null, .null, .null] := ⟨_, _, _, ty_Ad, rfl, in_Ad, tyok_Ad, zt1 69 rfl, zt1 70 rfl, zt1 6 rfl, Nat.le_of_ble_eq_true rfl, zDf_Ad⟩
theorem zk_N_27 : zLkI "NetDesk" 27 M_Ad_init 4 := ⟨zc_Ad_init, rfl, rfl, zt1 75 rfl, Or.inl (zt1 74 rfl)⟩
theorem zf_N_30 : zFl "NetDesk" 30 0 2 := ⟨_, _, _, "NetDesk", rfl, Nat.le_of_ble_eq_true rfl, in_N, Or.inl (zt1 214 rfl), Or.inl rfl⟩
theorem zp_N_init_30 : zPf M_N_init 30 0 2 (.object "NetDesk$Address") := ⟨zf_N_30, _, _, _, ty_N, rfl, tyok_N, nm_N, rfl, Or.inr ⟨rfl, rfl, rfl⟩⟩
theorem zn_N_init_33 : zNf M_N_init 33 3 7 [.null, .int 0, .null, .null, .null, .int 0, .null] := ⟨_, _, _, ty_An, rfl, in_An, tyok_An, zt1 95 rfl, zt1 96 rfl, zt1 7 rfl, Nat.le_of_ble_eq_true rfl, zDf_An⟩
theorem zn_N_init_35 : zNf M_N_init 35 4 6 [.int 0, .int 0, .null, .null, .null, .int 0] := ⟨_, _, _, ty_Fl, rfl, in_Fl, tyok_Fl, zt1 97 rfl, zt1 98 rfl, zt1 8 rfl, Nat.le_of_ble_eq_true rfl, zDf_Fl⟩
theorem zk_N_37 : zLkI "NetDesk" 37 M_Fl_init 0 := ⟨zc_Fl_init, rfl, rfl, zt1 100 rfl, Or.inr ⟨_, zt1 99 rfl⟩⟩
theorem zk_N_38 : zLkI "NetDesk" 38 M_An_init 3 := ⟨zc_An_init, rfl, rfl, zt1 129 rfl, Or.inl (zt1 128 rfl)⟩
theorem zf_N_41 : zFl "NetDesk" 41 0 3 := ⟨_, _, _, "NetDesk", rfl, Nat.le_of_ble_eq_true rfl, in_N, Or.inl (zt1 215 rfl), Or.inl rfl⟩
theorem zp_N_init_41 : zPf M_N_init 41 0 3 (.object "NetDesk$Answer") := ⟨zf_N_41, _, _, _, ty_N, rfl, tyok_N, nm_N, rfl, Or.inr ⟨rfl, rfl, rfl⟩⟩
theorem zn_N_init_45 : zNf M_N_init 45 5 3 [.null, .int 0, .int 0] := ⟨_, _, _, ty_Al, rfl, in_Al, tyok_Al, zt1 162 rfl, zt1 163 rfl, zt1 11 rfl, Nat.le_of_ble_eq_true rfl, zDf_Al⟩
theorem zk_N_47 : zLkI "NetDesk" 47 M_Al_init 0 := ⟨zc_Al_init, rfl, rfl, zt1 165 rfl, Or.inl (zt1 164 rfl)⟩
theorem zf_N_48 : zFl "NetDesk" 48 0 4 := ⟨_, _, _, "NetDesk", rfl, Nat.le_of_ble_eq_true rfl, in_N, Or.inl (zt1 216 rfl), Or.inl rfl⟩
theorem zp_N_init_48 : zPf M_N_init 48 0 4 (.object "java/util/ArrayList") := ⟨zf_N_48, _, _, _, ty_N, rfl, tyok_N, nm_N, rfl, Or.inr ⟨rfl, rfl, rfl⟩⟩
theorem zn_N_init_52 : zNf M_N_init 52 6 1 [.null] := ⟨_, _, _, ty_Jr, rfl, in_Jr, tyok_Jr, zt1 188 rfl, zt1 189 rfl, zt1 12 rfl, Nat.le_of_ble_eq_true rfl, zDf_Jr⟩
theorem zk_N_54 : zLkI "NetDesk" 54 M_Jr_init 0 := ⟨zc_Jr_init, rfl, rfl, zt1 191 rfl, Or.inr ⟨_, zt1 190 rfl⟩⟩
theorem zf_N_55 : zFl "NetDesk" 55 0 5 := ⟨_, _, _, "NetDesk", rfl, Nat.le_of_ble_eq_true rfl, in_N, Or.inl (zt1 217 rfl), Or.inl rfl⟩
theorem zp_N_init_55 : zPf M_N_init 55 0 5 (.object "NetDesk$Jar") := ⟨zf_N_55, _, _, _, ty_N, rfl, tyok_N, nm_N, rfl, Or.inr ⟨rfl, rfl, rfl⟩⟩
theorem zn_N_init_59 : zNf M_N_init 59 7 1 [.null] := ⟨_, _, _, ty_Kp, rfl, in_Kp, tyok_Kp, zt1 200 rfl, zt1 201 rfl, zt1 13 rfl, Nat.le_of_ble_eq_true rfl, zDf_Kp⟩
theorem zk_N_61 : zLkI "NetDesk" 61 M_Kp_init 0 := ⟨zc_Kp_init, rfl, rfl, zt1 203 rfl, Or.inr ⟨_, zt1 202 rfl⟩⟩
theorem zf_N_62 : zFl "NetDesk" 62 0 6 := ⟨_, _, _, "NetDesk", rfl, Nat.le_of_ble_eq_true rfl, in_N, Or.inl (zt1 218 rfl), Or.inl rfl⟩
theorem zp_N_init_62 : zPf M_N_init 62 0 6 (.object "NetDesk$Keep") := ⟨zf_N_62, _, _, _, ty_N, rfl, tyok_N, nm_N, rfl, Or.inr ⟨rfl, rfl, rfl⟩⟩
theorem zf_N_66 : zFl "NetDesk" 66 0 7 := ⟨_, _, _, "NetDesk", rfl, Nat.le_of_ble_eq_true rfl, in_N, Or.inl (zt1 219 rfl), Or.inl rfl⟩
theorem zp_N_init_66 : zPf M_N_init 66 0 7 (.object "java/lang/StringBuilder") := ⟨zf_N_66, _, _, _, ty_N, rfl, tyok_N, nm_N, rfl, Or.inr ⟨rfl, rfl, rfl⟩⟩
theorem zf_N_69 : zFl "NetDesk" 69 0 8 := ⟨_, _, _, "NetDesk", rfl, Nat.le_of_ble_eq_true rfl, in_N, Or.inl (zt1 220 rfl), Or.inl rfl⟩
theorem zp_N_init_69 : zPf M_N_init 69 0 8 (.object "NetDesk$Address") := ⟨zf_N_69, _, _, _, ty_N, rfl, tyok_N, nm_N, rfl, Or.inl rfl⟩
theorem zf_N_72 : zFl "NetDesk" 72 0 9 := ⟨_, _, _, "NetDesk", rfl, Nat.le_of_ble_eq_true rfl, in_N, Or.inl (zt1 221 rfl), Or.inl rfl⟩
theorem zp_N_init_72 : zPf M_N_init 72 0 9 .int := ⟨zf_N_72, _, _, _, ty_N, rfl, tyok_N, nm_N, rfl, Or.inl rfl⟩
theorem zf_N_76 : zFl "NetDesk" 76 0 10 := ⟨_, _, _, "NetDesk", rfl, Nat.le_of_ble_eq_true rfl, in_N, Or.inl (zt1 222 rfl), Or.inl rfl⟩
theorem zp_N_init_76 : zPf M_N_init 76 0 10 .int := ⟨zf_N_76, _, _, _, ty_N, rfl, tyok_N, nm_N, rfl, Or.inl rfl⟩
theorem zf_N_79 : zFl "NetDesk" 79 0 11 := ⟨_, _, _, "NetDesk", rfl, Nat.le_of_ble_eq_true rfl, in_N, Or.inl (zt1 223 rfl), Or.inl rfl⟩
theorem zp_N_init_79 : zPf M_N_init 79 0 11 (.object "NetDesk$Address") := ⟨zf_N_79, _, _, _, ty_N, rfl, tyok_N, nm_N, rfl, Or.inl rfl⟩
theorem zf_N_82 : zFl "NetDesk" 82 0 12 := ⟨_, _, _, "NetDesk", rfl, Nat.le_of_ble_eq_true rfl, in_N, Or.inl (zt1 224 rfl), Or.inl rfl⟩
theorem zp_N_init_82 : zPf M_N_init 82 0 12 (.object "NetDesk$Answer") := ⟨zf_N_82, _, _, _, ty_N, rfl, tyok_N, nm_N, rfl, Or.inl rfl⟩
theorem zf_N_85 : zFl "NetDesk" 85 0 13 := ⟨_, _, _, "NetDesk", rfl, Nat.le_of_ble_eq_true rfl, in_N, Or.inl (zt1 225 rfl), Or.inl rfl⟩
theorem zp_N_init_85 : zPf M_N_init 85 0 13 (.object "NetDesk$Address") := ⟨zf_N_85, _, _, _, ty_N, rfl, tyok_N, nm_N, rfl, Or.inl rfl⟩
theorem zf_N_88 : zFl "NetDesk" 88 0 14 := ⟨_, _, _, "NetDesk", rfl, Nat.le_of_ble_eq_true rfl, in_N, Or.inl (zt1 226 rfl), Or.inl rfl⟩
theorem zp_N_init_88 : zPf M_N_init 88 0 14 (.object "java/lang/String") := ⟨zf_N_88, _, _, _, ty_N, rfl, tyok_N, nm_N, rfl, Or.inl rfl⟩
theorem zf_N_92 : zFl "NetDesk" 92 0 15 := ⟨_, _, _, "NetDesk", rfl, Nat.le_of_ble_eq_true rfl, in_N, Or.inl (zt1 227 rfl), Or.inl rfl⟩
theorem zp_N_init_92 : zPf M_N_init 92 0 15 .int := ⟨zf_N_92, _, _, _, ty_N, rfl, tyok_N, nm_N, rfl, Or.inl rfl⟩
theorem zf_N_95 : zFl "NetDesk" 95 0 16 := ⟨_, _, _, "NetDesk", rfl, Nat.le_of_ble_eq_true rfl, in_N, Or.inl (zt1 228 rfl), Or.inl rfl⟩
theorem zp_N_init_95 : zPf M_N_init 95 0 16 .boolean := ⟨zf_N_95, _, _, _, ty_N, rfl, tyok_N, nm_N, rfl, Or.inl rfl⟩
theorem zn_Jr_init_9 : zNf M_Jr_init 9 5 3 [.null, .int 0, .int 0] := ⟨_, _, _, ty_Al, rfl, in_Al, tyok_Al, zt1 194 rfl, zt1 163 rfl, zt1 11 rfl, Nat.le_of_ble_eq_true rfl, zDf_Al⟩
theorem zk_Jr_11 : zLkI "NetDesk$Jar" 11 M_Al_init 0 := ⟨zc_Al_init, rfl, rfl, zt1 165 rfl, Or.inl (zt1 195 rfl)⟩
theorem zf_Jr_12 : zFl "NetDesk$Jar" 12 6 0 := ⟨_, _, _, "NetDesk$Jar", rfl, Nat.le_of_ble_eq_true rfl, in_Jr, Or.inl (zt1 196 rfl), Or.inl rfl⟩
theorem zp_Jr_init_12 : zPf M_Jr_init 12 6 0 (.object "java/util/ArrayList") := ⟨zf_Jr_12, _, _, _, ty_Jr, rfl, tyok_Jr, nm_Jr, rfl, Or.inr ⟨rfl, rfl, rfl⟩⟩
theorem zn_Kp_init_9 : zNf M_Kp_init 9 5 3 [.null, .int 0, .int 0] := ⟨_, _, _, ty_Al, rfl, in_Al, tyok_Al, zt1 206 rfl, zt1 163 rfl, zt1 11 rfl, Nat.le_of_ble_eq_true rfl, zDf_Al⟩
theorem zk_Kp_11 : zLkI "NetDesk$Keep" 11 M_Al_init 0 := ⟨zc_Al_init, rfl, rfl, zt1 165 rfl, Or.inl (zt1 207 rfl)⟩
theorem zf_Kp_12 : zFl "NetDesk$Keep" 12 7 0 := ⟨_, _, _, "NetDesk$Keep", rfl, Nat.le_of_ble_eq_true rfl, in_Kp, Or.inl (zt1 208 rfl), Or.inl rfl⟩
theorem zp_Kp_init_12 : zPf M_Kp_init 12 7 0 (.object "java/util/ArrayList") := ⟨zf_Kp_12, _, _, _, ty_Kp, rfl, tyok_Kp, nm_Kp, rfl, Or.inr ⟨rfl, rfl, rfl⟩⟩
theorem zk_N_99 : zLkV "NetDesk" 99 1 M_Sb_length 0 := ⟨zc_Sb_length, ⟨_, _, _, rfl, Or.inl (zt2 30 rfl)⟩, zt2 29 rfl, Or.inl (zt2 28 rfl)⟩
theorem zk_N_103 : zLkV "NetDesk" 103 0 M_N_addWord 1 := ⟨zc_N_addWord, ⟨_, _, _, rfl, Or.inl (zsel 0 rfl)⟩, zt2 37 rfl, Or.inl (zt2 35 rfl)⟩
theorem zk_N_199 : zLkV "NetDesk" 199 1 M_Sb_append_0 1 := ⟨zc_Sb_append_0, ⟨_, _, _, rfl, Or.inl (zt2 41 rfl)⟩, zt2 40 rfl, Or.inl (zt2 39 rfl)⟩
theorem zk_N_107 : zLkV "NetDesk" 107 1 M_Sb_setLength 1 := ⟨zc_Sb_setLength, ⟨_, _, _, rfl, Or.inl (zt2 140 rfl)⟩, zt2 139 rfl, Or.inl (zt2 138 rfl)⟩
theorem zk_N_110 : zLkV "NetDesk" 110 1 M_Sb_charAt 1 := ⟨zc_Sb_charAt, ⟨_, _, _, rfl, Or.inl (zt2 164 rfl)⟩, zt2 163 rfl, Or.inl (zt2 162 rfl)⟩
theorem zk_N_114 : zLkV "NetDesk" 114 0 M_N_takeText 0 := ⟨zc_N_takeText, ⟨_, _, _, rfl, Or.inl (zsel 1 rfl)⟩, zt2 180 rfl, Or.inl (zt2 178 rfl)⟩
theorem zk_N_118 : zLkS "NetDesk" 118 M_Tx_badByte 1 := ⟨zc_Tx_badByte, zt2 235 rfl, Or.inl (zt2 234 rfl)⟩
theorem zk_N_124 : zLkS "NetDesk" 124 M_Ad_read 2 := ⟨zc_Ad_read, zt3 21 rfl, Or.inl (zt3 20 rfl)⟩
theorem zf_N_128 : zFl "NetDesk" 128 2 3 := ⟨_, _, _, "NetDesk$Address", rfl, Nat.le_of_ble_eq_true rfl, in_Ad, Or.inl (zt1 85 rfl), Or.inl rfl⟩
theorem zk_N_131 : zLkV "NetDesk" 131 0 M_N_writeAddress 2 := ⟨zc_N_writeAddress, ⟨_, _, _, rfl, Or.inl (zsel 5 rfl)⟩, zt4 0 rfl, Or.inl (zt3 238 rfl)⟩
theorem zk_N_187 : zLkV "NetDesk" 187 1 M_Sb_toString 0 := ⟨zc_Sb_toString, ⟨_, _, _, rfl, Or.inl (zt2 184 rfl)⟩, zt2 183 rfl, Or.inl (zt2 182 rfl)⟩
theorem zk_N_202 : zLkV "NetDesk" 202 2 M_Ad_appendTo 1 := ⟨zc_Ad_appendTo, ⟨_, _, _, rfl, Or.inl (zt4 4 rfl)⟩, zt4 3 rfl, Or.inl (zt4 2 rfl)⟩
theorem zk_N_190 : zLkV "NetDesk" 190 1 M_Sb_append_1 1 := ⟨zc_Sb_append_1, ⟨_, _, _, rfl, Or.inl (zt3 175 rfl)⟩, zt3 174 rfl, Or.inl (zt4 7 rfl)⟩
theorem zp_N_base_69 : zPf M_N_base 69 0 8 (.object "NetDesk$Address") := ⟨zf_N_69, _, _, _, ty_N, rfl, tyok_N, nm_N, rfl, Or.inl rfl⟩
theorem zk_N_135 : zLkV "NetDesk" 135 2 M_Ad_segments 0 := ⟨zc_Ad_segments, ⟨_, _, _, rfl, Or.inl (zt3 205 rfl)⟩, zt3 204 rfl, Or.inl (zt4 12 rfl)⟩
theorem zn_N_server_138 : zNf M_N_server 138 10 4 [.null, .null, .null, .null] := ⟨_, _, _, ty_Sv, rfl, in_Sv, tyok_Sv, zt4 17 rfl, zt4 18 rfl, zt1 24 rfl, Nat.le_of_ble_eq_true rfl, zDf_Sv⟩
theorem zk_N_140 : zLkI "NetDesk" 140 M_Sv_init 2 := ⟨zc_Sv_init, rfl, rfl, zt4 20 rfl, Or.inl (zt4 19 rfl)⟩
theorem zk_N_143 : zLkV "NetDesk" 143 10 M_Sv_firstWrong 0 := ⟨zc_Sv_firstWrong, ⟨_, _, _, rfl, Or.inl (zt4 44 rfl)⟩, zt4 43 rfl, Or.inl (zt4 42 rfl)⟩
theorem zn_N_server_33 : zNf M_N_server 33 3 7 [.null, .int 0, .null, .null, .null, .int 0, .null] := ⟨_, _, _, ty_An, rfl, in_An, tyok_An, zt1 95 rfl, zt1 96 rfl, zt1 7 rfl, Nat.le_of_ble_eq_true rfl, zDf_An⟩
theorem zf_N_146 : zFl "NetDesk" 146 10 2 := ⟨_, _, _, "NetDesk$ServerText", rfl, Nat.le_of_ble_eq_true rfl, in_Sv, Or.inl (zt4 30 rfl), Or.inl rfl⟩
theorem zf_N_149 : zFl "NetDesk" 149 10 1 := ⟨_, _, _, "NetDesk$ServerText", rfl, Nat.le_of_ble_eq_true rfl, in_Sv, Or.inl (zt4 28 rfl), Or.inl rfl⟩
theorem zf_N_153 : zFl "NetDesk" 153 10 3 := ⟨_, _, _, "NetDesk$ServerText", rfl, Nat.le_of_ble_eq_true rfl, in_Sv, Or.inl (zt4 32 rfl), Or.inl rfl⟩
theorem zf_N_156 : zFl "NetDesk" 156 3 0 := ⟨_, _, _, "NetDesk$Answer", rfl, Nat.le_of_ble_eq_true rfl, in_An, Or.inl (zt1 134 rfl), Or.inl rfl⟩
theorem zk_N_157 : zLkV "NetDesk" 157 0 M_N_placeOfAnswer 1 := ⟨zc_N_placeOfAnswer, ⟨_, _, _, rfl, Or.inl (zsel 9 rfl)⟩, zt4 91 rfl, Or.inl (zt4 89 rfl)⟩
theorem zk_N_161 : zLkV "NetDesk" 161 5 M_Al_set 2 := ⟨zc_Al_set, ⟨_, _, _, rfl, Or.inl (zt4 116 rfl)⟩, zt4 115 rfl, Or.inl (zt4 114 rfl)⟩
theorem zk_N_165 : zLkV "NetDesk" 165 5 M_Al_size 0 := ⟨zc_Al_size, ⟨_, _, _, rfl, Or.inl (zt4 95 rfl)⟩, zt4 94 rfl, Or.inl (zt4 93 rfl)⟩
theorem zk_N_168 : zLkV "NetDesk" 168 5 M_Al_add_0 1 := ⟨zc_Al_add_0, ⟨_, _, _, rfl, Or.inl (zt4 120 rfl)⟩, zt4 119 rfl, Or.inl (zt4 118 rfl)⟩
theorem zk_N_206 : zLkV "NetDesk" 206 5 M_Al_get 1 := ⟨zc_Al_get, ⟨_, _, _, rfl, Or.inl (zt4 99 rfl)⟩, zt4 98 rfl, Or.inl (zt4 97 rfl)⟩
theorem zk_N_210 : zLkV "NetDesk" 210 2 M_Ad_isSamePlace 1 := ⟨zc_Ad_isSamePlace, ⟨_, _, _, rfl, Or.inl (zt4 111 rfl)⟩, zt4 110 rfl, Or.inl (zt4 109 rfl)⟩
theorem zk_N_172 : zLkV "NetDesk" 172 0 M_N_follow 1 := ⟨zc_N_follow, ⟨_, _, _, rfl, Or.inl (zsel 13 rfl)⟩, zt4 170 rfl, Or.inl (zt4 168 rfl)⟩
theorem zf_N_176 : zFl "NetDesk" 176 3 6 := ⟨_, _, _, "NetDesk$Answer", rfl, Nat.le_of_ble_eq_true rfl, in_An, Or.inl (zt1 146 rfl), Or.inl rfl⟩
theorem zk_N_177 : zLkV "NetDesk" 177 8 M_St_length 0 := ⟨zc_St_length, ⟨_, _, _, rfl, Or.inl (zt2 239 rfl)⟩, zt2 238 rfl, Or.inl (zt5 18 rfl)⟩
theorem zk_N_214 : zLkV "NetDesk" 214 0 M_N_answerFrom 1 := ⟨zc_N_answerFrom, ⟨_, _, _, rfl, Or.inl (zsel 14 rfl)⟩, zt4 174 rfl, Or.inl (zt4 172 rfl)⟩
theorem zp_N_follow_92 : zPf M_N_follow 92 0 15 .int := ⟨zf_N_92, _, _, _, ty_N, rfl, tyok_N, nm_N, rfl, Or.inl rfl⟩
theorem zf_N_218 : zFl "NetDesk" 218 3 4 := ⟨_, _, _, "NetDesk$Answer", rfl, Nat.le_of_ble_eq_true rfl, in_An, Or.inl (zt1 142 rfl), Or.inl rfl⟩
theorem zp_N_follow_82 : zPf M_N_follow 82 0 12 (.object "NetDesk$Answer") := ⟨zf_N_82, _, _, _, ty_N, rfl, tyok_N, nm_N, rfl, Or.inl rfl⟩
theorem zp_N_follow_85 : zPf M_N_follow 85 0 13 (.object "NetDesk$Address") := ⟨zf_N_85, _, _, _, ty_N, rfl, tyok_N, nm_N, rfl, Or.inl rfl⟩
theorem zp_N_follow_88 : zPf M_N_follow 88 0 14 (.object "java/lang/String") := ⟨zf_N_88, _, _, _, ty_N, rfl, tyok_N, nm_N, rfl, Or.inl rfl⟩
theorem zk_N_221 : zLkV "NetDesk" 221 7 M_Kp_fresh 2 := ⟨zc_Kp_fresh, ⟨_, _, _, rfl, Or.inl (zt4 178 rfl)⟩, zt4 177 rfl, Or.inl (zt4 176 rfl)⟩
theorem zp_N_answerFrom_95 : zPf M_N_answerFrom 95 0 16 .boolean := ⟨zf_N_95, _, _, _, ty_N, rfl, tyok_N, nm_N, rfl, Or.inl rfl⟩
theorem zk_N_225 : zLkV "NetDesk" 225 0 M_N_request 1 := ⟨zc_N_request, ⟨_, _, _, rfl, Or.inl (zsel 16 rfl)⟩, zt4 190 rfl, Or.inl (zt4 188 rfl)⟩
theorem zk_Kp_22 : zLkV "NetDesk$Keep" 22 7 M_Kp_placeOf 1 := ⟨zc_Kp_placeOf, ⟨_, _, _, rfl, Or.inl (zsel 15 rfl)⟩, zt4 182 rfl, Or.inl (zt4 180 rfl)⟩
theorem zk_Kp_26 : zLkV "NetDesk$Keep" 26 5 M_Al_get 1 := ⟨zc_Al_get, ⟨_, _, _, rfl, Or.inl (zt4 99 rfl)⟩, zt4 98 rfl, Or.inl (zt4 185 rfl)⟩
theorem zf_Kp_32 : zFl "NetDesk$Keep" 32 12 1 := ⟨_, _, _, "NetDesk$Kept", rfl, Nat.le_of_ble_eq_true rfl, in_Kt, Or.inl (zt4 238 rfl), Or.inl rfl⟩
theorem zf_Kp_36 : zFl "NetDesk$Keep" 36 12 0 := ⟨_, _, _, "NetDesk$Kept", rfl, Nat.le_of_ble_eq_true rfl, in_Kt, Or.inl (zt4 236 rfl), Or.inl rfl⟩
theorem zk_Kp_18 : zLkV "NetDesk$Keep" 18 5 M_Al_size 0 := ⟨zc_Al_size, ⟨_, _, _, rfl, Or.inl (zt4 95 rfl)⟩, zt4 94 rfl, Or.inl (zt4 184 rfl)⟩
theorem zf_Kp_40 : zFl "NetDesk$Keep" 40 3 0 := ⟨_, _, _, "NetDesk$Answer", rfl, Nat.le_of_ble_eq_true rfl, in_An, Or.inl (zt1 133 rfl), Or.inl rfl⟩
theorem zk_Kp_53 : zLkV "NetDesk$Keep" 53 2 M_Ad_isSamePlace 1 := ⟨zc_Ad_isSamePlace, ⟨_, _, _, rfl, Or.inl (zt4 111 rfl)⟩, zt4 110 rfl, Or.inl (zt4 187 rfl)⟩
theorem zp_N_request_76 : zPf M_N_request 76 0 10 .int := ⟨zf_N_76, _, _, _, ty_N, rfl, tyok_N, nm_N, rfl, Or.inl rfl⟩
theorem zp_N_request_79 : zPf M_N_request 79 0 11 (.object "NetDesk$Address") := ⟨zf_N_79, _, _, _, ty_N, rfl, tyok_N, nm_N, rfl, Or.inl rfl⟩
theorem zf_N_228 : zFl "NetDesk" 228 2 0 := ⟨_, _, _, "NetDesk$Address", rfl, Nat.le_of_ble_eq_true rfl, in_Ad, Or.inl (zt1 79 rfl), Or.inl rfl⟩
theorem zk_N_231 : zLkV "NetDesk" 231 6 M_Jr_tell 2 := ⟨zc_Jr_tell, ⟨_, _, _, rfl, Or.inl (zt4 194 rfl)⟩, zt4 193 rfl, Or.inl (zt4 192 rfl)⟩
theorem zf_N_235 : zFl "NetDesk" 235 3 2 := ⟨_, _, _, "NetDesk$Answer", rfl, Nat.le_of_ble_eq_true rfl, in_An, Or.inl (zt1 138 rfl), Or.inl rfl⟩
theorem zk_N_238 : zLkV "NetDesk" 238 8 M_St_isEmpty 0 := ⟨zc_St_isEmpty, ⟨_, _, _, rfl, Or.inl (zt3 116 rfl)⟩, zt3 115 rfl, Or.inl (zt4 203 rfl)⟩
theorem zn_N_request_242 : zNf M_N_request 242 11 3 [.null, .null, .null] := ⟨_, _, _, ty_Ck, rfl, in_Ck, tyok_Ck, zt4 204 rfl, zt4 205 rfl, zt1 26 rfl, Nat.le_of_ble_eq_true rfl, zDf_Ck⟩
theorem zf_N_244 : zFl "NetDesk" 244 3 3 := ⟨_, _, _, "NetDesk$Answer", rfl, Nat.le_of_ble_eq_true rfl, in_An, Or.inl (zt1 140 rfl), Or.inl rfl⟩
theorem zk_N_247 : zLkI "NetDesk" 247 M_Ck_init 3 := ⟨zc_Ck_init, rfl, rfl, zt4 207 rfl, Or.inl (zt4 206 rfl)⟩
theorem zk_N_250 : zLkV "NetDesk" 250 6 M_Jr_put 1 := ⟨zc_Jr_put, ⟨_, _, _, rfl, Or.inl (zt4 225 rfl)⟩, zt4 224 rfl, Or.inl (zt4 223 rfl)⟩
theorem zf_N_254 : zFl "NetDesk" 254 3 1 := ⟨_, _, _, "NetDesk$Answer", rfl, Nat.le_of_ble_eq_true rfl, in_An, Or.inl (zt1 136 rfl), Or.inl rfl⟩
theorem zn_N_request_257 : zNf M_N_request 257 12 2 [.null, .int 0] := ⟨_, _, _, ty_Kt, rfl, in_Kt, tyok_Kt, zt4 229 rfl, zt4 230 rfl, zt1 27 rfl, Nat.le_of_ble_eq_true rfl, zDf_Kt⟩
theorem zk_N_259 : zLkI "NetDesk" 259 M_Kt_init 2 := ⟨zc_Kt_init, rfl, rfl, zt4 232 rfl, Or.inl (zt4 231 rfl)⟩
theorem zk_N_262 : zLkV "NetDesk" 262 7 M_Kp_put 1 := ⟨zc_Kp_put, ⟨_, _, _, rfl, Or.inl (zt5 6 rfl)⟩, zt5 5 rfl, Or.inl (zt5 4 rfl)⟩
theorem zk_Jr_18 : zLkV "NetDesk$Jar" 18 5 M_Al_size 0 := ⟨zc_Al_size, ⟨_, _, _, rfl, Or.inl (zt4 95 rfl)⟩, zt4 94 rfl, Or.inl (zt4 196 rfl)⟩
theorem zk_Jr_22 : zLkV "NetDesk$Jar" 22 5 M_Al_get 1 := ⟨zc_Al_get, ⟨_, _, _, rfl, Or.inl (zt4 99 rfl)⟩, zt4 98 rfl, Or.inl (zt4 197 rfl)⟩
theorem zf_Jr_28 : zFl "NetDesk$Jar" 28 11 0 := ⟨_, _, _, "NetDesk$Cookie", rfl, Nat.le_of_ble_eq_true rfl, in_Ck, Or.inl (zt4 211 rfl), Or.inl rfl⟩
theorem zk_Jr_32 : zLkV "NetDesk$Jar" 32 8 M_St_equals 1 := ⟨zc_St_equals, ⟨_, _, _, rfl, Or.inl (zt3 161 rfl)⟩, zt3 160 rfl, Or.inl (zt4 199 rfl)⟩
theorem zk_Jr_48 : zLkV "NetDesk$Jar" 48 1 M_Sb_length 0 := ⟨zc_Sb_length, ⟨_, _, _, rfl, Or.inl (zt2 30 rfl)⟩, zt2 29 rfl, Or.inl (zt4 200 rfl)⟩
theorem zk_Jr_53 : zLkV "NetDesk$Jar" 53 1 M_Sb_append_0 1 := ⟨zc_Sb_append_0, ⟨_, _, _, rfl, Or.inl (zt2 41 rfl)⟩, zt2 40 rfl, Or.inl (zt4 201 rfl)⟩
theorem zf_Jr_38 : zFl "NetDesk$Jar" 38 11 1 := ⟨_, _, _, "NetDesk$Cookie", rfl, Nat.le_of_ble_eq_true rfl, in_Ck, Or.inl (zt4 213 rfl), Or.inl rfl⟩
theorem zk_Jr_57 : zLkV "NetDesk$Jar" 57 1 M_Sb_append_1 1 := ⟨zc_Sb_append_1, ⟨_, _, _, rfl, Or.inl (zt3 175 rfl)⟩, zt3 174 rfl, Or.inl (zt4 202 rfl)⟩
theorem zf_Jr_60 : zFl "NetDesk$Jar" 60 11 2 := ⟨_, _, _, "NetDesk$Cookie", rfl, Nat.le_of_ble_eq_true rfl, in_Ck, Or.inl (zt4 215 rfl), Or.inl rfl⟩
theorem zk_Jr_41 : zLkV "NetDesk$Jar" 41 5 M_Al_set 2 := ⟨zc_Al_set, ⟨_, _, _, rfl, Or.inl (zt4 116 rfl)⟩, zt4 115 rfl, Or.inl (zt4 227 rfl)⟩
theorem zk_Jr_45 : zLkV "NetDesk$Jar" 45 5 M_Al_add_0 1 := ⟨zc_Al_add_0, ⟨_, _, _, rfl, Or.inl (zt4 120 rfl)⟩, zt4 119 rfl, Or.inl (zt4 228 rfl)⟩
theorem zk_Kp_46 : zLkV "NetDesk$Keep" 46 5 M_Al_remove 1 := ⟨zc_Al_remove, ⟨_, _, _, rfl, Or.inl (zt5 10 rfl)⟩, zt5 9 rfl, Or.inl (zt5 8 rfl)⟩
theorem zk_Kp_49 : zLkV "NetDesk$Keep" 49 5 M_Al_add_0 1 := ⟨zc_Al_add_0, ⟨_, _, _, rfl, Or.inl (zt4 120 rfl)⟩, zt4 119 rfl, Or.inl (zt5 17 rfl)⟩
theorem zk_N_180 : zLkV "NetDesk" 180 8 M_St_charAt 1 := ⟨zc_St_charAt, ⟨_, _, _, rfl, Or.inl (zt3 7 rfl)⟩, zt3 6 rfl, Or.inl (zt5 23 rfl)⟩
theorem zp_N_tick_72 : zPf M_N_tick 72 0 9 .int := ⟨zf_N_72, _, _, _, ty_N, rfl, tyok_N, nm_N, rfl, Or.inl rfl⟩
theorem zk_N_181 : zLkS "NetDesk" 181 M_Tx_noNameAt 1 := ⟨zc_Tx_noNameAt, zt3 133 rfl, Or.inl (zt5 32 rfl)⟩
theorem zk_N_184 : zLkV "NetDesk" 184 6 M_Jr_dropLast 1 := ⟨zc_Jr_dropLast, ⟨_, _, _, rfl, Or.inl (zt5 35 rfl)⟩, zt5 34 rfl, Or.inl (zt5 33 rfl)⟩
theorem zk_Jr_63 : zLkV "NetDesk$Jar" 63 5 M_Al_remove 1 := ⟨zc_Al_remove, ⟨_, _, _, rfl, Or.inl (zt5 10 rfl)⟩, zt5 9 rfl, Or.inl (zt5 37 rfl)⟩
theorem zk_N_194 : zLkV "NetDesk" 194 6 M_Jr_size 0 := ⟨zc_Jr_size, ⟨_, _, _, rfl, Or.inl (zt5 48 rfl)⟩, zt5 47 rfl, Or.inl (zt5 46 rfl)⟩
theorem zk_N_195 : zLkV "NetDesk" 195 7 M_Kp_size 0 := ⟨zc_Kp_size, ⟨_, _, _, rfl, Or.inl (zt5 52 rfl)⟩, zt5 51 rfl, Or.inl (zt5 50 rfl)⟩
theorem zf_N_196 : zFl "NetDesk" 196 3 5 := ⟨_, _, _, "NetDesk$Answer", rfl, Nat.le_of_ble_eq_true rfl, in_An, Or.inl (zt1 144 rfl), Or.inl rfl⟩
theorem sN_init_0 {G : zG} {d : Nat} {Q : Option Value → Heap → Prop} {H : Heap} {st : List Value} {a0 : Nat} (hd : 1 ≤ d) (hl : st.length ≤ 4) (kk : zW G d M_N_init 4 [some (.ref a0)] st H Q) : zW G d M_N_init 0 [some (.ref a0)] st H Q :=
  zw_aload_n (i := 0) dN_init_0 rfl rfl zRf_ref <| zw_objInit dN_init_1 hd (zt1 33 rfl) zo_inst zo_code hl kk
theorem sN_init_4 {G : zG} {d : Nat} {Q : Option Value → Heap → Prop} {H : Heap} {st : List Value} {v0 : Value} (hr0 : zRf v0 := by first | exact zRf_ref | exact zRf_null | exact zRf_rf _ | assumption) (hc1 : H.size + 1 ≤ zCp G) (hs1 : zT H + 4 ≤ zSp G) (kk : ∀ H1 : Heap, zObj G H1 H.size 1 [.null, .int 0, .int 0, .int 0] → zNw 4 H H1 → zW G d M_N_init 8 [some v0] ((.ref H.size) :: v0 :: st) H1 Q) : zW G d M_N_init 4 [some v0] st H Q :=
  zw_aload_n (i := 0) dN_init_4 rfl rfl hr0 <| zw_new dN_init_5 zn_N_init_7 hc1 hs1 kk
theorem sN_init_8 {G : zG} {d : Nat} {Q : Option Value → Heap → Prop} {H : Heap} {st : List Value} {o0 : Option Value} {as0 : Nat} {P : Heap → Prop} (hd : 1 ≤ d) (hl : ((.ref as0) :: st).length ≤ 4) (hc : zC G (d - 1) M_Sb_init [(.ref as0)] H (zPv P)) (kk : ∀ H1 : Heap, P H1 → zOk G H1 → H.size ≤ H1.size → zT H ≤ zT H1 → zW G d M_N_init 12 [o0] ((.ref as0) :: st) H1 Q) : zW G d M_N_init 8 [o0] ((.ref as0) :: st) H Q :=
  zw_dup dN_init_8 rfl <| zw_callI [] _ dN_init_9 hd zk_N_9 rfl rfl hl hc (zPv_k kk)
theorem sN_init_12 {G : zG} {d : Nat} {Q : Option Value → Heap → Prop} {H : Heap} {st : List Value} {o0 : Option Value} {vs0 : Value} {as1 : Nat} {b0 : Value} {b1 : Value} {b2 : Value} {b3 : Value} {b4 : Value} {b5 : Value} {b6 : Value} {b7 : Value} {b8 : Value} {b9 : Value} {b10 : Value} {b11 : Value} {b12 : Value} {b13 : Value} {b14 : Value} {b15 : Value} {b16 : Value} (hrs0 : zRf vs0 := by first | exact zRf_ref | exact zRf_null | exact zRf_rf _ | assumption) (ho : zObj G H as1 0 [b0, b1, b2, b3, b4, b5, b6, b7, b8, b9, b10, b11, b12, b13, b14, b15, b16]) (hw : zFr G as1) (kk : ∀ H1 : Heap, zObj G H1 as1 0 [vs0, b1, b2, b3, b4, b5, b6, b7, b8, b9, b10, b11, b12, b13, b14, b15, b16] → zUp as1 H H1 → zW G d M_N_init 15 [o0] st H1 Q) : zW G d M_N_init 12 [o0] (vs0 :: (.ref as1) :: st) H Q :=
  zw_putf (k := 0) dN_init_12 zp_N_init_10 ho (Nat.le_of_ble_eq_true rfl) (Nat.le_of_ble_eq_true rfl) hw (zNarO hrs0) (zFitO hrs0) kk
theorem sN_init_15 {G : zG} {d : Nat} {Q : Option Value → Heap → Prop} {H : Heap} {st : List Value} {v0 : Value} (hr0 : zRf v0 := by first | exact zRf_ref | exact zRf_null | exact zRf_rf _ | assumption) (hc1 : H.size + 1 ≤ zCp G) (hs1 : zT H + 4 ≤ zSp G) (kk : ∀ H1 : Heap, zObj G H1 H.size 1 [.null, .int 0, .int 0, .int 0] → zNw 4 H H1 → zW G d M_N_init 19 [some v0] ((.ref H.size) :: v0 :: st) H1 Q) : zW G d M_N_init 15 [some v0] st H Q :=
  zw_aload_n (i := 0) dN_init_15 rfl rfl hr0 <| zw_new dN_init_16 zn_N_init_7 hc1 hs1 kk
theorem sN_init_19 {G : zG} {d : Nat} {Q : Option Value → Heap → Prop} {H : Heap} {st : List Value} {o0 : Option Value} {as0 : Nat} {P : Heap → Prop} (hd : 1 ≤ d) (hl : ((.ref as0) :: st).length ≤ 4) (hc : zC G (d - 1) M_Sb_init [(.ref as0)] H (zPv P)) (kk : ∀ H1 : Heap, P H1 → zOk G H1 → H.size ≤ H1.size → zT H ≤ zT H1 → zW G d M_N_init 23 [o0] ((.ref as0) :: st) H1 Q) : zW G d M_N_init 19 [o0] ((.ref as0) :: st) H Q :=
  zw_dup dN_init_19 rfl <| zw_callI [] _ dN_init_20 hd zk_N_9 rfl rfl hl hc (zPv_k kk)
theorem sN_init_23 {G : zG} {d : Nat} {Q : Option Value → Heap → Prop} {H : Heap} {st : List Value} {o0 : Option Value} {vs0 : Value} {as1 : Nat} {b0 : Value} {b1 : Value} {b2 : Value} {b3 : Value} {b4 : Value} {b5 : Value} {b6 : Value} {b7 : Value} {b8 : Value} {b9 : Value} {b10 : Value} {b11 : Value} {b12 : Value} {b13 : Value} {b14 : Value} {b15 : Value} {b16 : Value} (hrs0 : zRf vs0 := by first | exact zRf_ref | exact zRf_null | exact zRf_rf _ | assumption) (ho : zObj G H as1 0 [b0, b1, b2, b3, b4, b5, b6, b7, b8, b9, b10, b11, b12, b13, b14, b15, b16]) (hw : zFr G as1) (kk : ∀ H1 : Heap, zObj G H1 as1 0 [b0, vs0, b2, b3, b4, b5, b6, b7, b8, b9, b10, b11, b12, b13, b14, b15, b16] → zUp as1 H H1 → zW G d M_N_init 26 [o0] st H1 Q) : zW G d M_N_init 23 [o0] (vs0 :: (.ref as1) :: st) H Q :=
  zw_putf (k := 1) dN_init_23 zp_N_init_16 ho (Nat.le_of_ble_eq_true rfl) (Nat.le_of_ble_eq_true rfl) hw (zNarO hrs0) (zFitO hrs0) kk
theorem sN_init_26 {G : zG} {d : Nat} {Q : Option Value → Heap → Prop} {H : Heap} {st : List Value} {v0 : Value} (hr0 : zRf v0 := by first | exact zRf_ref | exact zRf_null | exact zRf_rf _ | assumption) (hc1 : H.size + 1 ≤ zCp G) (hs1 : zT H + 4 ≤ zSp G) (kk : ∀ H1 : Heap, zObj G H1 H.size 2 [.null, .null, .null, .null] → zNw 4 H H1 → zW G d M_N_init 30 [some v0] ((.ref H.size) :: v0 :: st) H1 Q) : zW G d M_N_init 26 [some v0] st H Q :=
  zw_aload_n (i := 0) dN_init_26 rfl rfl hr0 <| zw_new dN_init_27 zn_N_init_19 hc1 hs1 kk
theorem sN_init_30 {G : zG} {d : Nat} {Q : Option Value → Heap → Prop} {H : Heap} {st : List Value} {o0 : Option Value} {as0 : Nat} {ak1 : Nat} {ak2 : Nat} {ak3 : Nat} {ak4 : Nat} {P : Heap → Prop} (hk1 : vk_R "NetDesk" 21 "home" ak1 (zS G)) (hk2 : vk_R "NetDesk" 23 "/" ak2 (zS G)) (hk3 : vk_R "NetDesk" 25 "" ak3 (zS G)) (hk4 : vk_R "NetDesk" 25 "" ak4 (zS G)) (hd : 1 ≤ d) (hl : ((.ref as0) :: st).length ≤ 4) (hc : zC G (d - 1) M_Ad_init [(.ref as0), (.ref ak1), (.ref ak2), (.ref ak3), (.ref ak4)] H (zPv P)) (kk : ∀ H1 : Heap, P H1 → zOk G H1 → H.size ≤ H1.size → zT H ≤ zT H1 → zW G d M_N_init 42 [o0] ((.ref as0) :: st) H1 Q) : zW G d M_N_init 30 [o0] ((.ref as0) :: st) H Q :=
  zw_dup dN_init_30 rfl <| zw_ldcS dN_init_31 rfl hk1 <| zw_ldcS dN_init_33 rfl hk2 <| zw_ldcS dN_init_35 rfl hk3 <| zw_ldcS dN_init_37 rfl hk4 <| zw_callI [(.ref ak1), (.ref ak2), (.ref ak3), (.ref ak4)] _ dN_init_39 hd zk_N_27 rfl rfl hl hc (zPv_k kk)
theorem sN_init_42 {G : zG} {d : Nat} {Q : Option Value → Heap → Prop} {H : Heap} {st : List Value} {o0 : Option Value} {vs0 : Value} {as1 : Nat} {b0 : Value} {b1 : Value} {b2 : Value} {b3 : Value} {b4 : Value} {b5 : Value} {b6 : Value} {b7 : Value} {b8 : Value} {b9 : Value} {b10 : Value} {b11 : Value} {b12 : Value} {b13 : Value} {b14 : Value} {b15 : Value} {b16 : Value} (hrs0 : zRf vs0 := by first | exact zRf_ref | exact zRf_null | exact zRf_rf _ | assumption) (ho : zObj G H as1 0 [b0, b1, b2, b3, b4, b5, b6, b7, b8, b9, b10, b11, b12, b13, b14, b15, b16]) (hw : zFr G as1) (kk : ∀ H1 : Heap, zObj G H1 as1 0 [b0, b1, vs0, b3, b4, b5, b6, b7, b8, b9, b10, b11, b12, b13, b14, b15, b16] → zUp as1 H H1 → zW G d M_N_init 45 [o0] st H1 Q) : zW G d M_N_init 42 [o0] (vs0 :: (.ref as1) :: st) H Q :=
  zw_putf (k := 2) dN_init_42 zp_N_init_30 ho (Nat.le_of_ble_eq_true rfl) (Nat.le_of_ble_eq_true rfl) hw (zNarO hrs0) (zFitO hrs0) kk
theorem sN_init_45 {G : zG} {d : Nat} {Q : Option Value → Heap → Prop} {H : Heap} {st : List Value} {v0 : Value} (hr0 : zRf v0 := by first | exact zRf_ref | exact zRf_null | exact zRf_rf _ | assumption) (hc1 : H.size + 1 ≤ zCp G) (hs1 : zT H + 7 ≤ zSp G) (kk : ∀ H1 : Heap, zObj G H1 H.size 3 [.null, .int 0, .null, .null, .null, .int 0, .null] → zNw 7 H H1 → zW G d M_N_init 49 [some v0] ((.ref H.size) :: v0 :: st) H1 Q) : zW G d M_N_init 45 [some v0] st H Q :=
  zw_aload_n (i := 0) dN_init_45 rfl rfl hr0 <| zw_new dN_init_46 zn_N_init_33 hc1 hs1 kk
theorem sN_init_49 {G : zG} {d : Nat} {Q : Option Value → Heap → Prop} {H : Heap} {st : List Value} {ws0 : Value} {a0 : Nat} {vf1 : Value} (hcs0 : ws0.category = 1 := by first | rfl | exact zRf.cat (by assumption)) (hrf1 : zRf vf1 := by first | exact zRf_ref | exact zRf_null | exact zRf_rf _ | assumption) (hf1 : zFd G H a0 0 2 vf1) (hc1 : H.size + 1 ≤ zCp G) (hs1 : zT H + 6 ≤ zSp G) (kk : ∀ H1 : Heap, zObj G H1 H.size 4 [.int 0, .int 0, .null, .null, .null, .int 0] → zNw 6 H H1 → zW G d M_N_init 57 [some (.ref a0)] ((.ref H.size) :: vf1 :: ws0 :: ws0 :: st) H1 Q) : zW G d M_N_init 49 [some (.ref a0)] (ws0 :: st) H Q :=
  zw_dup dN_init_49 hcs0 <| zw_aload_n (i := 0) dN_init_50 rfl rfl zRf_ref <| zw_getf dN_init_51 zf_N_30 hf1 <| zw_new dN_init_54 zn_N_init_35 hc1 hs1 kk
theorem sN_init_57 {G : zG} {d : Nat} {Q : Option Value → Heap → Prop} {H : Heap} {st : List Value} {o0 : Option Value} {as0 : Nat} {P : Heap → Prop} (hd : 1 ≤ d) (hl : ((.ref as0) :: st).length ≤ 4) (hc : zC G (d - 1) M_Fl_init [(.ref as0)] H (zPv P)) (kk : ∀ H1 : Heap, P H1 → zOk G H1 → H.size ≤ H1.size → zT H ≤ zT H1 → zW G d M_N_init 61 [o0] ((.ref as0) :: st) H1 Q) : zW G d M_N_init 57 [o0] ((.ref as0) :: st) H Q :=
  zw_dup dN_init_57 rfl <| zw_callI [] _ dN_init_58 hd zk_N_37 rfl rfl hl hc (zPv_k kk)
theorem sN_init_61 {G : zG} {d : Nat} {Q : Option Value → Heap → Prop} {H : Heap} {st : List Value} {o0 : Option Value} {ak1 : Nat} {vs0 : Value} {vs1 : Value} {as2 : Nat} {P : Heap → Prop} (hrs0 : zRf vs0 := by first | exact zRf_ref | exact zRf_null | exact zRf_rf _ | assumption) (hrs1 : zRf vs1 := by first | exact zRf_ref | exact zRf_null | exact zRf_rf _ | assumption) (hk1 : vk_R "NetDesk" 25 "" ak1 (zS G)) (hd : 1 ≤ d) (hl : st.length ≤ 4) (hc : zC G (d - 1) M_An_init [(.ref as2), vs1, vs0, (.ref ak1)] H (zPv P)) (kk : ∀ H1 : Heap, P H1 → zOk G H1 → H.size ≤ H1.size → zT H ≤ zT H1 → zW G d M_N_init 66 [o0] st H1 Q) : zW G d M_N_init 61 [o0] (vs0 :: vs1 :: (.ref as2) :: st) H Q :=
  zw_ldcS dN_init_61 rfl hk1 <| zw_callI [vs1, vs0, (.ref ak1)] _ dN_init_63 hd zk_N_38 rfl rfl hl hc (zPv_k kk)
theorem sN_init_66 {G : zG} {d : Nat} {Q : Option Value → Heap → Prop} {H : Heap} {st : List Value} {o0 : Option Value} {vs0 : Value} {as1 : Nat} {b0 : Value} {b1 : Value} {b2 : Value} {b3 : Value} {b4 : Value} {b5 : Value} {b6 : Value} {b7 : Value} {b8 : Value} {b9 : Value} {b10 : Value} {b11 : Value} {b12 : Value} {b13 : Value} {b14 : Value} {b15 : Value} {b16 : Value} (hrs0 : zRf vs0 := by first | exact zRf_ref | exact zRf_null | exact zRf_rf _ | assumption) (ho : zObj G H as1 0 [b0, b1, b2, b3, b4, b5, b6, b7, b8, b9, b10, b11, b12, b13, b14, b15, b16]) (hw : zFr G as1) (kk : ∀ H1 : Heap, zObj G H1 as1 0 [b0, b1, b2, vs0, b4, b5, b6, b7, b8, b9, b10, b11, b12, b13, b14, b15, b16] → zUp as1 H H1 → zW G d M_N_init 69 [o0] st H1 Q) : zW G d M_N_init 66 [o0] (vs0 :: (.ref as1) :: st) H Q :=
  zw_putf (k := 3) dN_init_66 zp_N_init_41 ho (Nat.le_of_ble_eq_true rfl) (Nat.le_of_ble_eq_true rfl) hw (zNarO hrs0) (zFitO hrs0) kk
theorem sN_init_69 {G : zG} {d : Nat} {Q : Option Value → Heap → Prop} {H : Heap} {st : List Value} {v0 : Value} (hr0 : zRf v0 := by first | exact zRf_ref | exact zRf_null | exact zRf_rf _ | assumption) (hc1 : H.size + 1 ≤ zCp G) (hs1 : zT H + 3 ≤ zSp G) (kk : ∀ H1 : Heap, zObj G H1 H.size 5 [.null, .int 0, .int 0] → zNw 3 H H1 → zW G d M_N_init 73 [some v0] ((.ref H.size) :: v0 :: st) H1 Q) : zW G d M_N_init 69 [some v0] st H Q :=
  zw_aload_n (i := 0) dN_init_69 rfl rfl hr0 <| zw_new dN_init_70 zn_N_init_45 hc1 hs1 kk
theorem sN_init_73 {G : zG} {d : Nat} {Q : Option Value → Heap → Prop} {H : Heap} {st : List Value} {o0 : Option Value} {as0 : Nat} {P : Heap → Prop} (hd : 1 ≤ d) (hl : ((.ref as0) :: st).length ≤ 4) (hc : zC G (d - 1) M_Al_init [(.ref as0)] H (zPv P)) (kk : ∀ H1 : Heap, P H1 → zOk G H1 → H.size ≤ H1.size → zT H ≤ zT H1 → zW G d M_N_init 77 [o0] ((.ref as0) :: st) H1 Q) : zW G d M_N_init 73 [o0] ((.ref as0) :: st) H Q :=
  zw_dup dN_init_73 rfl <| zw_callI [] _ dN_init_74 hd zk_N_47 rfl rfl hl hc (zPv_k kk)
theorem sN_init_77 {G : zG} {d : Nat} {Q : Option Value → Heap → Prop} {H : Heap} {st : List Value} {o0 : Option Value} {vs0 : Value} {as1 : Nat} {b0 : Value} {b1 : Value} {b2 : Value} {b3 : Value} {b4 : Value} {b5 : Value} {b6 : Value} {b7 : Value} {b8 : Value} {b9 : Value} {b10 : Value} {b11 : Value} {b12 : Value} {b13 : Value} {b14 : Value} {b15 : Value} {b16 : Value} (hrs0 : zRf vs0 := by first | exact zRf_ref | exact zRf_null | exact zRf_rf _ | assumption) (ho : zObj G H as1 0 [b0, b1, b2, b3, b4, b5, b6, b7, b8, b9, b10, b11, b12, b13, b14, b15, b16]) (hw : zFr G as1) (kk : ∀ H1 : Heap, zObj G H1 as1 0 [b0, b1, b2, b3, vs0, b5, b6, b7, b8, b9, b10, b11, b12, b13, b14, b15, b16] → zUp as1 H H1 → zW G d M_N_init 80 [o0] st H1 Q) : zW G d M_N_init 77 [o0] (vs0 :: (.ref as1) :: st) H Q :=
  zw_putf (k := 4) dN_init_77 zp_N_init_48 ho (Nat.le_of_ble_eq_true rfl) (Nat.le_of_ble_eq_true rfl) hw (zNarO hrs0) (zFitO hrs0) kk
theorem sN_init_80 {G : zG} {d : Nat} {Q : Option Value → Heap → Prop} {H : Heap} {st : List Value} {v0 : Value} (hr0 : zRf v0 := by first | exact zRf_ref | exact zRf_null | exact zRf_rf _ | assumption) (hc1 : H.size + 1 ≤ zCp G) (hs1 : zT H + 1 ≤ zSp G) (kk : ∀ H1 : Heap, zObj G H1 H.size 6 [.null] → zNw 1 H H1 → zW G d M_N_init 84 [some v0] ((.ref H.size) :: v0 :: st) H1 Q) : zW G d M_N_init 80 [some v0] st H Q :=
  zw_aload_n (i := 0) dN_init_80 rfl rfl hr0 <| zw_new dN_init_81 zn_N_init_52 hc1 hs1 kk
theorem sN_init_84 {G : zG} {d : Nat} {Q : Option Value → Heap → Prop} {H : Heap} {st : List Value} {o0 : Option Value} {as0 : Nat} {P : Heap → Prop} (hd : 1 ≤ d) (hl : ((.ref as0) :: st).length ≤ 4) (hc : zC G (d - 1) M_Jr_init [(.ref as0)] H (zPv P)) (kk : ∀ H1 : Heap, P H1 → zOk G H1 → H.size ≤ H1.size → zT H ≤ zT H1 → zW G d M_N_init 88 [o0] ((.ref as0) :: st) H1 Q) : zW G d M_N_init 84 [o0] ((.ref as0) :: st) H Q :=
  zw_dup dN_init_84 rfl <| zw_callI [] _ dN_init_85 hd zk_N_54 rfl rfl hl hc (zPv_k kk)
theorem sN_init_88 {G : zG} {d : Nat} {Q : Option Value → Heap → Prop} {H : Heap} {st : List Value} {o0 : Option Value} {vs0 : Value} {as1 : Nat} {b0 : Value} {b1 : Value} {b2 : Value} {b3 : Value} {b4 : Value} {b5 : Value} {b6 : Value} {b7 : Value} {b8 : Value} {b9 : Value} {b10 : Value} {b11 : Value} {b12 : Value} {b13 : Value} {b14 : Value} {b15 : Value} {b16 : Value} (hrs0 : zRf vs0 := by first | exact zRf_ref | exact zRf_null | exact zRf_rf _ | assumption) (ho : zObj G H as1 0 [b0, b1, b2, b3, b4, b5, b6, b7, b8, b9, b10, b11, b12, b13, b14, b15, b16]) (hw : zFr G as1) (kk : ∀ H1 : Heap, zObj G H1 as1 0 [b0, b1, b2, b3, b4, vs0, b6, b7, b8, b9, b10, b11, b12, b13, b14, b15, b16] → zUp as1 H H1 → zW G d M_N_init 91 [o0] st H1 Q) : zW G d M_N_init 88 [o0] (vs0 :: (.ref as1) :: st) H Q :=
  zw_putf (k := 5) dN_init_88 zp_N_init_55 ho (Nat.le_of_ble_eq_true rfl) (Nat.le_of_ble_eq_true rfl) hw (zNarO hrs0) (zFitO hrs0) kk
theorem sN_init_91 {G : zG} {d : Nat} {Q : Option Value → Heap → Prop} {H : Heap} {st : List Value} {v0 : Value} (hr0 : zRf v0 := by first | exact zRf_ref | exact zRf_null | exact zRf_rf _ | assumption) (hc1 : H.size + 1 ≤ zCp G) (hs1 : zT H + 1 ≤ zSp G) (kk : ∀ H1 : Heap, zObj G H1 H.size 7 [.null] → zNw 1 H H1 → zW G d M_N_init 95 [some v0] ((.ref H.size) :: v0 :: st) H1 Q) : zW G d M_N_init 91 [some v0] st H Q :=
  zw_aload_n (i := 0) dN_init_91 rfl rfl hr0 <| zw_new dN_init_92 zn_N_init_59 hc1 hs1 kk
theorem sN_init_95 {G : zG} {d : Nat} {Q : Option Value → Heap → Prop} {H : Heap} {st : List Value} {o0 : Option Value} {as0 : Nat} {P : Heap → Prop} (hd : 1 ≤ d) (hl : ((.ref as0) :: st).length ≤ 4) (hc : zC G (d - 1) M_Kp_init [(.ref as0)] H (zPv P)) (kk : ∀ H1 : Heap, P H1 → zOk G H1 → H.size ≤ H1.size → zT H ≤ zT H1 → zW G d M_N_init 99 [o0] ((.ref as0) :: st) H1 Q) : zW G d M_N_init 95 [o0] ((.ref as0) :: st) H Q :=
  zw_dup dN_init_95 rfl <| zw_callI [] _ dN_init_96 hd zk_N_61 rfl rfl hl hc (zPv_k kk)
theorem sN_init_99 {G : zG} {d : Nat} {Q : Option Value → Heap → Prop} {H : Heap} {st : List Value} {o0 : Option Value} {vs0 : Value} {as1 : Nat} {b0 : Value} {b1 : Value} {b2 : Value} {b3 : Value} {b4 : Value} {b5 : Value} {b6 : Value} {b7 : Value} {b8 : Value} {b9 : Value} {b10 : Value} {b11 : Value} {b12 : Value} {b13 : Value} {b14 : Value} {b15 : Value} {b16 : Value} (hrs0 : zRf vs0 := by first | exact zRf_ref | exact zRf_null | exact zRf_rf _ | assumption) (ho : zObj G H as1 0 [b0, b1, b2, b3, b4, b5, b6, b7, b8, b9, b10, b11, b12, b13, b14, b15, b16]) (hw : zFr G as1) (kk : ∀ H1 : Heap, zObj G H1 as1 0 [b0, b1, b2, b3, b4, b5, vs0, b7, b8, b9, b10, b11, b12, b13, b14, b15, b16] → zUp as1 H H1 → zW G d M_N_init 102 [o0] st H1 Q) : zW G d M_N_init 99 [o0] (vs0 :: (.ref as1) :: st) H Q :=
  zw_putf (k := 6) dN_init_99 zp_N_init_62 ho (Nat.le_of_ble_eq_true rfl) (Nat.le_of_ble_eq_true rfl) hw (zNarO hrs0) (zFitO hrs0) kk
theorem sN_init_102 {G : zG} {d : Nat} {Q : Option Value → Heap → Prop} {H : Heap} {st : List Value} {v0 : Value} (hr0 : zRf v0 := by first | exact zRf_ref | exact zRf_null | exact zRf_rf _ | assumption) (hc1 : H.size + 1 ≤ zCp G) (hs1 : zT H + 4 ≤ zSp G) (kk : ∀ H1 : Heap, zObj G H1 H.size 1 [.null, .int 0, .int 0, .int 0] → zNw 4 H H1 → zW G d M_N_init 106 [some v0] ((.ref H.size) :: v0 :: st) H1 Q) : zW G d M_N_init 102 [some v0] st H Q :=
  zw_aload_n (i := 0) dN_init_102 rfl rfl hr0 <| zw_new dN_init_103 zn_N_init_7 hc1 hs1 kk
theorem sN_init_106 {G : zG} {d : Nat} {Q : Option Value → Heap → Prop} {H : Heap} {st : List Value} {o0 : Option Value} {as0 : Nat} {P : Heap → Prop} (hd : 1 ≤ d) (hl : ((.ref as0) :: st).length ≤ 4) (hc : zC G (d - 1) M_Sb_init [(.ref as0)] H (zPv P)) (kk : ∀ H1 : Heap, P H1 → zOk G H1 → H.size ≤ H1.size → zT H ≤ zT H1 → zW G d M_N_init 110 [o0] ((.ref as0) :: st) H1 Q) : zW G d M_N_init 106 [o0] ((.ref as0) :: st) H Q :=
  zw_dup dN_init_106 rfl <| zw_callI [] _ dN_init_107 hd zk_N_9 rfl rfl hl hc (zPv_k kk)
theorem sN_init_110 {G : zG} {d : Nat} {Q : Option Value → Heap → Prop} {H : Heap} {st : List Value} {o0 : Option Value} {vs0 : Value} {as1 : Nat} {b0 : Value} {b1 : Value} {b2 : Value} {b3 : Value} {b4 : Value} {b5 : Value} {b6 : Value} {b7 : Value} {b8 : Value} {b9 : Value} {b10 : Value} {b11 : Value} {b12 : Value} {b13 : Value} {b14 : Value} {b15 : Value} {b16 : Value} (hrs0 : zRf vs0 := by first | exact zRf_ref | exact zRf_null | exact zRf_rf _ | assumption) (ho : zObj G H as1 0 [b0, b1, b2, b3, b4, b5, b6, b7, b8, b9, b10, b11, b12, b13, b14, b15, b16]) (hw : zFr G as1) (kk : ∀ H1 : Heap, zObj G H1 as1 0 [b0, b1, b2, b3, b4, b5, b6, vs0, b8, b9, b10, b11, b12, b13, b14, b15, b16] → zUp as1 H H1 → zW G d M_N_init 113 [o0] st H1 Q) : zW G d M_N_init 110 [o0] (vs0 :: (.ref as1) :: st) H Q :=
  zw_putf (k := 7) dN_init_110 zp_N_init_66 ho (Nat.le_of_ble_eq_true rfl) (Nat.le_of_ble_eq_true rfl) hw (zNarO hrs0) (zFitO hrs0) kk
theorem sN_init_113 {G : zG} {d : Nat} {Q : Option Value → Heap → Prop} {H : Heap} {st : List Value} {a0 : Nat} {vf1 : Value} {b0 : Value} {b1 : Value} {b2 : Value} {b3 : Value} {b4 : Value} {b5 : Value} {b6 : Value} {b7 : Value} {b8 : Value} {b9 : Value} {b10 : Value} {b11 : Value} {b12 : Value} {b13 : Value} {b14 : Value} {b15 : Value} {b16 : Value} (hrf1 : zRf vf1 := by first | exact zRf_ref | exact zRf_null | exact zRf_rf _ | assumption) (hf1 : zFd G H a0 0 2 vf1) (ho : zObj G H a0 0 [b0, b1, b2, b3, b4, b5, b6, b7, b8, b9, b10, b11, b12, b13, b14, b15, b16]) (hw : zFr G a0) (kk : ∀ H1 : Heap, zObj G H1 a0 0 [b0, b1, b2, b3, b4, b5, b6, b7, vf1, b9, b10, b11, b12, b13, b14, b15, b16] → zUp a0 H H1 → zW G d M_N_init 121 [some (.ref a0)] st H1 Q) : zW G d M_N_init 113 [some (.ref a0)] st H Q :=
  zw_aload_n (i := 0) dN_init_113 rfl rfl zRf_ref <| zw_aload_n (i := 0) dN_init_114 rfl rfl zRf_ref <| zw_getf dN_init_115 zf_N_30 hf1 <| zw_putf (k := 8) dN_init_118 zp_N_init_69 ho (Nat.le_of_ble_eq_true rfl) (Nat.le_of_ble_eq_true rfl) hw (zNarO hrf1) (zFitO hrf1) kk
theorem sN_init_121 {G : zG} {d : Nat} {Q : Option Value → Heap → Prop} {H : Heap} {st : List Value} {a0 : Nat} {b0 : Value} {b1 : Value} {b2 : Value} {b3 : Value} {b4 : Value} {b5 : Value} {b6 : Value} {b7 : Value} {b8 : Value} {b9 : Value} {b10 : Value} {b11 : Value} {b12 : Value} {b13 : Value} {b14 : Value} {b15 : Value} {b16 : Value} (ho : zObj G H a0 0 [b0, b1, b2, b3, b4, b5, b6, b7, b8, b9, b10, b11, b12, b13, b14, b15, b16]) (hw : zFr G a0) (kk : ∀ H1 : Heap, zObj G H1 a0 0 [b0, b1, b2, b3, b4, b5, b6, b7, b8, (.int (0 : Int32)), b10, b11, b12, b13, b14, b15, b16] → zUp a0 H H1 → zW G d M_N_init 126 [some (.ref a0)] st H1 Q) : zW G d M_N_init 121 [some (.ref a0)] st H Q :=
  zw_aload_n (i := 0) dN_init_121 rfl rfl zRf_ref <| zw_iconst (0 : Int32) dN_init_122 zki_0 <| zw_putf (k := 9) dN_init_123 zp_N_init_72 ho (Nat.le_of_ble_eq_true rfl) (Nat.le_of_ble_eq_true rfl) hw rfl rfl kk
theorem sN_init_126 {G : zG} {d : Nat} {Q : Option Value → Heap → Prop} {H : Heap} {st : List Value} {a0 : Nat} {b0 : Value} {b1 : Value} {b2 : Value} {b3 : Value} {b4 : Value} {b5 : Value} {b6 : Value} {b7 : Value} {b8 : Value} {b9 : Value} {b10 : Value} {b11 : Value} {b12 : Value} {b13 : Value} {b14 : Value} {b15 : Value} {b16 : Value} (ho : zObj G H a0 0 [b0, b1, b2, b3, b4, b5, b6, b7, b8, b9, b10, b11, b12, b13, b14, b15, b16]) (hw : zFr G a0) (kk : ∀ H1 : Heap, zObj G H1 a0 0 [b0, b1, b2, b3, b4, b5, b6, b7, b8, b9, (.int (0 : Int32)), b11, b12, b13, b14, b15, b16] → zUp a0 H H1 → zW G d M_N_init 131 [some (.ref a0)] st H1 Q) : zW G d M_N_init 126 [some (.ref a0)] st H Q :=
  zw_aload_n (i := 0) dN_init_126 rfl rfl zRf_ref <| zw_iconst (0 : Int32) dN_init_127 zki_0 <| zw_putf (k := 10) dN_init_128 zp_N_init_76 ho (Nat.le_of_ble_eq_true rfl) (Nat.le_of_ble_eq_true rfl) hw rfl rfl kk
theorem sN_init_131 {G : zG} {d : Nat} {Q : Option Value → Heap → Prop} {H : Heap} {st : List Value} {a0 : Nat} {b0 : Value} {b1 : Value} {b2 : Value} {b3 : Value} {b4 : Value} {b5 : Value} {b6 : Value} {b7 : Value} {b8 : Value} {b9 : Value} {b10 : Value} {b11 : Value} {b12 : Value} {b13 : Value} {b14 : Value} {b15 : Value} {b16 : Value} (ho : zObj G H a0 0 [b0, b1, b2, b3, b4, b5, b6, b7, b8, b9, b10, b11, b12, b13, b14, b15, b16]) (hw : zFr G a0) (kk : ∀ H1 : Heap, zObj G H1 a0 0 [b0, b1, b2, b3, b4, b5, b6, b7, b8, b9, b10, .null, b12, b13, b14, b15, b16] → zUp a0 H H1 → zW G d M_N_init 136 [some (.ref a0)] st H1 Q) : zW G d M_N_init 131 [some (.ref a0)] st H Q :=
  zw_aload_n (i := 0) dN_init_131 rfl rfl zRf_ref <| zw_null dN_init_132 <| zw_putf (k := 11) dN_init_133 zp_N_init_79 ho (Nat.le_of_ble_eq_true rfl) (Nat.le_of_ble_eq_true rfl) hw (zNarO zRf_null) (zFitO zRf_null) kk
theorem sN_init_136 {G : zG} {d : Nat} {Q : Option Value → Heap → Prop} {H : Heap} {st : List Value} {a0 : Nat} {vf1 : Value} {b0 : Value} {b1 : Value} {b2 : Value} {b3 : Value} {b4 : Value} {b5 : Value} {b6 : Value} {b7 : Value} {b8 : Value} {b9 : Value} {b10 : Value} {b11 : Value} {b12 : Value} {b13 : Value} {b14 : Value} {b15 : Value} {b16 : Value} (hrf1 : zRf vf1 := by first | exact zRf_ref | exact zRf_null | exact zRf_rf _ | assumption) (hf1 : zFd G H a0 0 3 vf1) (ho : zObj G H a0 0 [b0, b1, b2, b3, b4, b5, b6, b7, b8, b9, b10, b11, b12, b13, b14, b15, b16]) (hw : zFr G a0) (kk : ∀ H1 : Heap, zObj G H1 a0 0 [b0, b1, b2, b3, b4, b5, b6, b7, b8, b9, b10, b11, vf1, b13, b14, b15, b16] → zUp a0 H H1 → zW G d M_N_init 144 [some (.ref a0)] st H1 Q) : zW G d M_N_init 136 [some (.ref a0)] st H Q :=
  zw_aload_n (i := 0) dN_init_136 rfl rfl zRf_ref <| zw_aload_n (i := 0) dN_init_137 rfl rfl zRf_ref <| zw_getf dN_init_138 zf_N_41 hf1 <| zw_putf (k := 12) dN_init_141 zp_N_init_82 ho (Nat.le_of_ble_eq_true rfl) (Nat.le_of_ble_eq_true rfl) hw (zNarO hrf1) (zFitO hrf1) kk
theorem sN_init_144 {G : zG} {d : Nat} {Q : Option Value → Heap → Prop} {H : Heap} {st : List Value} {a0 : Nat} {b0 : Value} {b1 : Value} {b2 : Value} {b3 : Value} {b4 : Value} {b5 : Value} {b6 : Value} {b7 : Value} {b8 : Value} {b9 : Value} {b10 : Value} {b11 : Value} {b12 : Value} {b13 : Value} {b14 : Value} {b15 : Value} {b16 : Value} (ho : zObj G H a0 0 [b0, b1, b2, b3, b4, b5, b6, b7, b8, b9, b10, b11, b12, b13, b14, b15, b16]) (hw : zFr G a0) (kk : ∀ H1 : Heap, zObj G H1 a0 0 [b0, b1, b2, b3, b4, b5, b6, b7, b8, b9, b10, b11, b12, .null, b14, b15, b16] → zUp a0 H H1 → zW G d M_N_init 149 [some (.ref a0)] st H1 Q) : zW G d M_N_init 144 [some (.ref a0)] st H Q :=
  zw_aload_n (i := 0) dN_init_144 rfl rfl zRf_ref <| zw_null dN_init_145 <| zw_putf (k := 13) dN_init_146 zp_N_init_85 ho (Nat.le_of_ble_eq_true rfl) (Nat.le_of_ble_eq_true rfl) hw (zNarO zRf_null) (zFitO zRf_null) kk
theorem sN_init_149 {G : zG} {d : Nat} {Q : Option Value → Heap → Prop} {H : Heap} {st : List Value} {a0 : Nat} {ak1 : Nat} {b0 : Value} {b1 : Value} {b2 : Value} {b3 : Value} {b4 : Value} {b5 : Value} {b6 : Value} {b7 : Value} {b8 : Value} {b9 : Value} {b10 : Value} {b11 : Value} {b12 : Value} {b13 : Value} {b14 : Value} {b15 : Value} {b16 : Value} (hk1 : vk_R "NetDesk" 25 "" ak1 (zS G)) (ho : zObj G H a0 0 [b0, b1, b2, b3, b4, b5, b6, b7, b8, b9, b10, b11, b12, b13, b14, b15, b16]) (hw : zFr G a0) (kk : ∀ H1 : Heap, zObj G H1 a0 0 [b0, b1, b2, b3, b4, b5, b6, b7, b8, b9, b10, b11, b12, b13, (.ref ak1), b15, b16] → zUp a0 H H1 → zW G d M_N_init 155 [some (.ref a0)] st H1 Q) : zW G d M_N_init 149 [some (.ref a0)] st H Q :=
  zw_aload_n (i := 0) dN_init_149 rfl rfl zRf_ref <| zw_ldcS dN_init_150 rfl hk1 <| zw_putf (k := 14) dN_init_152 zp_N_init_88 ho (Nat.le_of_ble_eq_true rfl) (Nat.le_of_ble_eq_true rfl) hw (zNarO zRf_ref) (zFitO zRf_ref) kk
theorem sN_init_155 {G : zG} {d : Nat} {Q : Option Value → Heap → Prop} {H : Heap} {st : List Value} {a0 : Nat} {b0 : Value} {b1 : Value} {b2 : Value} {b3 : Value} {b4 : Value} {b5 : Value} {b6 : Value} {b7 : Value} {b8 : Value} {b9 : Value} {b10 : Value} {b11 : Value} {b12 : Value} {b13 : Value} {b14 : Value} {b15 : Value} {b16 : Value} (ho : zObj G H a0 0 [b0, b1, b2, b3, b4, b5, b6, b7, b8, b9, b10, b11, b12, b13, b14, b15, b16]) (hw : zFr G a0) (kk : ∀ H1 : Heap, zObj G H1 a0 0 [b0, b1, b2, b3, b4, b5, b6, b7, b8, b9, b10, b11, b12, b13, b14, (.int (0 : Int32)), b16] → zUp a0 H H1 → zW G d M_N_init 160 [some (.ref a0)] st H1 Q) : zW G d M_N_init 155 [some (.ref a0)] st H Q :=
  zw_aload_n (i := 0) dN_init_155 rfl rfl zRf_ref <| zw_iconst (0 : Int32) dN_init_156 zki_0 <| zw_putf (k := 15) dN_init_157 zp_N_init_92 ho (Nat.le_of_ble_eq_true rfl) (Nat.le_of_ble_eq_true rfl) hw rfl rfl kk
theorem sN_init_160 {G : zG} {d : Nat} {Q : Option Value → Heap → Prop} {H : Heap} {st : List Value} {a0 : Nat} {b0 : Value} {b1 : Value} {b2 : Value} {b3 : Value} {b4 : Value} {b5 : Value} {b6 : Value} {b7 : Value} {b8 : Value} {b9 : Value} {b10 : Value} {b11 : Value} {b12 : Value} {b13 : Value} {b14 : Value} {b15 : Value} {b16 : Value} (ho : zObj G H a0 0 [b0, b1, b2, b3, b4, b5, b6, b7, b8, b9, b10, b11, b12, b13, b14, b15, b16]) (hw : zFr G a0) (hn : narrow .boolean (.int (0 : Int32)) = (.int (0 : Int32))) (hfit : fits .boolean (.int (0 : Int32)) = true) (kk : ∀ H1 : Heap, zObj G H1 a0 0 [b0, b1, b2, b3, b4, b5, b6, b7, b8, b9, b10, b11, b12, b13, b14, b15, (.int (0 : Int32))] → zUp a0 H H1 → zW G d M_N_init 165 [some (.ref a0)] st H1 Q) : zW G d M_N_init 160 [some (.ref a0)] st H Q :=
  zw_aload_n (i := 0) dN_init_160 rfl rfl zRf_ref <| zw_iconst (0 : Int32) dN_init_161 zki_0 <| zw_putf (k := 16) dN_init_162 zp_N_init_95 ho (Nat.le_of_ble_eq_true rfl) (Nat.le_of_ble_eq_true rfl) hw hn hfit kk
theorem sN_init_165 {G : zG} {d : Nat} {Q : Option Value → Heap → Prop} {H : Heap} {o0 : Option Value} (hq : Q none H) : zW G d M_N_init 165 [o0] [] H Q :=
  zw_vret dN_init_165 rfl hq
theorem sJr_init_0 {G : zG} {d : Nat} {Q : Option Value → Heap → Prop} {H : Heap} {st : List Value} {a0 : Nat} (hd : 1 ≤ d) (hl : st.length ≤ 4) (kk : zW G d M_Jr_init 4 [some (.ref a0)] st H Q) : zW G d M_Jr_init 0 [some (.ref a0)] st H Q :=
  zw_aload_n (i := 0) dJr_init_0 rfl rfl zRf_ref <| zw_objInit dJr_init_1 hd (zt1 193 rfl) zo_inst zo_code hl kk
theorem sJr_init_4 {G : zG} {d : Nat} {Q : Option Value → Heap → Prop} {H : Heap} {st : List Value} {v0 : Value} (hr0 : zRf v0 := by first | exact zRf_ref | exact zRf_null | exact zRf_rf _ | assumption) (hc1 : H.size + 1 ≤ zCp G) (hs1 : zT H + 3 ≤ zSp G) (kk : ∀ H1 : Heap, zObj G H1 H.size 5 [.null, .int 0, .int 0] → zNw 3 H H1 → zW G d M_Jr_init 8 [some v0] ((.ref H.size) :: v0 :: st) H1 Q) : zW G d M_Jr_init 4 [some v0] st H Q :=
  zw_aload_n (i := 0) dJr_init_4 rfl rfl hr0 <| zw_new dJr_init_5 zn_Jr_init_9 hc1 hs1 kk
theorem sJr_init_8 {G : zG} {d : Nat} {Q : Option Value → Heap → Prop} {H : Heap} {st : List Value} {o0 : Option Value} {as0 : Nat} {P : Heap → Prop} (hd : 1 ≤ d) (hl : ((.ref as0) :: st).length ≤ 4) (hc : zC G (d - 1) M_Al_init [(.ref as0)] H (zPv P)) (kk : ∀ H1 : Heap, P H1 → zOk G H1 → H.size ≤ H1.size → zT H ≤ zT H1 → zW G d M_Jr_init 12 [o0] ((.ref as0) :: st) H1 Q) : zW G d M_Jr_init 8 [o0] ((.ref as0) :: st) H Q :=
  zw_dup dJr_init_8 rfl <| zw_callI [] _ dJr_init_9 hd zk_Jr_11 rfl rfl hl hc (zPv_k kk)
theorem sJr_init_12 {G : zG} {d : Nat} {Q : Option Value → Heap → Prop} {H : Heap} {st : List Value} {o0 : Option Value} {vs0 : Value} {as1 : Nat} {b0 : Value} (hrs0 : zRf vs0 := by first | exact zRf_ref | exact zRf_null | exact zRf_rf _ | assumption) (ho : zObj G H as1 6 [b0]) (hw : zFr G as1) (kk : ∀ H1 : Heap, zObj G H1 as1 6 [vs0] → zUp as1 H H1 → zW G d M_Jr_init 15 [o0] st H1 Q) : zW G d M_Jr_init 12 [o0] (vs0 :: (.ref as1) :: st) H Q :=
  zw_putf (k := 0) dJr_init_12 zp_Jr_init_12 ho (Nat.le_of_ble_eq_true rfl) (Nat.le_of_ble_eq_true rfl) hw (zNarO hrs0) (zFitO hrs0) kk
theorem sJr_init_15 {G : zG} {d : Nat} {Q : Option Value → Heap → Prop} {H : Heap} {o0 : Option Value} (hq : Q none H) : zW G d M_Jr_init 15 [o0] [] H Q :=
  zw_vret dJr_init_15 rfl hq
theorem sKp_init_0 {G : zG} {d : Nat} {Q : Option Value → Heap → Prop} {H : Heap} {st : List Value} {a0 : Nat} (hd : 1 ≤ d) (hl : st.length ≤ 4) (kk : zW G d M_Kp_init 4 [some (.ref a0)] st H Q) : zW G d M_Kp_init 0 [some (.ref a0)] st H Q :=
  zw_aload_n (i := 0) dKp_init_0 rfl rfl zRf_ref <| zw_objInit dKp_init_1 hd (zt1 205 rfl) zo_inst zo_code hl kk
theorem sKp_init_4 {G : zG} {d : Nat} {Q : Option Value → Heap → Prop} {H : Heap} {st : List Value} {v0 : Value} (hr0 : zRf v0 := by first | exact zRf_ref | exact zRf_null | exact zRf_rf _ | assumption) (hc1 : H.size + 1 ≤ zCp G) (hs1 : zT H + 3 ≤ zSp G) (kk : ∀ H1 : Heap, zObj G H1 H.size 5 [.null, .int 0, .int 0] → zNw 3 H H1 → zW G d M_Kp_init 8 [some v0] ((.ref H.size) :: v0 :: st) H1 Q) : zW G d M_Kp_init 4 [some v0] st H Q :=
  zw_aload_n (i := 0) dKp_init_4 rfl rfl hr0 <| zw_new dKp_init_5 zn_Kp_init_9 hc1 hs1 kk
theorem sKp_init_8 {G : zG} {d : Nat} {Q : Option Value → Heap → Prop} {H : Heap} {st : List Value} {o0 : Option Value} {as0 : Nat} {P : Heap → Prop} (hd : 1 ≤ d) (hl : ((.ref as0) :: st).length ≤ 4) (hc : zC G (d - 1) M_Al_init [(.ref as0)] H (zPv P)) (kk : ∀ H1 : Heap, P H1 → zOk G H1 → H.size ≤ H1.size → zT H ≤ zT H1 → zW G d M_Kp_init 12 [o0] ((.ref as0) :: st) H1 Q) : zW G d M_Kp_init 8 [o0] ((.ref as0) :: st) H Q :=
  zw_dup dKp_init_8 rfl <| zw_callI [] _ dKp_init_9 hd zk_Kp_11 rfl rfl hl hc (zPv_k kk)
theorem sKp_init_12 {G : zG} {d : Nat} {Q : Option Value → Heap → Prop} {H : Heap} {st : List Value} {o0 : Option Value} {vs0 : Value} {as1 : Nat} {b0 : Value} (hrs0 : zRf vs0 := by first | exact zRf_ref | exact zRf_null | exact zRf_rf _ | assumption) (ho : zObj G H as1 7 [b0]) (hw : zFr G as1) (kk : ∀ H1 : Heap, zObj G H1 as1 7 [vs0] → zUp as1 H H1 → zW G d M_Kp_init 15 [o0] st H1 Q) : zW G d M_Kp_init 12 [o0] (vs0 :: (.ref as1) :: st) H Q :=
  zw_putf (k := 0) dKp_init_12 zp_Kp_init_12 ho (Nat.le_of_ble_eq_true rfl) (Nat.le_of_ble_eq_true rfl) hw (zNarO hrs0) (zFitO hrs0) kk
theorem sKp_init_15 {G : zG} {d : Nat} {Q : Option Value → Heap → Prop} {H : Heap} {o0 : Option Value} (hq : Q none H) : zW G d M_Kp_init 15 [o0] [] H Q :=
  zw_vret dKp_init_15 rfl hq
theorem sN_feed_0 {G : zG} {d : Nat} {Q : Option Value → Heap → Prop} {H : Heap} {st : List Value} {o1 : Option Value} {o2 : Option Value} {o3 : Option Value} {o4 : Option Value} {o5 : Option Value} {a0 : Nat} {af1 : Nat} {P : Int32 → Heap → Prop} (hf1 : zFd G H a0 0 0 (.ref af1)) (hd : 1 ≤ d) (hl : st.length ≤ 4) (ho : zIs G H af1 1) (hc : zC G (d - 1) M_Sb_length [(.ref af1)] H (zPi P)) (kk : ∀ (r : Int32) (H1 : Heap), P r H1 → zOk G H1 → H.size ≤ H1.size → zT H ≤ zT H1 → zW G d M_N_feed 7 [some (.ref a0), o1, o2, o3, o4, o5] ((.int r) :: st) H1 Q) : zW G d M_N_feed 0 [some (.ref a0), o1, o2, o3, o4, o5] st H Q :=
  zw_aload_n (i := 0) dN_feed_0 rfl rfl zRf_ref <| zw_getf dN_feed_1 zf_N_10 hf1 <| zw_callV [] _ dN_feed_4 hd zk_N_99 ho rfl rfl hl hc (zPi_k kk)
theorem sN_feed_7 {G : zG} {d : Nat} {Q : Option Value → Heap → Prop} {H : Heap} {st : List Value} {o0 : Option Value} {o1 : Option Value} {o2 : Option Value} {o3 : Option Value} {o4 : Option Value} {o5 : Option Value} {xs0 : Int32} (kt : (xs0 ≤ (1980 : Int32)) → zW G d M_N_feed 15 [o0, o1, o2, o3, o4, o5] st H Q) (kf : (¬ xs0 ≤ (1980 : Int32)) → zW G d M_N_feed 13 [o0, o1, o2, o3, o4, o5] st H Q) : zW G d M_N_feed 7 [o0, o1, o2, o3, o4, o5] ((.int xs0) :: st) H Q :=
  zw_sipush (1980 : Int32) dN_feed_7 zks_1980 <| zw_icmp_le 15 dN_feed_10 (by decide) kt kf
theorem sN_feed_13 {G : zG} {d : Nat} {Q : Option Value → Heap → Prop} {H : Heap} {o0 : Option Value} {o1 : Option Value} {o2 : Option Value} {o3 : Option Value} {o4 : Option Value} {o5 : Option Value} (hq : Q (some (.int (-1 : Int32))) H) : zW G d M_N_feed 13 [o0, o1, o2, o3, o4, o5] [] H Q :=
  zw_iconst (-1 : Int32) dN_feed_13 zki_m1 <| zw_iret dN_feed_14 .int rfl rfl hq
theorem sN_feed_15 {G : zG} {d : Nat} {Q : Option Value → Heap → Prop} {H : Heap} {st : List Value} {o2 : Option Value} {o3 : Option Value} {o4 : Option Value} {o5 : Option Value} {a0 : Nat} {x1 : Int32} {P : Heap → Prop} (hd : 1 ≤ d) (hl : st.length ≤ 4) (ho : zIs G H a0 0) (hc : zC G (d - 1) M_N_addWord [(.ref a0), (.int x1)] H (zPv P)) (kk : ∀ H1 : Heap, P H1 → zOk G H1 → H.size ≤ H1.size → zT H ≤ zT H1 → zW G d M_N_feed 20 [some (.ref a0), some (.int x1), o2, o3, o4, o5] st H1 Q) : zW G d M_N_feed 15 [some (.ref a0), some (.int x1), o2, o3, o4, o5] st H Q :=
  zw_aload_n (i := 0) dN_feed_15 rfl rfl zRf_ref <| zw_iload_n (i := 1) dN_feed_16 rfl rfl <| zw_callV [(.int x1)] _ dN_feed_17 hd zk_N_103 ho rfl rfl hl hc (zPv_k kk)
theorem sN_feed_20 {G : zG} {d : Nat} {Q : Option Value → Heap → Prop} {H : Heap} {st : List Value} {o1 : Option Value} {o3 : Option Value} {o4 : Option Value} {o5 : Option Value} {a0 : Nat} {x2 : Int32} {P : Heap → Prop} (hd : 1 ≤ d) (hl : st.length ≤ 4) (ho : zIs G H a0 0) (hc : zC G (d - 1) M_N_addWord [(.ref a0), (.int x2)] H (zPv P)) (kk : ∀ H1 : Heap, P H1 → zOk G H1 → H.size ≤ H1.size → zT H ≤ zT H1 → zW G d M_N_feed 25 [some (.ref a0), o1, some (.int x2), o3, o4, o5] st H1 Q) : zW G d M_N_feed 20 [some (.ref a0), o1, some (.int x2), o3, o4, o5] st H Q :=
  zw_aload_n (i := 0) dN_feed_20 rfl rfl zRf_ref <| zw_iload_n (i := 2) dN_feed_21 rfl rfl <| zw_callV [(.int x2)] _ dN_feed_22 hd zk_N_103 ho rfl rfl hl hc (zPv_k kk)
theorem sN_feed_25 {G : zG} {d : Nat} {Q : Option Value → Heap → Prop} {H : Heap} {st : List Value} {o1 : Option Value} {o2 : Option Value} {o4 : Option Value} {o5 : Option Value} {a0 : Nat} {x3 : Int32} {P : Heap → Prop} (hd : 1 ≤ d) (hl : st.length ≤ 4) (ho : zIs G H a0 0) (hc : zC G (d - 1) M_N_addWord [(.ref a0), (.int x3)] H (zPv P)) (kk : ∀ H1 : Heap, P H1 → zOk G H1 → H.size ≤ H1.size → zT H ≤ zT H1 → zW G d M_N_feed 30 [some (.ref a0), o1, o2, some (.int x3), o4, o5] st H1 Q) : zW G d M_N_feed 25 [some (.ref a0), o1, o2, some (.int x3), o4, o5] st H Q :=
  zw_aload_n (i := 0) dN_feed_25 rfl rfl zRf_ref <| zw_iload_n (i := 3) dN_feed_26 rfl rfl <| zw_callV [(.int x3)] _ dN_feed_27 hd zk_N_103 ho rfl rfl hl hc (zPv_k kk)
theorem sN_feed_30 {G : zG} {d : Nat} {Q : Option Value → Heap → Prop} {H : Heap} {st : List Value} {o1 : Option Value} {o2 : Option Value} {o3 : Option Value} {o5 : Option Value} {a0 : Nat} {x4 : Int32} {P : Heap → Prop} (hd : 1 ≤ d) (hl : st.length ≤ 4) (ho : zIs G H a0 0) (hc : zC G (d - 1) M_N_addWord [(.ref a0), (.int x4)] H (zPv P)) (kk : ∀ H1 : Heap, P H1 → zOk G H1 → H.size ≤ H1.size → zT H ≤ zT H1 → zW G d M_N_feed 36 [some (.ref a0), o1, o2, o3, some (.int x4), o5] st H1 Q) : zW G d M_N_feed 30 [some (.ref a0), o1, o2, o3, some (.int x4), o5] st H Q :=
  zw_aload_n (i := 0) dN_feed_30 rfl rfl zRf_ref <| zw_iload (i := 4) dN_feed_31 rfl <| zw_callV [(.int x4)] _ dN_feed_33 hd zk_N_103 ho rfl rfl hl hc (zPv_k kk)
theorem sN_feed_36 {G : zG} {d : Nat} {Q : Option Value → Heap → Prop} {H : Heap} {st : List Value} {o1 : Option Value} {o2 : Option Value} {o3 : Option Value} {o4 : Option Value} {a0 : Nat} {x5 : Int32} {P : Heap → Prop} (hd : 1 ≤ d) (hl : st.length ≤ 4) (ho : zIs G H a0 0) (hc : zC G (d - 1) M_N_addWord [(.ref a0), (.int x5)] H (zPv P)) (kk : ∀ H1 : Heap, P H1 → zOk G H1 → H.size ≤ H1.size → zT H ≤ zT H1 → zW G d M_N_feed 42 [some (.ref a0), o1, o2, o3, o4, some (.int x5)] st H1 Q) : zW G d M_N_feed 36 [some (.ref a0), o1, o2, o3, o4, some (.int x5)] st H Q :=
  zw_aload_n (i := 0) dN_feed_36 rfl rfl zRf_ref <| zw_iload (i := 5) dN_feed_37 rfl <| zw_callV [(.int x5)] _ dN_feed_39 hd zk_N_103 ho rfl rfl hl hc (zPv_k kk)
theorem sN_feed_42 {G : zG} {d : Nat} {Q : Option Value → Heap → Prop} {H : Heap} {st : List Value} {o1 : Option Value} {o2 : Option Value} {o3 : Option Value} {o4 : Option Value} {o5 : Option Value} {a0 : Nat} {af1 : Nat} {P : Int32 → Heap → Prop} (hf1 : zFd G H a0 0 0 (.ref af1)) (hd : 1 ≤ d) (hl : st.length ≤ 4) (ho : zIs G H af1 1) (hc : zC G (d - 1) M_Sb_length [(.ref af1)] H (zPi P)) (kk : ∀ (r : Int32) (H1 : Heap), P r H1 → zOk G H1 → H.size ≤ H1.size → zT H ≤ zT H1 → zW G d M_N_feed 49 [some (.ref a0), o1, o2, o3, o4, o5] ((.int r) :: st) H1 Q) : zW G d M_N_feed 42 [some (.ref a0), o1, o2, o3, o4, o5] st H Q :=
  zw_aload_n (i := 0) dN_feed_42 rfl rfl zRf_ref <| zw_getf dN_feed_43 zf_N_10 hf1 <| zw_callV [] _ dN_feed_46 hd zk_N_99 ho rfl rfl hl hc (zPi_k kk)
theorem sN_feed_49 {G : zG} {d : Nat} {Q : Option Value → Heap → Prop} {H : Heap} {o0 : Option Value} {o1 : Option Value} {o2 : Option Value} {o3 : Option Value} {o4 : Option Value} {o5 : Option Value} {xs0 : Int32} (hq : Q (some (.int xs0)) H) : zW G d M_N_feed 49 [o0, o1, o2, o3, o4, o5] ((.int xs0) :: []) H Q :=
  zw_iret dN_feed_49 .int rfl rfl hq
theorem sN_addWord_0 {G : zG} {d : Nat} {Q : Option Value → Heap → Prop} {H : Heap} {st : List Value} {o0 : Option Value} {o1 : Option Value} {o2 : Option Value} (kk : zW G d M_N_addWord 3 [o0, o1, some (.int (24 : Int32))] st H Q) : zW G d M_N_addWord 0 [o0, o1, o2] st H Q :=
  zw_bipush (24 : Int32) dN_addWord_0 zkb_24 <| zw_istore_n (i := 2) dN_addWord_2 rfl (Nat.le_of_ble_eq_true rfl) <| kk
theorem sN_addWord_3 {G : zG} {d : Nat} {Q : Option Value → Heap → Prop} {H : Heap} {st : List Value} {o0 : Option Value} {o1 : Option Value} {x2 : Int32} (kt : (x2 < 0) → zW G d M_N_addWord 29 [o0, o1, some (.int x2)] st H Q) (kf : (¬ x2 < 0) → zW G d M_N_addWord 7 [o0, o1, some (.int x2)] st H Q) : zW G d M_N_addWord 3 [o0, o1, some (.int x2)] st H Q :=
  zw_iload_n (i := 2) dN_addWord_3 rfl rfl <| zw_if_lt 29 dN_addWord_4 (by decide) kt kf
theorem sN_addWord_7 {G : zG} {d : Nat} {Q : Option Value → Heap → Prop} {H : Heap} {st : List Value} {a0 : Nat} {af1 : Nat} {x1 : Int32} {x2 : Int32} {P : Value → Heap → Prop} (hf1 : zFd G H a0 0 0 (.ref af1)) (hd : 1 ≤ d) (hl : st.length ≤ 4) (ho : zIs G H af1 1) (hc : zC G (d - 1) M_Sb_append_0 [(.ref af1), (.int (((((x1).toUInt32 >>> ((x2).toUInt32 &&& Int32.toUInt32 31)).toInt32 &&& (255 : Int32))).toUInt32 % 65536).toInt32)] H (zPr P)) (kk : ∀ (r : Value) (H1 : Heap), zRf r → P r H1 → zOk G H1 → H.size ≤ H1.size → zT H ≤ zT H1 → zW G d M_N_addWord 22 [some (.ref a0), some (.int x1), some (.int x2)] (r :: st) H1 Q) : zW G d M_N_addWord 7 [some (.ref a0), some (.int x1), some (.int x2)] st H Q :=
  zw_aload_n (i := 0) dN_addWord_7 rfl rfl zRf_ref <| zw_getf dN_addWord_8 zf_N_10 hf1 <| zw_iload_n (i := 1) dN_addWord_11 rfl rfl <| zw_iload_n (i := 2) dN_addWord_12 rfl rfl <| zw_iushr dN_addWord_13 <| zw_sipush (255 : Int32) dN_addWord_14 zks_255 <| zw_iand dN_addWord_17 <| zw_i2c dN_addWord_18 <| zw_callV [(.int (((((x1).toUInt32 >>> ((x2).toUInt32 &&& Int32.toUInt32 31)).toInt32 &&& (255 : Int32))).toUInt32 % 65536).toInt32)] _ dN_addWord_19 hd zk_N_199 ho rfl rfl hl hc (zPr_k kk)
theorem sN_addWord_22 {G : zG} {d : Nat} {Q : Option Value → Heap → Prop} {H : Heap} {st : List Value} {o0 : Option Value} {o1 : Option Value} {ws0 : Value} {x2 : Int32} (hcs0 : ws0.category = 1 := by first | rfl | exact zRf.cat (by assumption)) (kk : zW G d M_N_addWord 3 [o0, o1, some (.int (x2 + (-8 : Int32)))] st H Q) : zW G d M_N_addWord 22 [o0, o1, some (.int x2)] (ws0 :: st) H Q :=
  zw_pop dN_addWord_22 hcs0 <| zw_iinc (i := 2) (x2 + (-8 : Int32)) dN_addWord_23 rfl (by rw [zki_m8]) <| zw_goto 3 dN_addWord_26 (by decide) <| kk
theorem sN_addWord_29 {G : zG} {d : Nat} {Q : Option Value → Heap → Prop} {H : Heap} {o0 : Option Value} {o1 : Option Value} {o2 : Option Value} (hq : Q none H) : zW G d M_N_addWord 29 [o0, o1, o2] [] H Q :=
  zw_vret dN_addWord_29 rfl hq
theorem sN_end_0 {G : zG} {d : Nat} {Q : Option Value → Heap → Prop} {H : Heap} {st : List Value} {o0 : Option Value} {x1 : Int32} (kt : (x1 < 0) → zW G d M_N_end 15 [o0, some (.int x1)] st H Q) (kf : (¬ x1 < 0) → zW G d M_N_end 4 [o0, some (.int x1)] st H Q) : zW G d M_N_end 0 [o0, some (.int x1)] st H Q :=
  zw_iload_n (i := 1) dN_end_0 rfl rfl <| zw_if_lt 15 dN_end_1 (by decide) kt kf
theorem sN_end_4 {G : zG} {d : Nat} {Q : Option Value → Heap → Prop} {H : Heap} {st : List Value} {x1 : Int32} {a0 : Nat} {af1 : Nat} {P : Int32 → Heap → Prop} (hf1 : zFd G H a0 0 0 (.ref af1)) (hd : 1 ≤ d) (hl : ((.int x1) :: st).length ≤ 4) (ho : zIs G H af1 1) (hc : zC G (d - 1) M_Sb_length [(.ref af1)] H (zPi P)) (kk : ∀ (r : Int32) (H1 : Heap), P r H1 → zOk G H1 → H.size ≤ H1.size → zT H ≤ zT H1 → zW G d M_N_end 12 [some (.ref a0), some (.int x1)] ((.int r) :: (.int x1) :: st) H1 Q) : zW G d M_N_end 4 [some (.ref a0), some (.int x1)] st H Q :=
  zw_iload_n (i := 1) dN_end_4 rfl rfl <| zw_aload_n (i := 0) dN_end_5 rfl rfl zRf_ref <| zw_getf dN_end_6 zf_N_10 hf1 <| zw_callV [] _ dN_end_9 hd zk_N_99 ho rfl rfl hl hc (zPi_k kk)
theorem sN_end_12 {G : zG} {d : Nat} {Q : Option Value → Heap → Prop} {H : Heap} {st : List Value} {o0 : Option Value} {o1 : Option Value} {xs0 : Int32} {xs1 : Int32} (kt : (xs1 ≤ xs0) → zW G d M_N_end 17 [o0, o1] st H Q) (kf : (¬ xs1 ≤ xs0) → zW G d M_N_end 15 [o0, o1] st H Q) : zW G d M_N_end 12 [o0, o1] ((.int xs0) :: (.int xs1) :: st) H Q :=
  zw_icmp_le 17 dN_end_12 (by decide) kt kf
theorem sN_end_15 {G : zG} {d : Nat} {Q : Option Value → Heap → Prop} {H : Heap} {o0 : Option Value} {o1 : Option Value} (hq : Q (some (.int (-1 : Int32))) H) : zW G d M_N_end 15 [o0, o1] [] H Q :=
  zw_iconst (-1 : Int32) dN_end_15 zki_m1 <| zw_iret dN_end_16 .int rfl rfl hq
theorem sN_end_17 {G : zG} {d : Nat} {Q : Option Value → Heap → Prop} {H : Heap} {st : List Value} {a0 : Nat} {af1 : Nat} {x1 : Int32} {P : Heap → Prop} (hf1 : zFd G H a0 0 0 (.ref af1)) (hd : 1 ≤ d) (hl : st.length ≤ 4) (ho : zIs G H af1 1) (hc : zC G (d - 1) M_Sb_setLength [(.ref af1), (.int x1)] H (zPv P)) (kk : ∀ H1 : Heap, P H1 → zOk G H1 → H.size ≤ H1.size → zT H ≤ zT H1 → zW G d M_N_end 25 [some (.ref a0), some (.int x1)] st H1 Q) : zW G d M_N_end 17 [some (.ref a0), some (.int x1)] st H Q :=
  zw_aload_n (i := 0) dN_end_17 rfl rfl zRf_ref <| zw_getf dN_end_18 zf_N_10 hf1 <| zw_iload_n (i := 1) dN_end_21 rfl rfl <| zw_callV [(.int x1)] _ dN_end_22 hd zk_N_107 ho rfl rfl hl hc (zPv_k kk)
theorem sN_end_25 {G : zG} {d : Nat} {Q : Option Value → Heap → Prop} {H : Heap} {o0 : Option Value} {x1 : Int32} (hq : Q (some (.int x1)) H) : zW G d M_N_end 25 [o0, some (.int x1)] [] H Q :=
  zw_iload_n (i := 1) dN_end_25 rfl rfl <| zw_iret dN_end_26 .int rfl rfl hq
theorem sN_out_0 {G : zG} {d : Nat} {Q : Option Value → Heap → Prop} {H : Heap} {st : List Value} {o0 : Option Value} {x1 : Int32} (kt : (x1 < 0) → zW G d M_N_out 15 [o0, some (.int x1)] st H Q) (kf : (¬ x1 < 0) → zW G d M_N_out 4 [o0, some (.int x1)] st H Q) : zW G d M_N_out 0 [o0, some (.int x1)] st H Q :=
  zw_iload_n (i := 1) dN_out_0 rfl rfl <| zw_if_lt 15 dN_out_1 (by decide) kt kf
theorem sN_out_4 {G : zG} {d : Nat} {Q : Option Value → Heap → Prop} {H : Heap} {st : List Value} {x1 : Int32} {a0 : Nat} {af1 : Nat} {P : Int32 → Heap → Prop} (hf1 : zFd G H a0 0 1 (.ref af1)) (hd : 1 ≤ d) (hl : ((.int x1) :: st).length ≤ 4) (ho : zIs G H af1 1) (hc : zC G (d - 1) M_Sb_length [(.ref af1)] H (zPi P)) (kk : ∀ (r : Int32) (H1 : Heap), P r H1 → zOk G H1 → H.size ≤ H1.size → zT H ≤ zT H1 → zW G d M_N_out 12 [some (.ref a0), some (.int x1)] ((.int r) :: (.int x1) :: st) H1 Q) : zW G d M_N_out 4 [some (.ref a0), some (.int x1)] st H Q :=
  zw_iload_n (i := 1) dN_out_4 rfl rfl <| zw_aload_n (i := 0) dN_out_5 rfl rfl zRf_ref <| zw_getf dN_out_6 zf_N_16 hf1 <| zw_callV [] _ dN_out_9 hd zk_N_99 ho rfl rfl hl hc (zPi_k kk)
theorem sN_out_12 {G : zG} {d : Nat} {Q : Option Value → Heap → Prop} {H : Heap} {st : List Value} {o0 : Option Value} {o1 : Option Value} {xs0 : Int32} {xs1 : Int32} (kt : (xs1 < xs0) → zW G d M_N_out 17 [o0, o1] st H Q) (kf : (¬ xs1 < xs0) → zW G d M_N_out 15 [o0, o1] st H Q) : zW G d M_N_out 12 [o0, o1] ((.int xs0) :: (.int xs1) :: st) H Q :=
  zw_icmp_lt 17 dN_out_12 (by decide) kt kf
theorem sN_out_15 {G : zG} {d : Nat} {Q : Option Value → Heap → Prop} {H : Heap} {o0 : Option Value} {o1 : Option Value} (hq : Q (some (.int (-1 : Int32))) H) : zW G d M_N_out 15 [o0, o1] [] H Q :=
  zw_iconst (-1 : Int32) dN_out_15 zki_m1 <| zw_iret dN_out_16 .int rfl rfl hq
theorem sN_out_17 {G : zG} {d : Nat} {Q : Option Value → Heap → Prop} {H : Heap} {st : List Value} {a0 : Nat} {af1 : Nat} {x1 : Int32} {P : Int32 → Heap → Prop} (hf1 : zFd G H a0 0 1 (.ref af1)) (hd : 1 ≤ d) (hl : st.length ≤ 4) (ho : zIs G H af1 1) (hc : zC G (d - 1) M_Sb_charAt [(.ref af1), (.int x1)] H (zPi P)) (kk : ∀ (r : Int32) (H1 : Heap), P r H1 → zOk G H1 → H.size ≤ H1.size → zT H ≤ zT H1 → zW G d M_N_out 25 [some (.ref a0), some (.int x1)] ((.int r) :: st) H1 Q) : zW G d M_N_out 17 [some (.ref a0), some (.int x1)] st H Q :=
  zw_aload_n (i := 0) dN_out_17 rfl rfl zRf_ref <| zw_getf dN_out_18 zf_N_16 hf1 <| zw_iload_n (i := 1) dN_out_21 rfl rfl <| zw_callV [(.int x1)] _ dN_out_22 hd zk_N_110 ho rfl rfl hl hc (zPi_k kk)
theorem sN_out_25 {G : zG} {d : Nat} {Q : Option Value → Heap → Prop} {H : Heap} {o0 : Option Value} {o1 : Option Value} {xs0 : Int32} (hq : Q (some (.int xs0)) H) : zW G d M_N_out 25 [o0, o1] ((.int xs0) :: []) H Q :=
  zw_iret dN_out_25 .int rfl rfl hq
theorem sN_resolve_0 {G : zG} {d : Nat} {Q : Option Value → Heap → Prop} {H : Heap} {st : List Value} {o1 : Option Value} {o2 : Option Value} {o3 : Option Value} {a0 : Nat} {P : Value → Heap → Prop} (hd : 1 ≤ d) (hl : st.length ≤ 4) (ho : zIs G H a0 0) (hc : zC G (d - 1) M_N_takeText [(.ref a0)] H (zPr P)) (kk : ∀ (r : Value) (H1 : Heap), zRf r → P r H1 → zOk G H1 → H.size ≤ H1.size → zT H ≤ zT H1 → zW G d M_N_resolve 4 [some (.ref a0), o1, o2, o3] (r :: st) H1 Q) : zW G d M_N_resolve 0 [some (.ref a0), o1, o2, o3] st H Q :=
  zw_aload_n (i := 0) dN_resolve_0 rfl rfl zRf_ref <| zw_callV [] _ dN_resolve_1 hd zk_N_114 ho rfl rfl hl hc (zPr_k kk)
theorem sN_resolve_4 {G : zG} {d : Nat} {Q : Option Value → Heap → Prop} {H : Heap} {st : List Value} {o0 : Option Value} {o1 : Option Value} {o2 : Option Value} {o3 : Option Value} {vs0 : Value} {P : Int32 → Heap → Prop} (hrs0 : zRf vs0 := by first | exact zRf_ref | exact zRf_null | exact zRf_rf _ | assumption) (hd : 1 ≤ d) (hl : st.length ≤ 4) (hc : zC G (d - 1) M_Tx_badByte [vs0] H (zPi P)) (kk : ∀ (r : Int32) (H1 : Heap), P r H1 → zOk G H1 → H.size ≤ H1.size → zT H ≤ zT H1 → zW G d M_N_resolve 9 [o0, some vs0, o2, o3] ((.int r) :: st) H1 Q) : zW G d M_N_resolve 4 [o0, o1, o2, o3] (vs0 :: st) H Q :=
  zw_astore_n (i := 1) dN_resolve_4 rfl (Nat.le_of_ble_eq_true rfl) hrs0 <| zw_aload_n (i := 1) dN_resolve_5 rfl rfl hrs0 <| zw_callS [vs0] _ dN_resolve_6 hd zk_N_118 rfl rfl hl hc (zPi_k kk)
theorem sN_resolve_9 {G : zG} {d : Nat} {Q : Option Value → Heap → Prop} {H : Heap} {st : List Value} {o0 : Option Value} {o1 : Option Value} {o2 : Option Value} {o3 : Option Value} {xs0 : Int32} (kt : (xs0 = (-1 : Int32)) → zW G d M_N_resolve 21 [o0, o1, some (.int xs0), o3] st H Q) (kf : (¬ xs0 = (-1 : Int32)) → zW G d M_N_resolve 15 [o0, o1, some (.int xs0), o3] st H Q) : zW G d M_N_resolve 9 [o0, o1, o2, o3] ((.int xs0) :: st) H Q :=
  zw_istore_n (i := 2) dN_resolve_9 rfl (Nat.le_of_ble_eq_true rfl) <| zw_iload_n (i := 2) dN_resolve_10 rfl rfl <| zw_iconst (-1 : Int32) dN_resolve_11 zki_m1 <| zw_icmp_eq 21 dN_resolve_12 (by decide) kt kf
theorem sN_resolve_15 {G : zG} {d : Nat} {Q : Option Value → Heap → Prop} {H : Heap} {o0 : Option Value} {o1 : Option Value} {o3 : Option Value} {x2 : Int32} (hq : Q (some (.int ((-1000 : Int32) - x2))) H) : zW G d M_N_resolve 15 [o0, o1, some (.int x2), o3] [] H Q :=
  zw_sipush (-1000 : Int32) dN_resolve_15 zks_m1000 <| zw_iload_n (i := 2) dN_resolve_18 rfl rfl <| zw_isub dN_resolve_19 <| zw_iret dN_resolve_20 .int rfl rfl hq
theorem sN_resolve_21 {G : zG} {d : Nat} {Q : Option Value → Heap → Prop} {H : Heap} {st : List Value} {o2 : Option Value} {o3 : Option Value} {v1 : Value} {a0 : Nat} {vf1 : Value} {P : Value → Heap → Prop} (hr1 : zRf v1 := by first | exact zRf_ref | exact zRf_null | exact zRf_rf _ | assumption) (hrf1 : zRf vf1 := by first | exact zRf_ref | exact zRf_null | exact zRf_rf _ | assumption) (hf1 : zFd G H a0 0 8 vf1) (hd : 1 ≤ d) (hl : st.length ≤ 4) (hc : zC G (d - 1) M_Ad_read [v1, vf1] H (zPr P)) (kk : ∀ (r : Value) (H1 : Heap), zRf r → P r H1 → zOk G H1 → H.size ≤ H1.size → zT H ≤ zT H1 → zW G d M_N_resolve 29 [some (.ref a0), some v1, o2, o3] (r :: st) H1 Q) : zW G d M_N_resolve 21 [some (.ref a0), some v1, o2, o3] st H Q :=
  zw_aload_n (i := 1) dN_resolve_21 rfl rfl hr1 <| zw_aload_n (i := 0) dN_resolve_22 rfl rfl zRf_ref <| zw_getf dN_resolve_23 zf_N_69 hf1 <| zw_callS [v1, vf1] _ dN_resolve_26 hd zk_N_124 rfl rfl hl hc (zPr_k kk)
theorem sN_resolve_29 {G : zG} {d : Nat} {Q : Option Value → Heap → Prop} {H : Heap} {st : List Value} {o0 : Option Value} {o1 : Option Value} {o2 : Option Value} {o3 : Option Value} {vs0 : Value} (hrs0 : zRf vs0 := by first | exact zRf_ref | exact zRf_null | exact zRf_rf _ | assumption) (kt : (∀ a : Nat, vs0 = .ref a → zW G d M_N_resolve 36 [o0, o1, o2, some vs0] st H Q)) (kf : (vs0 = .null) → zW G d M_N_resolve 34 [o0, o1, o2, some vs0] st H Q) : zW G d M_N_resolve 29 [o0, o1, o2, o3] (vs0 :: st) H Q :=
  zw_astore_n (i := 3) dN_resolve_29 rfl (Nat.le_of_ble_eq_true rfl) hrs0 <| zw_aload_n (i := 3) dN_resolve_30 rfl rfl hrs0 <| zw_ifnonnull 36 dN_resolve_31 (by decide) hrs0 kt kf
theorem sN_resolve_34 {G : zG} {d : Nat} {Q : Option Value → Heap → Prop} {H : Heap} {o0 : Option Value} {o1 : Option Value} {o2 : Option Value} {o3 : Option Value} (hq : Q (some (.int (-1 : Int32))) H) : zW G d M_N_resolve 34 [o0, o1, o2, o3] [] H Q :=
  zw_iconst (-1 : Int32) dN_resolve_34 zki_m1 <| zw_iret dN_resolve_35 .int rfl rfl hq
theorem sN_resolve_36 {G : zG} {d : Nat} {Q : Option Value → Heap → Prop} {H : Heap} {st : List Value} {o1 : Option Value} {o2 : Option Value} {a0 : Nat} {a3 : Nat} {vf1 : Value} {P : Int32 → Heap → Prop} (hrf1 : zRf vf1 := by first | exact zRf_ref | exact zRf_null | exact zRf_rf _ | assumption) (hf1 : zFd G H a3 2 3 vf1) (hd : 1 ≤ d) (hl : st.length ≤ 4) (ho : zIs G H a0 0) (hc : zC G (d - 1) M_N_writeAddress [(.ref a0), (.ref a3), vf1] H (zPi P)) (kk : ∀ (r : Int32) (H1 : Heap), P r H1 → zOk G H1 → H.size ≤ H1.size → zT H ≤ zT H1 → zW G d M_N_resolve 45 [some (.ref a0), o1, o2, some (.ref a3)] ((.int r) :: st) H1 Q) : zW G d M_N_resolve 36 [some (.ref a0), o1, o2, some (.ref a3)] st H Q :=
  zw_aload_n (i := 0) dN_resolve_36 rfl rfl zRf_ref <| zw_aload_n (i := 3) dN_resolve_37 rfl rfl zRf_ref <| zw_aload_n (i := 3) dN_resolve_38 rfl rfl zRf_ref <| zw_getf dN_resolve_39 zf_N_128 hf1 <| zw_callV [(.ref a3), vf1] _ dN_resolve_42 hd zk_N_131 ho rfl rfl hl hc (zPi_k kk)
theorem sN_resolve_45 {G : zG} {d : Nat} {Q : Option Value → Heap → Prop} {H : Heap} {o0 : Option Value} {o1 : Option Value} {o2 : Option Value} {o3 : Option Value} {xs0 : Int32} (hq : Q (some (.int xs0)) H) : zW G d M_N_resolve 45 [o0, o1, o2, o3] ((.int xs0) :: []) H Q :=
  zw_iret dN_resolve_45 .int rfl rfl hq
theorem sN_takeText_0 {G : zG} {d : Nat} {Q : Option Value → Heap → Prop} {H : Heap} {st : List Value} {o1 : Option Value} {a0 : Nat} {af1 : Nat} {P : Value → Heap → Prop} (hf1 : zFd G H a0 0 0 (.ref af1)) (hd : 1 ≤ d) (hl : st.length ≤ 4) (ho : zIs G H af1 1) (hc : zC G (d - 1) M_Sb_toString [(.ref af1)] H (zPr P)) (kk : ∀ (r : Value) (H1 : Heap), zRf r → P r H1 → zOk G H1 → H.size ≤ H1.size → zT H ≤ zT H1 → zW G d M_N_takeText 7 [some (.ref a0), o1] (r :: st) H1 Q) : zW G d M_N_takeText 0 [some (.ref a0), o1] st H Q :=
  zw_aload_n (i := 0) dN_takeText_0 rfl rfl zRf_ref <| zw_getf dN_takeText_1 zf_N_10 hf1 <| zw_callV [] _ dN_takeText_4 hd zk_N_187 ho rfl rfl hl hc (zPr_k kk)
theorem sN_takeText_7 {G : zG} {d : Nat} {Q : Option Value → Heap → Prop} {H : Heap} {st : List Value} {o1 : Option Value} {vs0 : Value} {a0 : Nat} {af1 : Nat} {P : Heap → Prop} (hrs0 : zRf vs0 := by first | exact zRf_ref | exact zRf_null | exact zRf_rf _ | assumption) (hf1 : zFd G H a0 0 0 (.ref af1)) (hd : 1 ≤ d) (hl : st.length ≤ 4) (ho : zIs G H af1 1) (hc : zC G (d - 1) M_Sb_setLength [(.ref af1), (.int (0 : Int32))] H (zPv P)) (kk : ∀ H1 : Heap, P H1 → zOk G H1 → H.size ≤ H1.size → zT H ≤ zT H1 → zW G d M_N_takeText 16 [some (.ref a0), some vs0] st H1 Q) : zW G d M_N_takeText 7 [some (.ref a0), o1] (vs0 :: st) H Q :=
  zw_astore_n (i := 1) dN_takeText_7 rfl (Nat.le_of_ble_eq_true rfl) hrs0 <| zw_aload_n (i := 0) dN_takeText_8 rfl rfl zRf_ref <| zw_getf dN_takeText_9 zf_N_10 hf1 <| zw_iconst (0 : Int32) dN_takeText_12 zki_0 <| zw_callV [(.int (0 : Int32))] _ dN_takeText_13 hd zk_N_107 ho rfl rfl hl hc (zPv_k kk)
theorem sN_takeText_16 {G : zG} {d : Nat} {Q : Option Value → Heap → Prop} {H : Heap} {o0 : Option Value} {v1 : Value} (hr1 : zRf v1 := by first | exact zRf_ref | exact zRf_null | exact zRf_rf _ | assumption) (hq : Q (some v1) H) : zW G d M_N_takeText 16 [o0, some v1] [] H Q :=
  zw_aload_n (i := 1) dN_takeText_16 rfl rfl hr1 <| zw_aret dN_takeText_17 (.object "java/lang/String") rfl (Or.inl ⟨_, rfl⟩) hr1 hq
theorem sN_writeAddress_0 {G : zG} {d : Nat} {Q : Option Value → Heap → Prop} {H : Heap} {st : List Value} {o1 : Option Value} {o2 : Option Value} {a0 : Nat} {af1 : Nat} {P : Heap → Prop} (hf1 : zFd G H a0 0 1 (.ref af1)) (hd : 1 ≤ d) (hl : st.length ≤ 4) (ho : zIs G H af1 1) (hc : zC G (d - 1) M_Sb_setLength [(.ref af1), (.int (0 : Int32))] H (zPv P)) (kk : ∀ H1 : Heap, P H1 → zOk G H1 → H.size ≤ H1.size → zT H ≤ zT H1 → zW G d M_N_writeAddress 8 [some (.ref a0), o1, o2] st H1 Q) : zW G d M_N_writeAddress 0 [some (.ref a0), o1, o2] st H Q :=
  zw_aload_n (i := 0) dN_writeAddress_0 rfl rfl zRf_ref <| zw_getf dN_writeAddress_1 zf_N_16 hf1 <| zw_iconst (0 : Int32) dN_writeAddress_4 zki_0 <| zw_callV [(.int (0 : Int32))] _ dN_writeAddress_5 hd zk_N_107 ho rfl rfl hl hc (zPv_k kk)
theorem sN_writeAddress_8 {G : zG} {d : Nat} {Q : Option Value → Heap → Prop} {H : Heap} {st : List Value} {o0 : Option Value} {o2 : Option Value} {v1 : Value} (hr1 : zRf v1 := by first | exact zRf_ref | exact zRf_null | exact zRf_rf _ | assumption) (kt : (v1 = .null) → zW G d M_N_writeAddress 29 [o0, some v1, o2] st H Q) (kf : (∀ a : Nat, v1 = .ref a → zW G d M_N_writeAddress 12 [o0, some v1, o2] st H Q)) : zW G d M_N_writeAddress 8 [o0, some v1, o2] st H Q :=
  zw_aload_n (i := 1) dN_writeAddress_8 rfl rfl hr1 <| zw_ifnull 29 dN_writeAddress_9 (by decide) hr1 kt kf
theorem sN_writeAddress_12 {G : zG} {d : Nat} {Q : Option Value → Heap → Prop} {H : Heap} {st : List Value} {o2 : Option Value} {a1 : Nat} {a0 : Nat} {vf1 : Value} {P : Heap → Prop} (hrf1 : zRf vf1 := by first | exact zRf_ref | exact zRf_null | exact zRf_rf _ | assumption) (hf1 : zFd G H a0 0 1 vf1) (hd : 1 ≤ d) (hl : st.length ≤ 4) (ho : zIs G H a1 2) (hc : zC G (d - 1) M_Ad_appendTo [(.ref a1), vf1] H (zPv P)) (kk : ∀ H1 : Heap, P H1 → zOk G H1 → H.size ≤ H1.size → zT H ≤ zT H1 → zW G d M_N_writeAddress 20 [some (.ref a0), some (.ref a1), o2] st H1 Q) : zW G d M_N_writeAddress 12 [some (.ref a0), some (.ref a1), o2] st H Q :=
  zw_aload_n (i := 1) dN_writeAddress_12 rfl rfl zRf_ref <| zw_aload_n (i := 0) dN_writeAddress_13 rfl rfl zRf_ref <| zw_getf dN_writeAddress_14 zf_N_16 hf1 <| zw_callV [vf1] _ dN_writeAddress_17 hd zk_N_202 ho rfl rfl hl hc (zPv_k kk)
theorem sN_writeAddress_20 {G : zG} {d : Nat} {Q : Option Value → Heap → Prop} {H : Heap} {st : List Value} {o1 : Option Value} {a0 : Nat} {af1 : Nat} {v2 : Value} {P : Value → Heap → Prop} (hr2 : zRf v2 := by first | exact zRf_ref | exact zRf_null | exact zRf_rf _ | assumption) (hf1 : zFd G H a0 0 1 (.ref af1)) (hd : 1 ≤ d) (hl : st.length ≤ 4) (ho : zIs G H af1 1) (hc : zC G (d - 1) M_Sb_append_1 [(.ref af1), v2] H (zPr P)) (kk : ∀ (r : Value) (H1 : Heap), zRf r → P r H1 → zOk G H1 → H.size ≤ H1.size → zT H ≤ zT H1 → zW G d M_N_writeAddress 28 [some (.ref a0), o1, some v2] (r :: st) H1 Q) : zW G d M_N_writeAddress 20 [some (.ref a0), o1, some v2] st H Q :=
  zw_aload_n (i := 0) dN_writeAddress_20 rfl rfl zRf_ref <| zw_getf dN_writeAddress_21 zf_N_16 hf1 <| zw_aload_n (i := 2) dN_writeAddress_24 rfl rfl hr2 <| zw_callV [v2] _ dN_writeAddress_25 hd zk_N_190 ho rfl rfl hl hc (zPr_k kk)
theorem sN_writeAddress_28 {G : zG} {d : Nat} {Q : Option Value → Heap → Prop} {H : Heap} {st : List Value} {o1 : Option Value} {o2 : Option Value} {ws0 : Value} {a0 : Nat} {af1 : Nat} {P : Int32 → Heap → Prop} (hcs0 : ws0.category = 1 := by first | rfl | exact zRf.cat (by assumption)) (hf1 : zFd G H a0 0 1 (.ref af1)) (hd : 1 ≤ d) (hl : st.length ≤ 4) (ho : zIs G H af1 1) (hc : zC G (d - 1) M_Sb_length [(.ref af1)] H (zPi P)) (kk : ∀ (r : Int32) (H1 : Heap), P r H1 → zOk G H1 → H.size ≤ H1.size → zT H ≤ zT H1 → zW G d M_N_writeAddress 36 [some (.ref a0), o1, o2] ((.int r) :: st) H1 Q) : zW G d M_N_writeAddress 28 [some (.ref a0), o1, o2] (ws0 :: st) H Q :=
  zw_pop dN_writeAddress_28 hcs0 <| zw_aload_n (i := 0) dN_writeAddress_29 rfl rfl zRf_ref <| zw_getf dN_writeAddress_30 zf_N_16 hf1 <| zw_callV [] _ dN_writeAddress_33 hd zk_N_99 ho rfl rfl hl hc (zPi_k kk)
theorem sN_writeAddress_29 {G : zG} {d : Nat} {Q : Option Value → Heap → Prop} {H : Heap} {st : List Value} {o1 : Option Value} {o2 : Option Value} {a0 : Nat} {af1 : Nat} {P : Int32 → Heap → Prop} (hf1 : zFd G H a0 0 1 (.ref af1)) (hd : 1 ≤ d) (hl : st.length ≤ 4) (ho : zIs G H af1 1) (hc : zC G (d - 1) M_Sb_length [(.ref af1)] H (zPi P)) (kk : ∀ (r : Int32) (H1 : Heap), P r H1 → zOk G H1 → H.size ≤ H1.size → zT H ≤ zT H1 → zW G d M_N_writeAddress 36 [some (.ref a0), o1, o2] ((.int r) :: st) H1 Q) : zW G d M_N_writeAddress 29 [some (.ref a0), o1, o2] st H Q :=
  zw_aload_n (i := 0) dN_writeAddress_29 rfl rfl zRf_ref <| zw_getf dN_writeAddress_30 zf_N_16 hf1 <| zw_callV [] _ dN_writeAddress_33 hd zk_N_99 ho rfl rfl hl hc (zPi_k kk)
theorem sN_writeAddress_36 {G : zG} {d : Nat} {Q : Option Value → Heap → Prop} {H : Heap} {o0 : Option Value} {o1 : Option Value} {o2 : Option Value} {xs0 : Int32} (hq : Q (some (.int xs0)) H) : zW G d M_N_writeAddress 36 [o0, o1, o2] ((.int xs0) :: []) H Q :=
  zw_iret dN_writeAddress_36 .int rfl rfl hq
theorem sN_base_0 {G : zG} {d : Nat} {Q : Option Value → Heap → Prop} {H : Heap} {st : List Value} {o1 : Option Value} {o2 : Option Value} {o3 : Option Value} {a0 : Nat} {P : Value → Heap → Prop} (hd : 1 ≤ d) (hl : st.length ≤ 4) (ho : zIs G H a0 0) (hc : zC G (d - 1) M_N_takeText [(.ref a0)] H (zPr P)) (kk : ∀ (r : Value) (H1 : Heap), zRf r → P r H1 → zOk G H1 → H.size ≤ H1.size → zT H ≤ zT H1 → zW G d M_N_base 4 [some (.ref a0), o1, o2, o3] (r :: st) H1 Q) : zW G d M_N_base 0 [some (.ref a0), o1, o2, o3] st H Q :=
  zw_aload_n (i := 0) dN_base_0 rfl rfl zRf_ref <| zw_callV [] _ dN_base_1 hd zk_N_114 ho rfl rfl hl hc (zPr_k kk)
theorem sN_base_4 {G : zG} {d : Nat} {Q : Option Value → Heap → Prop} {H : Heap} {st : List Value} {o0 : Option Value} {o1 : Option Value} {o2 : Option Value} {o3 : Option Value} {vs0 : Value} {P : Int32 → Heap → Prop} (hrs0 : zRf vs0 := by first | exact zRf_ref | exact zRf_null | exact zRf_rf _ | assumption) (hd : 1 ≤ d) (hl : st.length ≤ 4) (hc : zC G (d - 1) M_Tx_badByte [vs0] H (zPi P)) (kk : ∀ (r : Int32) (H1 : Heap), P r H1 → zOk G H1 → H.size ≤ H1.size → zT H ≤ zT H1 → zW G d M_N_base 9 [o0, some vs0, o2, o3] ((.int r) :: st) H1 Q) : zW G d M_N_base 4 [o0, o1, o2, o3] (vs0 :: st) H Q :=
  zw_astore_n (i := 1) dN_base_4 rfl (Nat.le_of_ble_eq_true rfl) hrs0 <| zw_aload_n (i := 1) dN_base_5 rfl rfl hrs0 <| zw_callS [vs0] _ dN_base_6 hd zk_N_118 rfl rfl hl hc (zPi_k kk)
theorem sN_base_9 {G : zG} {d : Nat} {Q : Option Value → Heap → Prop} {H : Heap} {st : List Value} {o0 : Option Value} {o1 : Option Value} {o2 : Option Value} {o3 : Option Value} {xs0 : Int32} (kt : (xs0 = (-1 : Int32)) → zW G d M_N_base 21 [o0, o1, some (.int xs0), o3] st H Q) (kf : (¬ xs0 = (-1 : Int32)) → zW G d M_N_base 15 [o0, o1, some (.int xs0), o3] st H Q) : zW G d M_N_base 9 [o0, o1, o2, o3] ((.int xs0) :: st) H Q :=
  zw_istore_n (i := 2) dN_base_9 rfl (Nat.le_of_ble_eq_true rfl) <| zw_iload_n (i := 2) dN_base_10 rfl rfl <| zw_iconst (-1 : Int32) dN_base_11 zki_m1 <| zw_icmp_eq 21 dN_base_12 (by decide) kt kf
theorem sN_base_15 {G : zG} {d : Nat} {Q : Option Value → Heap → Prop} {H : Heap} {o0 : Option Value} {o1 : Option Value} {o3 : Option Value} {x2 : Int32} (hq : Q (some (.int ((-1000 : Int32) - x2))) H) : zW G d M_N_base 15 [o0, o1, some (.int x2), o3] [] H Q :=
  zw_sipush (-1000 : Int32) dN_base_15 zks_m1000 <| zw_iload_n (i := 2) dN_base_18 rfl rfl <| zw_isub dN_base_19 <| zw_iret dN_base_20 .int rfl rfl hq
theorem sN_base_21 {G : zG} {d : Nat} {Q : Option Value → Heap → Prop} {H : Heap} {st : List Value} {o2 : Option Value} {o3 : Option Value} {v1 : Value} {a0 : Nat} {vf1 : Value} {P : Value → Heap → Prop} (hr1 : zRf v1 := by first | exact zRf_ref | exact zRf_null | exact zRf_rf _ | assumption) (hrf1 : zRf vf1 := by first | exact zRf_ref | exact zRf_null | exact zRf_rf _ | assumption) (hf1 : zFd G H a0 0 8 vf1) (hd : 1 ≤ d) (hl : st.length ≤ 4) (hc : zC G (d - 1) M_Ad_read [v1, vf1] H (zPr P)) (kk : ∀ (r : Value) (H1 : Heap), zRf r → P r H1 → zOk G H1 → H.size ≤ H1.size → zT H ≤ zT H1 → zW G d M_N_base 29 [some (.ref a0), some v1, o2, o3] (r :: st) H1 Q) : zW G d M_N_base 21 [some (.ref a0), some v1, o2, o3] st H Q :=
  zw_aload_n (i := 1) dN_base_21 rfl rfl hr1 <| zw_aload_n (i := 0) dN_base_22 rfl rfl zRf_ref <| zw_getf dN_base_23 zf_N_69 hf1 <| zw_callS [v1, vf1] _ dN_base_26 hd zk_N_124 rfl rfl hl hc (zPr_k kk)
theorem sN_base_29 {G : zG} {d : Nat} {Q : Option Value → Heap → Prop} {H : Heap} {st : List Value} {o0 : Option Value} {o1 : Option Value} {o2 : Option Value} {o3 : Option Value} {vs0 : Value} (hrs0 : zRf vs0 := by first | exact zRf_ref | exact zRf_null | exact zRf_rf _ | assumption) (kt : (∀ a : Nat, vs0 = .ref a → zW G d M_N_base 36 [o0, o1, o2, some vs0] st H Q)) (kf : (vs0 = .null) → zW G d M_N_base 34 [o0, o1, o2, some vs0] st H Q) : zW G d M_N_base 29 [o0, o1, o2, o3] (vs0 :: st) H Q :=
  zw_astore_n (i := 3) dN_base_29 rfl (Nat.le_of_ble_eq_true rfl) hrs0 <| zw_aload_n (i := 3) dN_base_30 rfl rfl hrs0 <| zw_ifnonnull 36 dN_base_31 (by decide) hrs0 kt kf
theorem sN_base_34 {G : zG} {d : Nat} {Q : Option Value → Heap → Prop} {H : Heap} {o0 : Option Value} {o1 : Option Value} {o2 : Option Value} {o3 : Option Value} (hq : Q (some (.int (-1 : Int32))) H) : zW G d M_N_base 34 [o0, o1, o2, o3] [] H Q :=
  zw_iconst (-1 : Int32) dN_base_34 zki_m1 <| zw_iret dN_base_35 .int rfl rfl hq
theorem sN_base_36 {G : zG} {d : Nat} {Q : Option Value → Heap → Prop} {H : Heap} {st : List Value} {o1 : Option Value} {o2 : Option Value} {a0 : Nat} {v3 : Value} {b0 : Value} {b1 : Value} {b2 : Value} {b3 : Value} {b4 : Value} {b5 : Value} {b6 : Value} {b7 : Value} {b8 : Value} {b9 : Value} {b10 : Value} {b11 : Value} {b12 : Value} {b13 : Value} {b14 : Value} {b15 : Value} {b16 : Value} (hr3 : zRf v3 := by first | exact zRf_ref | exact zRf_null | exact zRf_rf _ | assumption) (ho : zObj G H a0 0 [b0, b1, b2, b3, b4, b5, b6, b7, b8, b9, b10, b11, b12, b13, b14, b15, b16]) (hw : zFr G a0) (kk : ∀ H1 : Heap, zObj G H1 a0 0 [b0, b1, b2, b3, b4, b5, b6, b7, v3, b9, b10, b11, b12, b13, b14, b15, b16] → zUp a0 H H1 → zW G d M_N_base 41 [some (.ref a0), o1, o2, some v3] st H1 Q) : zW G d M_N_base 36 [some (.ref a0), o1, o2, some v3] st H Q :=
  zw_aload_n (i := 0) dN_base_36 rfl rfl zRf_ref <| zw_aload_n (i := 3) dN_base_37 rfl rfl hr3 <| zw_putf (k := 8) dN_base_38 zp_N_base_69 ho (Nat.le_of_ble_eq_true rfl) (Nat.le_of_ble_eq_true rfl) hw (zNarO hr3) (zFitO hr3) kk
theorem sN_base_41 {G : zG} {d : Nat} {Q : Option Value → Heap → Prop} {H : Heap} {st : List Value} {o0 : Option Value} {o1 : Option Value} {o2 : Option Value} {a3 : Nat} {P : Int32 → Heap → Prop} (hd : 1 ≤ d) (hl : st.length ≤ 4) (ho : zIs G H a3 2) (hc : zC G (d - 1) M_Ad_segments [(.ref a3)] H (zPi P)) (kk : ∀ (r : Int32) (H1 : Heap), P r H1 → zOk G H1 → H.size ≤ H1.size → zT H ≤ zT H1 → zW G d M_N_base 45 [o0, o1, o2, some (.ref a3)] ((.int r) :: st) H1 Q) : zW G d M_N_base 41 [o0, o1, o2, some (.ref a3)] st H Q :=
  zw_aload_n (i := 3) dN_base_41 rfl rfl zRf_ref <| zw_callV [] _ dN_base_42 hd zk_N_135 ho rfl rfl hl hc (zPi_k kk)
theorem sN_base_45 {G : zG} {d : Nat} {Q : Option Value → Heap → Prop} {H : Heap} {o0 : Option Value} {o1 : Option Value} {o2 : Option Value} {o3 : Option Value} {xs0 : Int32} (hq : Q (some (.int xs0)) H) : zW G d M_N_base 45 [o0, o1, o2, o3] ((.int xs0) :: []) H Q :=
  zw_iret dN_base_45 .int rfl rfl hq
theorem sN_server_0 {G : zG} {d : Nat} {Q : Option Value → Heap → Prop} {H : Heap} {st : List Value} {o1 : Option Value} {o2 : Option Value} {o3 : Option Value} {o4 : Option Value} {o5 : Option Value} {o6 : Option Value} {a0 : Nat} {P : Value → Heap → Prop} (hd : 1 ≤ d) (hl : st.length ≤ 4) (ho : zIs G H a0 0) (hc : zC G (d - 1) M_N_takeText [(.ref a0)] H (zPr P)) (kk : ∀ (r : Value) (H1 : Heap), zRf r → P r H1 → zOk G H1 → H.size ≤ H1.size → zT H ≤ zT H1 → zW G d M_N_server 4 [some (.ref a0), o1, o2, o3, o4, o5, o6] (r :: st) H1 Q) : zW G d M_N_server 0 [some (.ref a0), o1, o2, o3, o4, o5, o6] st H Q :=
  zw_aload_n (i := 0) dN_server_0 rfl rfl zRf_ref <| zw_callV [] _ dN_server_1 hd zk_N_114 ho rfl rfl hl hc (zPr_k kk)
theorem sN_server_4 {G : zG} {d : Nat} {Q : Option Value → Heap → Prop} {H : Heap} {st : List Value} {o0 : Option Value} {o1 : Option Value} {o2 : Option Value} {o3 : Option Value} {o4 : Option Value} {o5 : Option Value} {o6 : Option Value} {vs0 : Value} {P : Int32 → Heap → Prop} (hrs0 : zRf vs0 := by first | exact zRf_ref | exact zRf_null | exact zRf_rf _ | assumption) (hd : 1 ≤ d) (hl : st.length ≤ 4) (hc : zC G (d - 1) M_Tx_badByte [vs0] H (zPi P)) (kk : ∀ (r : Int32) (H1 : Heap), P r H1 → zOk G H1 → H.size ≤ H1.size → zT H ≤ zT H1 → zW G d M_N_server 9 [o0, some vs0, o2, o3, o4, o5, o6] ((.int r) :: st) H1 Q) : zW G d M_N_server 4 [o0, o1, o2, o3, o4, o5, o6] (vs0 :: st) H Q :=
  zw_astore_n (i := 1) dN_server_4 rfl (Nat.le_of_ble_eq_true rfl) hrs0 <| zw_aload_n (i := 1) dN_server_5 rfl rfl hrs0 <| zw_callS [vs0] _ dN_server_6 hd zk_N_118 rfl rfl hl hc (zPi_k kk)
theorem sN_server_9 {G : zG} {d : Nat} {Q : Option Value → Heap → Prop} {H : Heap} {st : List Value} {o0 : Option Value} {o1 : Option Value} {o2 : Option Value} {o3 : Option Value} {o4 : Option Value} {o5 : Option Value} {o6 : Option Value} {xs0 : Int32} (kt : (xs0 = (-1 : Int32)) → zW G d M_N_server 21 [o0, o1, some (.int xs0), o3, o4, o5, o6] st H Q) (kf : (¬ xs0 = (-1 : Int32)) → zW G d M_N_server 15 [o0, o1, some (.int xs0), o3, o4, o5, o6] st H Q) : zW G d M_N_server 9 [o0, o1, o2, o3, o4, o5, o6] ((.int xs0) :: st) H Q :=
  zw_istore_n (i := 2) dN_server_9 rfl (Nat.le_of_ble_eq_true rfl) <| zw_iload_n (i := 2) dN_server_10 rfl rfl <| zw_iconst (-1 : Int32) dN_server_11 zki_m1 <| zw_icmp_eq 21 dN_server_12 (by decide) kt kf
theorem sN_server_15 {G : zG} {d : Nat} {Q : Option Value → Heap → Prop} {H : Heap} {o0 : Option Value} {o1 : Option Value} {o3 : Option Value} {o4 : Option Value} {o5 : Option Value} {o6 : Option Value} {x2 : Int32} (hq : Q (some (.int ((-1000 : Int32) - x2))) H) : zW G d M_N_server 15 [o0, o1, some (.int x2), o3, o4, o5, o6] [] H Q :=
  zw_sipush (-1000 : Int32) dN_server_15 zks_m1000 <| zw_iload_n (i := 2) dN_server_18 rfl rfl <| zw_isub dN_server_19 <| zw_iret dN_server_20 .int rfl rfl hq
theorem sN_server_21 {G : zG} {d : Nat} {Q : Option Value → Heap → Prop} {H : Heap} {st : List Value} {o0 : Option Value} {o1 : Option Value} {o2 : Option Value} {o3 : Option Value} {o4 : Option Value} {o5 : Option Value} {o6 : Option Value} (hc1 : H.size + 1 ≤ zCp G) (hs1 : zT H + 4 ≤ zSp G) (kk : ∀ H1 : Heap, zObj G H1 H.size 10 [.null, .null, .null, .null] → zNw 4 H H1 → zW G d M_N_server 24 [o0, o1, o2, o3, o4, o5, o6] ((.ref H.size) :: st) H1 Q) : zW G d M_N_server 21 [o0, o1, o2, o3, o4, o5, o6] st H Q :=
  zw_new dN_server_21 zn_N_server_138 hc1 hs1 kk
theorem sN_server_24 {G : zG} {d : Nat} {Q : Option Value → Heap → Prop} {H : Heap} {st : List Value} {o2 : Option Value} {o3 : Option Value} {o4 : Option Value} {o5 : Option Value} {o6 : Option Value} {as0 : Nat} {v1 : Value} {a0 : Nat} {vf1 : Value} {P : Heap → Prop} (hr1 : zRf v1 := by first | exact zRf_ref | exact zRf_null | exact zRf_rf _ | assumption) (hrf1 : zRf vf1 := by first | exact zRf_ref | exact zRf_null | exact zRf_rf _ | assumption) (hf1 : zFd G H a0 0 2 vf1) (hd : 1 ≤ d) (hl : ((.ref as0) :: st).length ≤ 4) (hc : zC G (d - 1) M_Sv_init [(.ref as0), v1, vf1] H (zPv P)) (kk : ∀ H1 : Heap, P H1 → zOk G H1 → H.size ≤ H1.size → zT H ≤ zT H1 → zW G d M_N_server 33 [some (.ref a0), some v1, o2, o3, o4, o5, o6] ((.ref as0) :: st) H1 Q) : zW G d M_N_server 24 [some (.ref a0), some v1, o2, o3, o4, o5, o6] ((.ref as0) :: st) H Q :=
  zw_dup dN_server_24 rfl <| zw_aload_n (i := 1) dN_server_25 rfl rfl hr1 <| zw_aload_n (i := 0) dN_server_26 rfl rfl zRf_ref <| zw_getf dN_server_27 zf_N_30 hf1 <| zw_callI [v1, vf1] _ dN_server_30 hd zk_N_140 rfl rfl hl hc (zPv_k kk)
theorem sN_server_33 {G : zG} {d : Nat} {Q : Option Value → Heap → Prop} {H : Heap} {st : List Value} {o0 : Option Value} {o1 : Option Value} {o2 : Option Value} {o3 : Option Value} {o4 : Option Value} {o5 : Option Value} {o6 : Option Value} {as0 : Nat} {P : Int32 → Heap → Prop} (hd : 1 ≤ d) (hl : st.length ≤ 4) (ho : zIs G H as0 10) (hc : zC G (d - 1) M_Sv_firstWrong [(.ref as0)] H (zPi P)) (kk : ∀ (r : Int32) (H1 : Heap), P r H1 → zOk G H1 → H.size ≤ H1.size → zT H ≤ zT H1 → zW G d M_N_server 38 [o0, o1, o2, some (.ref as0), o4, o5, o6] ((.int r) :: st) H1 Q) : zW G d M_N_server 33 [o0, o1, o2, o3, o4, o5, o6] ((.ref as0) :: st) H Q :=
  zw_astore_n (i := 3) dN_server_33 rfl (Nat.le_of_ble_eq_true rfl) zRf_ref <| zw_aload_n (i := 3) dN_server_34 rfl rfl zRf_ref <| zw_callV [] _ dN_server_35 hd zk_N_143 ho rfl rfl hl hc (zPi_k kk)
theorem sN_server_38 {G : zG} {d : Nat} {Q : Option Value → Heap → Prop} {H : Heap} {st : List Value} {o0 : Option Value} {o1 : Option Value} {o2 : Option Value} {o3 : Option Value} {o4 : Option Value} {o5 : Option Value} {o6 : Option Value} {xs0 : Int32} (kt : (xs0 = (-1 : Int32)) → zW G d M_N_server 53 [o0, o1, o2, o3, some (.int xs0), o5, o6] st H Q) (kf : (¬ xs0 = (-1 : Int32)) → zW G d M_N_server 46 [o0, o1, o2, o3, some (.int xs0), o5, o6] st H Q) : zW G d M_N_server 38 [o0, o1, o2, o3, o4, o5, o6] ((.int xs0) :: st) H Q :=
  zw_istore (i := 4) dN_server_38 (Nat.le_of_ble_eq_true rfl) <| zw_iload (i := 4) dN_server_40 rfl <| zw_iconst (-1 : Int32) dN_server_42 zki_m1 <| zw_icmp_eq 53 dN_server_43 (by decide) kt kf
theorem sN_server_46 {G : zG} {d : Nat} {Q : Option Value → Heap → Prop} {H : Heap} {o0 : Option Value} {o1 : Option Value} {o2 : Option Value} {o3 : Option Value} {o5 : Option Value} {o6 : Option Value} {x4 : Int32} (hq : Q (some (.int ((-1000 : Int32) - x4))) H) : zW G d M_N_server 46 [o0, o1, o2, o3, some (.int x4), o5, o6] [] H Q :=
  zw_sipush (-1000 : Int32) dN_server_46 zks_m1000 <| zw_iload (i := 4) dN_server_49 rfl <| zw_isub dN_server_51 <| zw_iret dN_server_52 .int rfl rfl hq
theorem sN_server_53 {G : zG} {d : Nat} {Q : Option Value → Heap → Prop} {H : Heap} {st : List Value} {o0 : Option Value} {o1 : Option Value} {o2 : Option Value} {o3 : Option Value} {o4 : Option Value} {o5 : Option Value} {o6 : Option Value} (hc1 : H.size + 1 ≤ zCp G) (hs1 : zT H + 7 ≤ zSp G) (kk : ∀ H1 : Heap, zObj G H1 H.size 3 [.null, .int 0, .null, .null, .null, .int 0, .null] → zNw 7 H H1 → zW G d M_N_server 56 [o0, o1, o2, o3, o4, o5, o6] ((.ref H.size) :: st) H1 Q) : zW G d M_N_server 53 [o0, o1, o2, o3, o4, o5, o6] st H Q :=
  zw_new dN_server_53 zn_N_server_33 hc1 hs1 kk
theorem sN_server_56 {G : zG} {d : Nat} {Q : Option Value → Heap → Prop} {H : Heap} {st : List Value} {o0 : Option Value} {o1 : Option Value} {o2 : Option Value} {o4 : Option Value} {o5 : Option Value} {o6 : Option Value} {as0 : Nat} {a3 : Nat} {vf1 : Value} {vf2 : Value} {vf3 : Value} {P : Heap → Prop} (hrf1 : zRf vf1 := by first | exact zRf_ref | exact zRf_null | exact zRf_rf _ | assumption) (hrf2 : zRf vf2 := by first | exact zRf_ref | exact zRf_null | exact zRf_rf _ | assumption) (hrf3 : zRf vf3 := by first | exact zRf_ref | exact zRf_null | exact zRf_rf _ | assumption) (hf1 : zFd G H a3 10 2 vf1) (hf2 : zFd G H a3 10 1 vf2) (hf3 : zFd G H a3 10 3 vf3) (hd : 1 ≤ d) (hl : ((.ref as0) :: st).length ≤ 4) (hc : zC G (d - 1) M_An_init [(.ref as0), vf1, vf2, vf3] H (zPv P)) (kk : ∀ H1 : Heap, P H1 → zOk G H1 → H.size ≤ H1.size → zT H ≤ zT H1 → zW G d M_N_server 72 [o0, o1, o2, some (.ref a3), o4, o5, o6] ((.ref as0) :: st) H1 Q) : zW G d M_N_server 56 [o0, o1, o2, some (.ref a3), o4, o5, o6] ((.ref as0) :: st) H Q :=
  zw_dup dN_server_56 rfl <| zw_aload_n (i := 3) dN_server_57 rfl rfl zRf_ref <| zw_getf dN_server_58 zf_N_146 hf1 <| zw_aload_n (i := 3) dN_server_61 rfl rfl zRf_ref <| zw_getf dN_server_62 zf_N_149 hf2 <| zw_aload_n (i := 3) dN_server_65 rfl rfl zRf_ref <| zw_getf dN_server_66 zf_N_153 hf3 <| zw_callI [vf1, vf2, vf3] _ dN_server_69 hd zk_N_38 rfl rfl hl hc (zPv_k kk)
theorem sN_server_72 {G : zG} {d : Nat} {Q : Option Value → Heap → Prop} {H : Heap} {st : List Value} {o1 : Option Value} {o2 : Option Value} {o3 : Option Value} {o4 : Option Value} {o5 : Option Value} {o6 : Option Value} {as0 : Nat} {a0 : Nat} {vf1 : Value} {P : Int32 → Heap → Prop} (hrf1 : zRf vf1 := by first | exact zRf_ref | exact zRf_null | exact zRf_rf _ | assumption) (hf1 : zFd G H as0 3 0 vf1) (hd : 1 ≤ d) (hl : st.length ≤ 4) (ho : zIs G H a0 0) (hc : zC G (d - 1) M_N_placeOfAnswer [(.ref a0), vf1] H (zPi P)) (kk : ∀ (r : Int32) (H1 : Heap), P r H1 → zOk G H1 → H.size ≤ H1.size → zT H ≤ zT H1 → zW G d M_N_server 83 [some (.ref a0), o1, o2, o3, o4, some (.ref as0), o6] ((.int r) :: st) H1 Q) : zW G d M_N_server 72 [some (.ref a0), o1, o2, o3, o4, o5, o6] ((.ref as0) :: st) H Q :=
  zw_astore (i := 5) dN_server_72 (Nat.le_of_ble_eq_true rfl) zRf_ref <| zw_aload_n (i := 0) dN_server_74 rfl rfl zRf_ref <| zw_aload (i := 5) dN_server_75 rfl zRf_ref <| zw_getf dN_server_77 zf_N_156 hf1 <| zw_callV [vf1] _ dN_server_80 hd zk_N_157 ho rfl rfl hl hc (zPi_k kk)
theorem sN_server_83 {G : zG} {d : Nat} {Q : Option Value → Heap → Prop} {H : Heap} {st : List Value} {o0 : Option Value} {o1 : Option Value} {o2 : Option Value} {o3 : Option Value} {o4 : Option Value} {o5 : Option Value} {o6 : Option Value} {xs0 : Int32} (kt : (xs0 = (-1 : Int32)) → zW G d M_N_server 106 [o0, o1, o2, o3, o4, o5, some (.int xs0)] st H Q) (kf : (¬ xs0 = (-1 : Int32)) → zW G d M_N_server 91 [o0, o1, o2, o3, o4, o5, some (.int xs0)] st H Q) : zW G d M_N_server 83 [o0, o1, o2, o3, o4, o5, o6] ((.int xs0) :: st) H Q :=
  zw_istore (i := 6) dN_server_83 (Nat.le_of_ble_eq_true rfl) <| zw_iload (i := 6) dN_server_85 rfl <| zw_iconst (-1 : Int32) dN_server_87 zki_m1 <| zw_icmp_eq 106 dN_server_88 (by decide) kt kf
theorem sN_server_91 {G : zG} {d : Nat} {Q : Option Value → Heap → Prop} {H : Heap} {st : List Value} {o1 : Option Value} {o2 : Option Value} {o3 : Option Value} {o4 : Option Value} {a0 : Nat} {af1 : Nat} {x6 : Int32} {v5 : Value} {P : Value → Heap → Prop} (hr5 : zRf v5 := by first | exact zRf_ref | exact zRf_null | exact zRf_rf _ | assumption) (hf1 : zFd G H a0 0 4 (.ref af1)) (hd : 1 ≤ d) (hl : st.length ≤ 4) (ho : zIs G H af1 5) (hc : zC G (d - 1) M_Al_set [(.ref af1), (.int x6), v5] H (zPr P)) (kk : ∀ (r : Value) (H1 : Heap), zRf r → P r H1 → zOk G H1 → H.size ≤ H1.size → zT H ≤ zT H1 → zW G d M_N_server 102 [some (.ref a0), o1, o2, o3, o4, some v5, some (.int x6)] (r :: st) H1 Q) : zW G d M_N_server 91 [some (.ref a0), o1, o2, o3, o4, some v5, some (.int x6)] st H Q :=
  zw_aload_n (i := 0) dN_server_91 rfl rfl zRf_ref <| zw_getf dN_server_92 zf_N_48 hf1 <| zw_iload (i := 6) dN_server_95 rfl <| zw_aload (i := 5) dN_server_97 rfl hr5 <| zw_callV [(.int x6), v5] _ dN_server_99 hd zk_N_161 ho rfl rfl hl hc (zPr_k kk)
theorem sN_server_102 {G : zG} {d : Nat} {Q : Option Value → Heap → Prop} {H : Heap} {st : List Value} {o1 : Option Value} {o2 : Option Value} {o3 : Option Value} {o4 : Option Value} {o5 : Option Value} {o6 : Option Value} {ws0 : Value} {a0 : Nat} {af1 : Nat} {P : Int32 → Heap → Prop} (hcs0 : ws0.category = 1 := by first | rfl | exact zRf.cat (by assumption)) (hf1 : zFd G H a0 0 4 (.ref af1)) (hd : 1 ≤ d) (hl : st.length ≤ 4) (ho : zIs G H af1 5) (hc : zC G (d - 1) M_Al_size [(.ref af1)] H (zPi P)) (kk : ∀ (r : Int32) (H1 : Heap), P r H1 → zOk G H1 → H.size ≤ H1.size → zT H ≤ zT H1 → zW G d M_N_server 140 [some (.ref a0), o1, o2, o3, o4, o5, o6] ((.int r) :: st) H1 Q) : zW G d M_N_server 102 [some (.ref a0), o1, o2, o3, o4, o5, o6] (ws0 :: st) H Q :=
  zw_pop dN_server_102 hcs0 <| zw_goto 133 dN_server_103 (by decide) <| zw_aload_n (i := 0) dN_server_133 rfl rfl zRf_ref <| zw_getf dN_server_134 zf_N_48 hf1 <| zw_callV [] _ dN_server_137 hd zk_N_165 ho rfl rfl hl hc (zPi_k kk)
theorem sN_server_106 {G : zG} {d : Nat} {Q : Option Value → Heap → Prop} {H : Heap} {st : List Value} {o1 : Option Value} {o2 : Option Value} {o3 : Option Value} {o4 : Option Value} {o5 : Option Value} {o6 : Option Value} {a0 : Nat} {af1 : Nat} {P : Int32 → Heap → Prop} (hf1 : zFd G H a0 0 4 (.ref af1)) (hd : 1 ≤ d) (hl : st.length ≤ 4) (ho : zIs G H af1 5) (hc : zC G (d - 1) M_Al_size [(.ref af1)] H (zPi P)) (kk : ∀ (r : Int32) (H1 : Heap), P r H1 → zOk G H1 → H.size ≤ H1.size → zT H ≤ zT H1 → zW G d M_N_server 113 [some (.ref a0), o1, o2, o3, o4, o5, o6] ((.int r) :: st) H1 Q) : zW G d M_N_server 106 [some (.ref a0), o1, o2, o3, o4, o5, o6] st H Q :=
  zw_aload_n (i := 0) dN_server_106 rfl rfl zRf_ref <| zw_getf dN_server_107 zf_N_48 hf1 <| zw_callV [] _ dN_server_110 hd zk_N_165 ho rfl rfl hl hc (zPi_k kk)
theorem sN_server_113 {G : zG} {d : Nat} {Q : Option Value → Heap → Prop} {H : Heap} {st : List Value} {o0 : Option Value} {o1 : Option Value} {o2 : Option Value} {o3 : Option Value} {o4 : Option Value} {o5 : Option Value} {o6 : Option Value} {xs0 : Int32} (kt : ((12 : Int32) ≤ xs0) → zW G d M_N_server 131 [o0, o1, o2, o3, o4, o5, o6] st H Q) (kf : (¬ (12 : Int32) ≤ xs0) → zW G d M_N_server 118 [o0, o1, o2, o3, o4, o5, o6] st H Q) : zW G d M_N_server 113 [o0, o1, o2, o3, o4, o5, o6] ((.int xs0) :: st) H Q :=
  zw_bipush (12 : Int32) dN_server_113 zkb_12 <| zw_icmp_ge 131 dN_server_115 (by decide) kt kf
theorem sN_server_118 {G : zG} {d : Nat} {Q : Option Value → Heap → Prop} {H : Heap} {st : List Value} {o1 : Option Value} {o2 : Option Value} {o3 : Option Value} {o4 : Option Value} {o6 : Option Value} {a0 : Nat} {af1 : Nat} {v5 : Value} {P : Int32 → Heap → Prop} (hr5 : zRf v5 := by first | exact zRf_ref | exact zRf_null | exact zRf_rf _ | assumption) (hf1 : zFd G H a0 0 4 (.ref af1)) (hd : 1 ≤ d) (hl : st.length ≤ 4) (ho : zIs G H af1 5) (hc : zC G (d - 1) M_Al_add_0 [(.ref af1), v5] H (zPi P)) (kk : ∀ (r : Int32) (H1 : Heap), P r H1 → zOk G H1 → H.size ≤ H1.size → zT H ≤ zT H1 → zW G d M_N_server 127 [some (.ref a0), o1, o2, o3, o4, some v5, o6] ((.int r) :: st) H1 Q) : zW G d M_N_server 118 [some (.ref a0), o1, o2, o3, o4, some v5, o6] st H Q :=
  zw_aload_n (i := 0) dN_server_118 rfl rfl zRf_ref <| zw_getf dN_server_119 zf_N_48 hf1 <| zw_aload (i := 5) dN_server_122 rfl hr5 <| zw_callV [v5] _ dN_server_124 hd zk_N_168 ho rfl rfl hl hc (zPi_k kk)
theorem sN_server_127 {G : zG} {d : Nat} {Q : Option Value → Heap → Prop} {H : Heap} {st : List Value} {o1 : Option Value} {o2 : Option Value} {o3 : Option Value} {o4 : Option Value} {o5 : Option Value} {o6 : Option Value} {ws0 : Value} {a0 : Nat} {af1 : Nat} {P : Int32 → Heap → Prop} (hcs0 : ws0.category = 1 := by first | rfl | exact zRf.cat (by assumption)) (hf1 : zFd G H a0 0 4 (.ref af1)) (hd : 1 ≤ d) (hl : st.length ≤ 4) (ho : zIs G H af1 5) (hc : zC G (d - 1) M_Al_size [(.ref af1)] H (zPi P)) (kk : ∀ (r : Int32) (H1 : Heap), P r H1 → zOk G H1 → H.size ≤ H1.size → zT H ≤ zT H1 → zW G d M_N_server 140 [some (.ref a0), o1, o2, o3, o4, o5, o6] ((.int r) :: st) H1 Q) : zW G d M_N_server 127 [some (.ref a0), o1, o2, o3, o4, o5, o6] (ws0 :: st) H Q :=
  zw_pop dN_server_127 hcs0 <| zw_goto 133 dN_server_128 (by decide) <| zw_aload_n (i := 0) dN_server_133 rfl rfl zRf_ref <| zw_getf dN_server_134 zf_N_48 hf1 <| zw_callV [] _ dN_server_137 hd zk_N_165 ho rfl rfl hl hc (zPi_k kk)
theorem sN_server_131 {G : zG} {d : Nat} {Q : Option Value → Heap → Prop} {H : Heap} {o0 : Option Value} {o1 : Option Value} {o2 : Option Value} {o3 : Option Value} {o4 : Option Value} {o5 : Option Value} {o6 : Option Value} (hq : Q (some (.int (-1 : Int32))) H) : zW G d M_N_server 131 [o0, o1, o2, o3, o4, o5, o6] [] H Q :=
  zw_iconst (-1 : Int32) dN_server_131 zki_m1 <| zw_iret dN_server_132 .int rfl rfl hq
theorem sN_server_133 {G : zG} {d : Nat} {Q : Option Value → Heap → Prop} {H : Heap} {st : List Value} {o1 : Option Value} {o2 : Option Value} {o3 : Option Value} {o4 : Option Value} {o5 : Option Value} {o6 : Option Value} {a0 : Nat} {af1 : Nat} {P : Int32 → Heap → Prop} (hf1 : zFd G H a0 0 4 (.ref af1)) (hd : 1 ≤ d) (hl : st.length ≤ 4) (ho : zIs G H af1 5) (hc : zC G (d - 1) M_Al_size [(.ref af1)] H (zPi P)) (kk : ∀ (r : Int32) (H1 : Heap), P r H1 → zOk G H1 → H.size ≤ H1.size → zT H ≤ zT H1 → zW G d M_N_server 140 [some (.ref a0), o1, o2, o3, o4, o5, o6] ((.int r) :: st) H1 Q) : zW G d M_N_server 133 [some (.ref a0), o1, o2, o3, o4, o5, o6] st H Q :=
  zw_aload_n (i := 0) dN_server_133 rfl rfl zRf_ref <| zw_getf dN_server_134 zf_N_48 hf1 <| zw_callV [] _ dN_server_137 hd zk_N_165 ho rfl rfl hl hc (zPi_k kk)
theorem sN_server_140 {G : zG} {d : Nat} {Q : Option Value → Heap → Prop} {H : Heap} {o0 : Option Value} {o1 : Option Value} {o2 : Option Value} {o3 : Option Value} {o4 : Option Value} {o5 : Option Value} {o6 : Option Value} {xs0 : Int32} (hq : Q (some (.int xs0)) H) : zW G d M_N_server 140 [o0, o1, o2, o3, o4, o5, o6] ((.int xs0) :: []) H Q :=
  zw_iret dN_server_140 .int rfl rfl hq
theorem sN_placeOfAnswer_0 {G : zG} {d : Nat} {Q : Option Value → Heap → Prop} {H : Heap} {st : List Value} {o0 : Option Value} {o1 : Option Value} {o2 : Option Value} (kk : zW G d M_N_placeOfAnswer 2 [o0, o1, some (.int (0 : Int32))] st H Q) : zW G d M_N_placeOfAnswer 0 [o0, o1, o2] st H Q :=
  zw_iconst (0 : Int32) dN_placeOfAnswer_0 zki_0 <| zw_istore_n (i := 2) dN_placeOfAnswer_1 rfl (Nat.le_of_ble_eq_true rfl) <| kk
theorem sN_placeOfAnswer_2 {G : zG} {d : Nat} {Q : Option Value → Heap → Prop} {H : Heap} {st : List Value} {o1 : Option Value} {x2 : Int32} {a0 : Nat} {af1 : Nat} {P : Int32 → Heap → Prop} (hf1 : zFd G H a0 0 4 (.ref af1)) (hd : 1 ≤ d) (hl : ((.int x2) :: st).length ≤ 4) (ho : zIs G H af1 5) (hc : zC G (d - 1) M_Al_size [(.ref af1)] H (zPi P)) (kk : ∀ (r : Int32) (H1 : Heap), P r H1 → zOk G H1 → H.size ≤ H1.size → zT H ≤ zT H1 → zW G d M_N_placeOfAnswer 10 [some (.ref a0), o1, some (.int x2)] ((.int r) :: (.int x2) :: st) H1 Q) : zW G d M_N_placeOfAnswer 2 [some (.ref a0), o1, some (.int x2)] st H Q :=
  zw_iload_n (i := 2) dN_placeOfAnswer_2 rfl rfl <| zw_aload_n (i := 0) dN_placeOfAnswer_3 rfl rfl zRf_ref <| zw_getf dN_placeOfAnswer_4 zf_N_48 hf1 <| zw_callV [] _ dN_placeOfAnswer_7 hd zk_N_165 ho rfl rfl hl hc (zPi_k kk)
theorem sN_placeOfAnswer_10 {G : zG} {d : Nat} {Q : Option Value → Heap → Prop} {H : Heap} {st : List Value} {o0 : Option Value} {o1 : Option Value} {o2 : Option Value} {xs0 : Int32} {xs1 : Int32} (kt : (xs0 ≤ xs1) → zW G d M_N_placeOfAnswer 42 [o0, o1, o2] st H Q) (kf : (¬ xs0 ≤ xs1) → zW G d M_N_placeOfAnswer 13 [o0, o1, o2] st H Q) : zW G d M_N_placeOfAnswer 10 [o0, o1, o2] ((.int xs0) :: (.int xs1) :: st) H Q :=
  zw_icmp_ge 42 dN_placeOfAnswer_10 (by decide) kt kf
theorem sN_placeOfAnswer_13 {G : zG} {d : Nat} {Q : Option Value → Heap → Prop} {H : Heap} {st : List Value} {o1 : Option Value} {a0 : Nat} {af1 : Nat} {x2 : Int32} {P : Value → Heap → Prop} (hf1 : zFd G H a0 0 4 (.ref af1)) (hd : 1 ≤ d) (hl : st.length ≤ 4) (ho : zIs G H af1 5) (hc : zC G (d - 1) M_Al_get [(.ref af1), (.int x2)] H (zPr P)) (kk : ∀ (r : Value) (H1 : Heap), zRf r → P r H1 → zOk G H1 → H.size ≤ H1.size → zT H ≤ zT H1 → zW G d M_N_placeOfAnswer 21 [some (.ref a0), o1, some (.int x2)] (r :: st) H1 Q) : zW G d M_N_placeOfAnswer 13 [some (.ref a0), o1, some (.int x2)] st H Q :=
  zw_aload_n (i := 0) dN_placeOfAnswer_13 rfl rfl zRf_ref <| zw_getf dN_placeOfAnswer_14 zf_N_48 hf1 <| zw_iload_n (i := 2) dN_placeOfAnswer_17 rfl rfl <| zw_callV [(.int x2)] _ dN_placeOfAnswer_18 hd zk_N_206 ho rfl rfl hl hc (zPr_k kk)
theorem sN_placeOfAnswer_21 {G : zG} {d : Nat} {Q : Option Value → Heap → Prop} {H : Heap} {st : List Value} {o0 : Option Value} {o2 : Option Value} {as0 : Nat} {af2 : Nat} {v1 : Value} {P : Int32 → Heap → Prop} (hr1 : zRf v1 := by first | exact zRf_ref | exact zRf_null | exact zRf_rf _ | assumption) (hq1 : zIs G H as0 3) (hf2 : zFd G H as0 3 0 (.ref af2)) (hd : 1 ≤ d) (hl : st.length ≤ 4) (ho : zIs G H af2 2) (hc : zC G (d - 1) M_Ad_isSamePlace [(.ref af2), v1] H (zPi P)) (kk : ∀ (r : Int32) (H1 : Heap), P r H1 → zOk G H1 → H.size ≤ H1.size → zT H ≤ zT H1 → zW G d M_N_placeOfAnswer 31 [o0, some v1, o2] ((.int r) :: st) H1 Q) : zW G d M_N_placeOfAnswer 21 [o0, some v1, o2] ((.ref as0) :: st) H Q :=
  zw_cast (ci := 3) dN_placeOfAnswer_21 rfl (zt1 95 rfl) hq1 <| zw_getf dN_placeOfAnswer_24 zf_N_156 hf2 <| zw_aload_n (i := 1) dN_placeOfAnswer_27 rfl rfl hr1 <| zw_callV [v1] _ dN_placeOfAnswer_28 hd zk_N_210 ho rfl rfl hl hc (zPi_k kk)
theorem sN_placeOfAnswer_31 {G : zG} {d : Nat} {Q : Option Value → Heap → Prop} {H : Heap} {st : List Value} {o0 : Option Value} {o1 : Option Value} {o2 : Option Value} {xs0 : Int32} (kt : (xs0 = 0) → zW G d M_N_placeOfAnswer 36 [o0, o1, o2] st H Q) (kf : (¬ xs0 = 0) → zW G d M_N_placeOfAnswer 34 [o0, o1, o2] st H Q) : zW G d M_N_placeOfAnswer 31 [o0, o1, o2] ((.int xs0) :: st) H Q :=
  zw_if_eq 36 dN_placeOfAnswer_31 (by decide) kt kf
theorem sN_placeOfAnswer_34 {G : zG} {d : Nat} {Q : Option Value → Heap → Prop} {H : Heap} {o0 : Option Value} {o1 : Option Value} {x2 : Int32} (hq : Q (some (.int x2)) H) : zW G d M_N_placeOfAnswer 34 [o0, o1, some (.int x2)] [] H Q :=
  zw_iload_n (i := 2) dN_placeOfAnswer_34 rfl rfl <| zw_iret dN_placeOfAnswer_35 .int rfl rfl hq
theorem sN_placeOfAnswer_36 {G : zG} {d : Nat} {Q : Option Value → Heap → Prop} {H : Heap} {st : List Value} {o0 : Option Value} {o1 : Option Value} {x2 : Int32} (kk : zW G d M_N_placeOfAnswer 2 [o0, o1, some (.int (x2 + (1 : Int32)))] st H Q) : zW G d M_N_placeOfAnswer 36 [o0, o1, some (.int x2)] st H Q :=
  zw_iinc (i := 2) (x2 + (1 : Int32)) dN_placeOfAnswer_36 rfl (by rw [zki_1]) <| zw_goto 2 dN_placeOfAnswer_39 (by decide) <| kk
theorem sN_placeOfAnswer_42 {G : zG} {d : Nat} {Q : Option Value → Heap → Prop} {H : Heap} {o0 : Option Value} {o1 : Option Value} {o2 : Option Value} (hq : Q (some (.int (-1 : Int32))) H) : zW G d M_N_placeOfAnswer 42 [o0, o1, o2] [] H Q :=
  zw_iconst (-1 : Int32) dN_placeOfAnswer_42 zki_m1 <| zw_iret dN_placeOfAnswer_43 .int rfl rfl hq
theorem sN_fetch_0 {G : zG} {d : Nat} {Q : Option Value → Heap → Prop} {H : Heap} {st : List Value} {o1 : Option Value} {o2 : Option Value} {o3 : Option Value} {a0 : Nat} {P : Value → Heap → Prop} (hd : 1 ≤ d) (hl : st.length ≤ 4) (ho : zIs G H a0 0) (hc : zC G (d - 1) M_N_takeText [(.ref a0)] H (zPr P)) (kk : ∀ (r : Value) (H1 : Heap), zRf r → P r H1 → zOk G H1 → H.size ≤ H1.size → zT H ≤ zT H1 → zW G d M_N_fetch 4 [some (.ref a0), o1, o2, o3] (r :: st) H1 Q) : zW G d M_N_fetch 0 [some (.ref a0), o1, o2, o3] st H Q :=
  zw_aload_n (i := 0) dN_fetch_0 rfl rfl zRf_ref <| zw_callV [] _ dN_fetch_1 hd zk_N_114 ho rfl rfl hl hc (zPr_k kk)
theorem sN_fetch_4 {G : zG} {d : Nat} {Q : Option Value → Heap → Prop} {H : Heap} {st : List Value} {o0 : Option Value} {o1 : Option Value} {o2 : Option Value} {o3 : Option Value} {vs0 : Value} {P : Int32 → Heap → Prop} (hrs0 : zRf vs0 := by first | exact zRf_ref | exact zRf_null | exact zRf_rf _ | assumption) (hd : 1 ≤ d) (hl : st.length ≤ 4) (hc : zC G (d - 1) M_Tx_badByte [vs0] H (zPi P)) (kk : ∀ (r : Int32) (H1 : Heap), P r H1 → zOk G H1 → H.size ≤ H1.size → zT H ≤ zT H1 → zW G d M_N_fetch 9 [o0, some vs0, o2, o3] ((.int r) :: st) H1 Q) : zW G d M_N_fetch 4 [o0, o1, o2, o3] (vs0 :: st) H Q :=
  zw_astore_n (i := 1) dN_fetch_4 rfl (Nat.le_of_ble_eq_true rfl) hrs0 <| zw_aload_n (i := 1) dN_fetch_5 rfl rfl hrs0 <| zw_callS [vs0] _ dN_fetch_6 hd zk_N_118 rfl rfl hl hc (zPi_k kk)
theorem sN_fetch_9 {G : zG} {d : Nat} {Q : Option Value → Heap → Prop} {H : Heap} {st : List Value} {o0 : Option Value} {o1 : Option Value} {o2 : Option Value} {o3 : Option Value} {xs0 : Int32} (kt : (xs0 = (-1 : Int32)) → zW G d M_N_fetch 21 [o0, o1, some (.int xs0), o3] st H Q) (kf : (¬ xs0 = (-1 : Int32)) → zW G d M_N_fetch 15 [o0, o1, some (.int xs0), o3] st H Q) : zW G d M_N_fetch 9 [o0, o1, o2, o3] ((.int xs0) :: st) H Q :=
  zw_istore_n (i := 2) dN_fetch_9 rfl (Nat.le_of_ble_eq_true rfl) <| zw_iload_n (i := 2) dN_fetch_10 rfl rfl <| zw_iconst (-1 : Int32) dN_fetch_11 zki_m1 <| zw_icmp_eq 21 dN_fetch_12 (by decide) kt kf
theorem sN_fetch_15 {G : zG} {d : Nat} {Q : Option Value → Heap → Prop} {H : Heap} {o0 : Option Value} {o1 : Option Value} {o3 : Option Value} {x2 : Int32} (hq : Q (some (.int ((-1000 : Int32) - x2))) H) : zW G d M_N_fetch 15 [o0, o1, some (.int x2), o3] [] H Q :=
  zw_sipush (-1000 : Int32) dN_fetch_15 zks_m1000 <| zw_iload_n (i := 2) dN_fetch_18 rfl rfl <| zw_isub dN_fetch_19 <| zw_iret dN_fetch_20 .int rfl rfl hq
theorem sN_fetch_21 {G : zG} {d : Nat} {Q : Option Value → Heap → Prop} {H : Heap} {st : List Value} {o2 : Option Value} {o3 : Option Value} {v1 : Value} {a0 : Nat} {vf1 : Value} {P : Value → Heap → Prop} (hr1 : zRf v1 := by first | exact zRf_ref | exact zRf_null | exact zRf_rf _ | assumption) (hrf1 : zRf vf1 := by first | exact zRf_ref | exact zRf_null | exact zRf_rf _ | assumption) (hf1 : zFd G H a0 0 8 vf1) (hd : 1 ≤ d) (hl : st.length ≤ 4) (hc : zC G (d - 1) M_Ad_read [v1, vf1] H (zPr P)) (kk : ∀ (r : Value) (H1 : Heap), zRf r → P r H1 → zOk G H1 → H.size ≤ H1.size → zT H ≤ zT H1 → zW G d M_N_fetch 29 [some (.ref a0), some v1, o2, o3] (r :: st) H1 Q) : zW G d M_N_fetch 21 [some (.ref a0), some v1, o2, o3] st H Q :=
  zw_aload_n (i := 1) dN_fetch_21 rfl rfl hr1 <| zw_aload_n (i := 0) dN_fetch_22 rfl rfl zRf_ref <| zw_getf dN_fetch_23 zf_N_69 hf1 <| zw_callS [v1, vf1] _ dN_fetch_26 hd zk_N_124 rfl rfl hl hc (zPr_k kk)
theorem sN_fetch_29 {G : zG} {d : Nat} {Q : Option Value → Heap → Prop} {H : Heap} {st : List Value} {o0 : Option Value} {o1 : Option Value} {o2 : Option Value} {o3 : Option Value} {vs0 : Value} (hrs0 : zRf vs0 := by first | exact zRf_ref | exact zRf_null | exact zRf_rf _ | assumption) (kt : (∀ a : Nat, vs0 = .ref a → zW G d M_N_fetch 36 [o0, o1, o2, some vs0] st H Q)) (kf : (vs0 = .null) → zW G d M_N_fetch 34 [o0, o1, o2, some vs0] st H Q) : zW G d M_N_fetch 29 [o0, o1, o2, o3] (vs0 :: st) H Q :=
  zw_astore_n (i := 3) dN_fetch_29 rfl (Nat.le_of_ble_eq_true rfl) hrs0 <| zw_aload_n (i := 3) dN_fetch_30 rfl rfl hrs0 <| zw_ifnonnull 36 dN_fetch_31 (by decide) hrs0 kt kf
theorem sN_fetch_34 {G : zG} {d : Nat} {Q : Option Value → Heap → Prop} {H : Heap} {o0 : Option Value} {o1 : Option Value} {o2 : Option Value} {o3 : Option Value} (hq : Q (some (.int (-1 : Int32))) H) : zW G d M_N_fetch 34 [o0, o1, o2, o3] [] H Q :=
  zw_iconst (-1 : Int32) dN_fetch_34 zki_m1 <| zw_iret dN_fetch_35 .int rfl rfl hq
theorem sN_fetch_36 {G : zG} {d : Nat} {Q : Option Value → Heap → Prop} {H : Heap} {st : List Value} {o1 : Option Value} {o2 : Option Value} {a0 : Nat} {v3 : Value} {P : Heap → Prop} (hr3 : zRf v3 := by first | exact zRf_ref | exact zRf_null | exact zRf_rf _ | assumption) (hd : 1 ≤ d) (hl : st.length ≤ 4) (ho : zIs G H a0 0) (hc : zC G (d - 1) M_N_follow [(.ref a0), v3] H (zPv P)) (kk : ∀ H1 : Heap, P H1 → zOk G H1 → H.size ≤ H1.size → zT H ≤ zT H1 → zW G d M_N_fetch 41 [some (.ref a0), o1, o2, some v3] st H1 Q) : zW G d M_N_fetch 36 [some (.ref a0), o1, o2, some v3] st H Q :=
  zw_aload_n (i := 0) dN_fetch_36 rfl rfl zRf_ref <| zw_aload_n (i := 3) dN_fetch_37 rfl rfl hr3 <| zw_callV [v3] _ dN_fetch_38 hd zk_N_172 ho rfl rfl hl hc (zPv_k kk)
theorem sN_fetch_41 {G : zG} {d : Nat} {Q : Option Value → Heap → Prop} {H : Heap} {st : List Value} {o1 : Option Value} {o2 : Option Value} {o3 : Option Value} {a0 : Nat} {af1 : Nat} {af2 : Nat} {P : Int32 → Heap → Prop} (hf1 : zFd G H a0 0 12 (.ref af1)) (hf2 : zFd G H af1 3 6 (.ref af2)) (hd : 1 ≤ d) (hl : st.length ≤ 4) (ho : zIs G H af2 8) (hc : zC G (d - 1) M_St_length [(.ref af2)] H (zPi P)) (kk : ∀ (r : Int32) (H1 : Heap), P r H1 → zOk G H1 → H.size ≤ H1.size → zT H ≤ zT H1 → zW G d M_N_fetch 51 [some (.ref a0), o1, o2, o3] ((.int r) :: st) H1 Q) : zW G d M_N_fetch 41 [some (.ref a0), o1, o2, o3] st H Q :=
  zw_aload_n (i := 0) dN_fetch_41 rfl rfl zRf_ref <| zw_getf dN_fetch_42 zf_N_82 hf1 <| zw_getf dN_fetch_45 zf_N_176 hf2 <| zw_callV [] _ dN_fetch_48 hd zk_N_177 ho rfl rfl hl hc (zPi_k kk)
theorem sN_fetch_51 {G : zG} {d : Nat} {Q : Option Value → Heap → Prop} {H : Heap} {o0 : Option Value} {o1 : Option Value} {o2 : Option Value} {o3 : Option Value} {xs0 : Int32} (hq : Q (some (.int xs0)) H) : zW G d M_N_fetch 51 [o0, o1, o2, o3] ((.int xs0) :: []) H Q :=
  zw_iret dN_fetch_51 .int rfl rfl hq
theorem sN_follow_0 {G : zG} {d : Nat} {Q : Option Value → Heap → Prop} {H : Heap} {st : List Value} {o2 : Option Value} {o3 : Option Value} {o4 : Option Value} {v1 : Value} {a0 : Nat} {P : Value → Heap → Prop} (hr1 : zRf v1 := by first | exact zRf_ref | exact zRf_null | exact zRf_rf _ | assumption) (hd : 1 ≤ d) (hl : st.length ≤ 4) (ho : zIs G H a0 0) (hc : zC G (d - 1) M_N_answerFrom [(.ref a0), v1] H (zPr P)) (kk : ∀ (r : Value) (H1 : Heap), zRf r → P r H1 → zOk G H1 → H.size ≤ H1.size → zT H ≤ zT H1 → zW G d M_N_follow 7 [some (.ref a0), some v1, some v1, o3, o4] (r :: st) H1 Q) : zW G d M_N_follow 0 [some (.ref a0), some v1, o2, o3, o4] st H Q :=
  zw_aload_n (i := 1) dN_follow_0 rfl rfl hr1 <| zw_astore_n (i := 2) dN_follow_1 rfl (Nat.le_of_ble_eq_true rfl) hr1 <| zw_aload_n (i := 0) dN_follow_2 rfl rfl zRf_ref <| zw_aload_n (i := 2) dN_follow_3 rfl rfl hr1 <| zw_callV [v1] _ dN_follow_4 hd zk_N_214 ho rfl rfl hl hc (zPr_k kk)
theorem sN_follow_7 {G : zG} {d : Nat} {Q : Option Value → Heap → Prop} {H : Heap} {st : List Value} {o1 : Option Value} {o2 : Option Value} {o3 : Option Value} {o4 : Option Value} {vs0 : Value} {a0 : Nat} {b0 : Value} {b1 : Value} {b2 : Value} {b3 : Value} {b4 : Value} {b5 : Value} {b6 : Value} {b7 : Value} {b8 : Value} {b9 : Value} {b10 : Value} {b11 : Value} {b12 : Value} {b13 : Value} {b14 : Value} {b15 : Value} {b16 : Value} (hrs0 : zRf vs0 := by first | exact zRf_ref | exact zRf_null | exact zRf_rf _ | assumption) (ho : zObj G H a0 0 [b0, b1, b2, b3, b4, b5, b6, b7, b8, b9, b10, b11, b12, b13, b14, b15, b16]) (hw : zFr G a0) (kk : ∀ H1 : Heap, zObj G H1 a0 0 [b0, b1, b2, b3, b4, b5, b6, b7, b8, b9, b10, b11, b12, b13, b14, (.int (0 : Int32)), b16] → zUp a0 H H1 → zW G d M_N_follow 13 [some (.ref a0), o1, o2, some vs0, o4] st H1 Q) : zW G d M_N_follow 7 [some (.ref a0), o1, o2, o3, o4] (vs0 :: st) H Q :=
  zw_astore_n (i := 3) dN_follow_7 rfl (Nat.le_of_ble_eq_true rfl) hrs0 <| zw_aload_n (i := 0) dN_follow_8 rfl rfl zRf_ref <| zw_iconst (0 : Int32) dN_follow_9 zki_0 <| zw_putf (k := 15) dN_follow_10 zp_N_follow_92 ho (Nat.le_of_ble_eq_true rfl) (Nat.le_of_ble_eq_true rfl) hw rfl rfl kk
theorem sN_follow_13 {G : zG} {d : Nat} {Q : Option Value → Heap → Prop} {H : Heap} {st : List Value} {o0 : Option Value} {o1 : Option Value} {o2 : Option Value} {o3 : Option Value} {o4 : Option Value} (kk : zW G d M_N_follow 16 [o0, o1, o2, o3, some (.int (0 : Int32))] st H Q) : zW G d M_N_follow 13 [o0, o1, o2, o3, o4] st H Q :=
  zw_iconst (0 : Int32) dN_follow_13 zki_0 <| zw_istore (i := 4) dN_follow_14 (Nat.le_of_ble_eq_true rfl) <| kk
theorem sN_follow_16 {G : zG} {d : Nat} {Q : Option Value → Heap → Prop} {H : Heap} {st : List Value} {o0 : Option Value} {o1 : Option Value} {o2 : Option Value} {o3 : Option Value} {x4 : Int32} (kt : ((5 : Int32) ≤ x4) → zW G d M_N_follow 56 [o0, o1, o2, o3, some (.int x4)] st H Q) (kf : (¬ (5 : Int32) ≤ x4) → zW G d M_N_follow 22 [o0, o1, o2, o3, some (.int x4)] st H Q) : zW G d M_N_follow 16 [o0, o1, o2, o3, some (.int x4)] st H Q :=
  zw_iload (i := 4) dN_follow_16 rfl <| zw_iconst (5 : Int32) dN_follow_18 zki_5 <| zw_icmp_ge 56 dN_follow_19 (by decide) kt kf
theorem sN_follow_22 {G : zG} {d : Nat} {Q : Option Value → Heap → Prop} {H : Heap} {st : List Value} {o0 : Option Value} {o1 : Option Value} {o2 : Option Value} {o4 : Option Value} {a3 : Nat} {vf1 : Value} (hrf1 : zRf vf1 := by first | exact zRf_ref | exact zRf_null | exact zRf_rf _ | assumption) (hf1 : zFd G H a3 3 4 vf1) (kt : (vf1 = .null) → zW G d M_N_follow 56 [o0, o1, o2, some (.ref a3), o4] st H Q) (kf : (∀ a : Nat, vf1 = .ref a → zW G d M_N_follow 29 [o0, o1, o2, some (.ref a3), o4] st H Q)) : zW G d M_N_follow 22 [o0, o1, o2, some (.ref a3), o4] st H Q :=
  zw_aload_n (i := 3) dN_follow_22 rfl rfl zRf_ref <| zw_getf dN_follow_23 zf_N_218 hf1 <| zw_ifnull 56 dN_follow_26 (by decide) hrf1 kt kf
theorem sN_follow_29 {G : zG} {d : Nat} {Q : Option Value → Heap → Prop} {H : Heap} {st : List Value} {o1 : Option Value} {o2 : Option Value} {o4 : Option Value} {a3 : Nat} {vf1 : Value} {a0 : Nat} {P : Value → Heap → Prop} (hrf1 : zRf vf1 := by first | exact zRf_ref | exact zRf_null | exact zRf_rf _ | assumption) (hf1 : zFd G H a3 3 4 vf1) (hd : 1 ≤ d) (hl : st.length ≤ 4) (ho : zIs G H a0 0) (hc : zC G (d - 1) M_N_answerFrom [(.ref a0), vf1] H (zPr P)) (kk : ∀ (r : Value) (H1 : Heap), zRf r → P r H1 → zOk G H1 → H.size ≤ H1.size → zT H ≤ zT H1 → zW G d M_N_follow 39 [some (.ref a0), o1, some vf1, some (.ref a3), o4] (r :: st) H1 Q) : zW G d M_N_follow 29 [some (.ref a0), o1, o2, some (.ref a3), o4] st H Q :=
  zw_aload_n (i := 3) dN_follow_29 rfl rfl zRf_ref <| zw_getf dN_follow_30 zf_N_218 hf1 <| zw_astore_n (i := 2) dN_follow_33 rfl (Nat.le_of_ble_eq_true rfl) hrf1 <| zw_aload_n (i := 0) dN_follow_34 rfl rfl zRf_ref <| zw_aload_n (i := 2) dN_follow_35 rfl rfl hrf1 <| zw_callV [vf1] _ dN_follow_36 hd zk_N_214 ho rfl rfl hl hc (zPr_k kk)
theorem sN_follow_39 {G : zG} {d : Nat} {Q : Option Value → Heap → Prop} {H : Heap} {st : List Value} {o1 : Option Value} {o2 : Option Value} {o3 : Option Value} {o4 : Option Value} {vs0 : Value} {a0 : Nat} {xf1 : Int32} {b0 : Value} {b1 : Value} {b2 : Value} {b3 : Value} {b4 : Value} {b5 : Value} {b6 : Value} {b7 : Value} {b8 : Value} {b9 : Value} {b10 : Value} {b11 : Value} {b12 : Value} {b13 : Value} {b14 : Value} {b15 : Value} {b16 : Value} (hrs0 : zRf vs0 := by first | exact zRf_ref | exact zRf_null | exact zRf_rf _ | assumption) (hf1 : zFd G H a0 0 15 (.int xf1)) (ho : zObj G H a0 0 [b0, b1, b2, b3, b4, b5, b6, b7, b8, b9, b10, b11, b12, b13, b14, b15, b16]) (hw : zFr G a0) (kk : ∀ H1 : Heap, zObj G H1 a0 0 [b0, b1, b2, b3, b4, b5, b6, b7, b8, b9, b10, b11, b12, b13, b14, (.int (xf1 + (1 : Int32))), b16] → zUp a0 H H1 → zW G d M_N_follow 50 [some (.ref a0), o1, o2, some vs0, o4] st H1 Q) : zW G d M_N_follow 39 [some (.ref a0), o1, o2, o3, o4] (vs0 :: st) H Q :=
  zw_astore_n (i := 3) dN_follow_39 rfl (Nat.le_of_ble_eq_true rfl) hrs0 <| zw_aload_n (i := 0) dN_follow_40 rfl rfl zRf_ref <| zw_dup dN_follow_41 rfl <| zw_getf dN_follow_42 zf_N_92 hf1 <| zw_iconst (1 : Int32) dN_follow_45 zki_1 <| zw_iadd dN_follow_46 <| zw_putf (k := 15) dN_follow_47 zp_N_follow_92 ho (Nat.le_of_ble_eq_true rfl) (Nat.le_of_ble_eq_true rfl) hw rfl rfl kk
theorem sN_follow_50 {G : zG} {d : Nat} {Q : Option Value → Heap → Prop} {H : Heap} {st : List Value} {o0 : Option Value} {o1 : Option Value} {o2 : Option Value} {o3 : Option Value} {x4 : Int32} (kk : zW G d M_N_follow 16 [o0, o1, o2, o3, some (.int (x4 + (1 : Int32)))] st H Q) : zW G d M_N_follow 50 [o0, o1, o2, o3, some (.int x4)] st H Q :=
  zw_iinc (i := 4) (x4 + (1 : Int32)) dN_follow_50 rfl (by rw [zki_1]) <| zw_goto 16 dN_follow_53 (by decide) <| kk
theorem sN_follow_56 {G : zG} {d : Nat} {Q : Option Value → Heap → Prop} {H : Heap} {st : List Value} {o1 : Option Value} {o2 : Option Value} {o4 : Option Value} {v0 : Value} {a3 : Nat} {vf1 : Value} (hr0 : zRf v0 := by first | exact zRf_ref | exact zRf_null | exact zRf_rf _ | assumption) (hrf1 : zRf vf1 := by first | exact zRf_ref | exact zRf_null | exact zRf_rf _ | assumption) (hf1 : zFd G H a3 3 4 vf1) (kt : (∀ a : Nat, vf1 = .ref a → zW G d M_N_follow 68 [some v0, o1, o2, some (.ref a3), o4] (v0 :: st) H Q)) (kf : (vf1 = .null) → zW G d M_N_follow 64 [some v0, o1, o2, some (.ref a3), o4] (v0 :: st) H Q) : zW G d M_N_follow 56 [some v0, o1, o2, some (.ref a3), o4] st H Q :=
  zw_aload_n (i := 0) dN_follow_56 rfl rfl hr0 <| zw_aload_n (i := 3) dN_follow_57 rfl rfl zRf_ref <| zw_getf dN_follow_58 zf_N_218 hf1 <| zw_ifnonnull 68 dN_follow_61 (by decide) hrf1 kt kf
theorem sN_follow_64 {G : zG} {d : Nat} {Q : Option Value → Heap → Prop} {H : Heap} {st : List Value} {o0 : Option Value} {o1 : Option Value} {o2 : Option Value} {o4 : Option Value} {v3 : Value} {as0 : Nat} {b0 : Value} {b1 : Value} {b2 : Value} {b3 : Value} {b4 : Value} {b5 : Value} {b6 : Value} {b7 : Value} {b8 : Value} {b9 : Value} {b10 : Value} {b11 : Value} {b12 : Value} {b13 : Value} {b14 : Value} {b15 : Value} {b16 : Value} (hr3 : zRf v3 := by first | exact zRf_ref | exact zRf_null | exact zRf_rf _ | assumption) (ho : zObj G H as0 0 [b0, b1, b2, b3, b4, b5, b6, b7, b8, b9, b10, b11, b12, b13, b14, b15, b16]) (hw : zFr G as0) (kk : ∀ H1 : Heap, zObj G H1 as0 0 [b0, b1, b2, b3, b4, b5, b6, b7, b8, b9, b10, b11, v3, b13, b14, b15, b16] → zUp as0 H H1 → zW G d M_N_follow 75 [o0, o1, o2, some v3, o4] st H1 Q) : zW G d M_N_follow 64 [o0, o1, o2, some v3, o4] ((.ref as0) :: st) H Q :=
  zw_aload_n (i := 3) dN_follow_64 rfl rfl hr3 <| zw_goto 72 dN_follow_65 (by decide) <| zw_putf (k := 12) dN_follow_72 zp_N_follow_82 ho (Nat.le_of_ble_eq_true rfl) (Nat.le_of_ble_eq_true rfl) hw (zNarO hr3) (zFitO hr3) kk
theorem sN_follow_68 {G : zG} {d : Nat} {Q : Option Value → Heap → Prop} {H : Heap} {st : List Value} {o1 : Option Value} {o2 : Option Value} {o3 : Option Value} {o4 : Option Value} {a0 : Nat} {vf1 : Value} {as0 : Nat} {b0 : Value} {b1 : Value} {b2 : Value} {b3 : Value} {b4 : Value} {b5 : Value} {b6 : Value} {b7 : Value} {b8 : Value} {b9 : Value} {b10 : Value} {b11 : Value} {b12 : Value} {b13 : Value} {b14 : Value} {b15 : Value} {b16 : Value} (hrf1 : zRf vf1 := by first | exact zRf_ref | exact zRf_null | exact zRf_rf _ | assumption) (hf1 : zFd G H a0 0 3 vf1) (ho : zObj G H as0 0 [b0, b1, b2, b3, b4, b5, b6, b7, b8, b9, b10, b11, b12, b13, b14, b15, b16]) (hw : zFr G as0) (kk : ∀ H1 : Heap, zObj G H1 as0 0 [b0, b1, b2, b3, b4, b5, b6, b7, b8, b9, b10, b11, vf1, b13, b14, b15, b16] → zUp as0 H H1 → zW G d M_N_follow 75 [some (.ref a0), o1, o2, o3, o4] st H1 Q) : zW G d M_N_follow 68 [some (.ref a0), o1, o2, o3, o4] ((.ref as0) :: st) H Q :=
  zw_aload_n (i := 0) dN_follow_68 rfl rfl zRf_ref <| zw_getf dN_follow_69 zf_N_41 hf1 <| zw_putf (k := 12) dN_follow_72 zp_N_follow_82 ho (Nat.le_of_ble_eq_true rfl) (Nat.le_of_ble_eq_true rfl) hw (zNarO hrf1) (zFitO hrf1) kk
theorem sN_follow_72 {G : zG} {d : Nat} {Q : Option Value → Heap → Prop} {H : Heap} {st : List Value} {o0 : Option Value} {o1 : Option Value} {o2 : Option Value} {o3 : Option Value} {o4 : Option Value} {vs0 : Value} {as1 : Nat} {b0 : Value} {b1 : Value} {b2 : Value} {b3 : Value} {b4 : Value} {b5 : Value} {b6 : Value} {b7 : Value} {b8 : Value} {b9 : Value} {b10 : Value} {b11 : Value} {b12 : Value} {b13 : Value} {b14 : Value} {b15 : Value} {b16 : Value} (hrs0 : zRf vs0 := by first | exact zRf_ref | exact zRf_null | exact zRf_rf _ | assumption) (ho : zObj G H as1 0 [b0, b1, b2, b3, b4, b5, b6, b7, b8, b9, b10, b11, b12, b13, b14, b15, b16]) (hw : zFr G as1) (kk : ∀ H1 : Heap, zObj G H1 as1 0 [b0, b1, b2, b3, b4, b5, b6, b7, b8, b9, b10, b11, vs0, b13, b14, b15, b16] → zUp as1 H H1 → zW G d M_N_follow 75 [o0, o1, o2, o3, o4] st H1 Q) : zW G d M_N_follow 72 [o0, o1, o2, o3, o4] (vs0 :: (.ref as1) :: st) H Q :=
  zw_putf (k := 12) dN_follow_72 zp_N_follow_82 ho (Nat.le_of_ble_eq_true rfl) (Nat.le_of_ble_eq_true rfl) hw (zNarO hrs0) (zFitO hrs0) kk
theorem sN_follow_75 {G : zG} {d : Nat} {Q : Option Value → Heap → Prop} {H : Heap} {st : List Value} {o1 : Option Value} {o3 : Option Value} {o4 : Option Value} {a0 : Nat} {v2 : Value} {b0 : Value} {b1 : Value} {b2 : Value} {b3 : Value} {b4 : Value} {b5 : Value} {b6 : Value} {b7 : Value} {b8 : Value} {b9 : Value} {b10 : Value} {b11 : Value} {b12 : Value} {b13 : Value} {b14 : Value} {b15 : Value} {b16 : Value} (hr2 : zRf v2 := by first | exact zRf_ref | exact zRf_null | exact zRf_rf _ | assumption) (ho : zObj G H a0 0 [b0, b1, b2, b3, b4, b5, b6, b7, b8, b9, b10, b11, b12, b13, b14, b15, b16]) (hw : zFr G a0) (kk : ∀ H1 : Heap, zObj G H1 a0 0 [b0, b1, b2, b3, b4, b5, b6, b7, b8, b9, b10, b11, b12, v2, b14, b15, b16] → zUp a0 H H1 → zW G d M_N_follow 80 [some (.ref a0), o1, some v2, o3, o4] st H1 Q) : zW G d M_N_follow 75 [some (.ref a0), o1, some v2, o3, o4] st H Q :=
  zw_aload_n (i := 0) dN_follow_75 rfl rfl zRf_ref <| zw_aload_n (i := 2) dN_follow_76 rfl rfl hr2 <| zw_putf (k := 13) dN_follow_77 zp_N_follow_85 ho (Nat.le_of_ble_eq_true rfl) (Nat.le_of_ble_eq_true rfl) hw (zNarO hr2) (zFitO hr2) kk
theorem sN_follow_80 {G : zG} {d : Nat} {Q : Option Value → Heap → Prop} {H : Heap} {st : List Value} {o2 : Option Value} {o3 : Option Value} {o4 : Option Value} {a0 : Nat} {a1 : Nat} {vf1 : Value} {b0 : Value} {b1 : Value} {b2 : Value} {b3 : Value} {b4 : Value} {b5 : Value} {b6 : Value} {b7 : Value} {b8 : Value} {b9 : Value} {b10 : Value} {b11 : Value} {b12 : Value} {b13 : Value} {b14 : Value} {b15 : Value} {b16 : Value} (hrf1 : zRf vf1 := by first | exact zRf_ref | exact zRf_null | exact zRf_rf _ | assumption) (hf1 : zFd G H a1 2 3 vf1) (ho : zObj G H a0 0 [b0, b1, b2, b3, b4, b5, b6, b7, b8, b9, b10, b11, b12, b13, b14, b15, b16]) (hw : zFr G a0) (kk : ∀ H1 : Heap, zObj G H1 a0 0 [b0, b1, b2, b3, b4, b5, b6, b7, b8, b9, b10, b11, b12, b13, vf1, b15, b16] → zUp a0 H H1 → zW G d M_N_follow 88 [some (.ref a0), some (.ref a1), o2, o3, o4] st H1 Q) : zW G d M_N_follow 80 [some (.ref a0), some (.ref a1), o2, o3, o4] st H Q :=
  zw_aload_n (i := 0) dN_follow_80 rfl rfl zRf_ref <| zw_aload_n (i := 1) dN_follow_81 rfl rfl zRf_ref <| zw_getf dN_follow_82 zf_N_128 hf1 <| zw_putf (k := 14) dN_follow_85 zp_N_follow_88 ho (Nat.le_of_ble_eq_true rfl) (Nat.le_of_ble_eq_true rfl) hw (zNarO hrf1) (zFitO hrf1) kk
theorem sN_follow_88 {G : zG} {d : Nat} {Q : Option Value → Heap → Prop} {H : Heap} {o0 : Option Value} {o1 : Option Value} {o2 : Option Value} {o3 : Option Value} {o4 : Option Value} (hq : Q none H) : zW G d M_N_follow 88 [o0, o1, o2, o3, o4] [] H Q :=
  zw_vret dN_follow_88 rfl hq
theorem sN_answerFrom_0 {G : zG} {d : Nat} {Q : Option Value → Heap → Prop} {H : Heap} {st : List Value} {o2 : Option Value} {a0 : Nat} {af1 : Nat} {v1 : Value} {xf2 : Int32} {P : Value → Heap → Prop} (hr1 : zRf v1 := by first | exact zRf_ref | exact zRf_null | exact zRf_rf _ | assumption) (hf1 : zFd G H a0 0 6 (.ref af1)) (hf2 : zFd G H a0 0 9 (.int xf2)) (hd : 1 ≤ d) (hl : st.length ≤ 4) (ho : zIs G H af1 7) (hc : zC G (d - 1) M_Kp_fresh [(.ref af1), v1, (.int xf2)] H (zPr P)) (kk : ∀ (r : Value) (H1 : Heap), zRf r → P r H1 → zOk G H1 → H.size ≤ H1.size → zT H ≤ zT H1 → zW G d M_N_answerFrom 12 [some (.ref a0), some v1, o2] (r :: st) H1 Q) : zW G d M_N_answerFrom 0 [some (.ref a0), some v1, o2] st H Q :=
  zw_aload_n (i := 0) dN_answerFrom_0 rfl rfl zRf_ref <| zw_getf dN_answerFrom_1 zf_N_62 hf1 <| zw_aload_n (i := 1) dN_answerFrom_4 rfl rfl hr1 <| zw_aload_n (i := 0) dN_answerFrom_5 rfl rfl zRf_ref <| zw_getf dN_answerFrom_6 zf_N_72 hf2 <| zw_callV [v1, (.int xf2)] _ dN_answerFrom_9 hd zk_N_221 ho rfl rfl hl hc (zPr_k kk)
theorem sN_answerFrom_12 {G : zG} {d : Nat} {Q : Option Value → Heap → Prop} {H : Heap} {st : List Value} {o1 : Option Value} {o2 : Option Value} {vs0 : Value} {v0 : Value} (hrs0 : zRf vs0 := by first | exact zRf_ref | exact zRf_null | exact zRf_rf _ | assumption) (hr0 : zRf v0 := by first | exact zRf_ref | exact zRf_null | exact zRf_rf _ | assumption) (kt : (vs0 = .null) → zW G d M_N_answerFrom 22 [some v0, o1, some vs0] (v0 :: st) H Q) (kf : (∀ a : Nat, vs0 = .ref a → zW G d M_N_answerFrom 18 [some v0, o1, some vs0] (v0 :: st) H Q)) : zW G d M_N_answerFrom 12 [some v0, o1, o2] (vs0 :: st) H Q :=
  zw_astore_n (i := 2) dN_answerFrom_12 rfl (Nat.le_of_ble_eq_true rfl) hrs0 <| zw_aload_n (i := 0) dN_answerFrom_13 rfl rfl hr0 <| zw_aload_n (i := 2) dN_answerFrom_14 rfl rfl hrs0 <| zw_ifnull 22 dN_answerFrom_15 (by decide) hrs0 kt kf
theorem sN_answerFrom_18 {G : zG} {d : Nat} {Q : Option Value → Heap → Prop} {H : Heap} {st : List Value} {o0 : Option Value} {o1 : Option Value} {o2 : Option Value} {as0 : Nat} {b0 : Value} {b1 : Value} {b2 : Value} {b3 : Value} {b4 : Value} {b5 : Value} {b6 : Value} {b7 : Value} {b8 : Value} {b9 : Value} {b10 : Value} {b11 : Value} {b12 : Value} {b13 : Value} {b14 : Value} {b15 : Value} {b16 : Value} (ho : zObj G H as0 0 [b0, b1, b2, b3, b4, b5, b6, b7, b8, b9, b10, b11, b12, b13, b14, b15, b16]) (hw : zFr G as0) (hn : narrow .boolean (.int (1 : Int32)) = (.int (1 : Int32))) (hfit : fits .boolean (.int (1 : Int32)) = true) (kk : ∀ H1 : Heap, zObj G H1 as0 0 [b0, b1, b2, b3, b4, b5, b6, b7, b8, b9, b10, b11, b12, b13, b14, b15, (.int (1 : Int32))] → zUp as0 H H1 → zW G d M_N_answerFrom 26 [o0, o1, o2] st H1 Q) : zW G d M_N_answerFrom 18 [o0, o1, o2] ((.ref as0) :: st) H Q :=
  zw_iconst (1 : Int32) dN_answerFrom_18 zki_1 <| zw_goto 23 dN_answerFrom_19 (by decide) <| zw_putf (k := 16) dN_answerFrom_23 zp_N_answerFrom_95 ho (Nat.le_of_ble_eq_true rfl) (Nat.le_of_ble_eq_true rfl) hw hn hfit kk
theorem sN_answerFrom_22 {G : zG} {d : Nat} {Q : Option Value → Heap → Prop} {H : Heap} {st : List Value} {o0 : Option Value} {o1 : Option Value} {o2 : Option Value} {as0 : Nat} {b0 : Value} {b1 : Value} {b2 : Value} {b3 : Value} {b4 : Value} {b5 : Value} {b6 : Value} {b7 : Value} {b8 : Value} {b9 : Value} {b10 : Value} {b11 : Value} {b12 : Value} {b13 : Value} {b14 : Value} {b15 : Value} {b16 : Value} (ho : zObj G H as0 0 [b0, b1, b2, b3, b4, b5, b6, b7, b8, b9, b10, b11, b12, b13, b14, b15, b16]) (hw : zFr G as0) (hn : narrow .boolean (.int (0 : Int32)) = (.int (0 : Int32))) (hfit : fits .boolean (.int (0 : Int32)) = true) (kk : ∀ H1 : Heap, zObj G H1 as0 0 [b0, b1, b2, b3, b4, b5, b6, b7, b8, b9, b10, b11, b12, b13, b14, b15, (.int (0 : Int32))] → zUp as0 H H1 → zW G d M_N_answerFrom 26 [o0, o1, o2] st H1 Q) : zW G d M_N_answerFrom 22 [o0, o1, o2] ((.ref as0) :: st) H Q :=
  zw_iconst (0 : Int32) dN_answerFrom_22 zki_0 <| zw_putf (k := 16) dN_answerFrom_23 zp_N_answerFrom_95 ho (Nat.le_of_ble_eq_true rfl) (Nat.le_of_ble_eq_true rfl) hw hn hfit kk
theorem sN_answerFrom_23 {G : zG} {d : Nat} {Q : Option Value → Heap → Prop} {H : Heap} {st : List Value} {o0 : Option Value} {o1 : Option Value} {o2 : Option Value} {xs0 : Int32} {as1 : Nat} {b0 : Value} {b1 : Value} {b2 : Value} {b3 : Value} {b4 : Value} {b5 : Value} {b6 : Value} {b7 : Value} {b8 : Value} {b9 : Value} {b10 : Value} {b11 : Value} {b12 : Value} {b13 : Value} {b14 : Value} {b15 : Value} {b16 : Value} (ho : zObj G H as1 0 [b0, b1, b2, b3, b4, b5, b6, b7, b8, b9, b10, b11, b12, b13, b14, b15, b16]) (hw : zFr G as1) (hn : narrow .boolean (.int xs0) = (.int xs0)) (hfit : fits .boolean (.int xs0) = true) (kk : ∀ H1 : Heap, zObj G H1 as1 0 [b0, b1, b2, b3, b4, b5, b6, b7, b8, b9, b10, b11, b12, b13, b14, b15, (.int xs0)] → zUp as1 H H1 → zW G d M_N_answerFrom 26 [o0, o1, o2] st H1 Q) : zW G d M_N_answerFrom 23 [o0, o1, o2] ((.int xs0) :: (.ref as1) :: st) H Q :=
  zw_putf (k := 16) dN_answerFrom_23 zp_N_answerFrom_95 ho (Nat.le_of_ble_eq_true rfl) (Nat.le_of_ble_eq_true rfl) hw hn hfit kk
theorem sN_answerFrom_26 {G : zG} {d : Nat} {Q : Option Value → Heap → Prop} {H : Heap} {st : List Value} {o0 : Option Value} {o1 : Option Value} {v2 : Value} (hr2 : zRf v2 := by first | exact zRf_ref | exact zRf_null | exact zRf_rf _ | assumption) (kt : (v2 = .null) → zW G d M_N_answerFrom 32 [o0, o1, some v2] st H Q) (kf : (∀ a : Nat, v2 = .ref a → zW G d M_N_answerFrom 30 [o0, o1, some v2] st H Q)) : zW G d M_N_answerFrom 26 [o0, o1, some v2] st H Q :=
  zw_aload_n (i := 2) dN_answerFrom_26 rfl rfl hr2 <| zw_ifnull 32 dN_answerFrom_27 (by decide) hr2 kt kf
theorem sN_answerFrom_30 {G : zG} {d : Nat} {Q : Option Value → Heap → Prop} {H : Heap} {o0 : Option Value} {o1 : Option Value} {v2 : Value} (hr2 : zRf v2 := by first | exact zRf_ref | exact zRf_null | exact zRf_rf _ | assumption) (hq : Q (some v2) H) : zW G d M_N_answerFrom 30 [o0, o1, some v2] [] H Q :=
  zw_aload_n (i := 2) dN_answerFrom_30 rfl rfl hr2 <| zw_aret dN_answerFrom_31 (.object "NetDesk$Answer") rfl (Or.inl ⟨_, rfl⟩) hr2 hq
theorem sN_answerFrom_32 {G : zG} {d : Nat} {Q : Option Value → Heap → Prop} {H : Heap} {st : List Value} {o2 : Option Value} {a0 : Nat} {v1 : Value} {P : Value → Heap → Prop} (hr1 : zRf v1 := by first | exact zRf_ref | exact zRf_null | exact zRf_rf _ | assumption) (hd : 1 ≤ d) (hl : st.length ≤ 4) (ho : zIs G H a0 0) (hc : zC G (d - 1) M_N_request [(.ref a0), v1] H (zPr P)) (kk : ∀ (r : Value) (H1 : Heap), zRf r → P r H1 → zOk G H1 → H.size ≤ H1.size → zT H ≤ zT H1 → zW G d M_N_answerFrom 37 [some (.ref a0), some v1, o2] (r :: st) H1 Q) : zW G d M_N_answerFrom 32 [some (.ref a0), some v1, o2] st H Q :=
  zw_aload_n (i := 0) dN_answerFrom_32 rfl rfl zRf_ref <| zw_aload_n (i := 1) dN_answerFrom_33 rfl rfl hr1 <| zw_callV [v1] _ dN_answerFrom_34 hd zk_N_225 ho rfl rfl hl hc (zPr_k kk)
theorem sN_answerFrom_37 {G : zG} {d : Nat} {Q : Option Value → Heap → Prop} {H : Heap} {o0 : Option Value} {o1 : Option Value} {o2 : Option Value} {vs0 : Value} (hrs0 : zRf vs0 := by first | exact zRf_ref | exact zRf_null | exact zRf_rf _ | assumption) (hq : Q (some vs0) H) : zW G d M_N_answerFrom 37 [o0, o1, o2] (vs0 :: []) H Q :=
  zw_aret dN_answerFrom_37 (.object "NetDesk$Answer") rfl (Or.inl ⟨_, rfl⟩) hrs0 hq
theorem sKp_fresh_0 {G : zG} {d : Nat} {Q : Option Value → Heap → Prop} {H : Heap} {st : List Value} {o2 : Option Value} {o3 : Option Value} {a0 : Nat} {v1 : Value} {P : Int32 → Heap → Prop} (hr1 : zRf v1 := by first | exact zRf_ref | exact zRf_null | exact zRf_rf _ | assumption) (hd : 1 ≤ d) (hl : st.length ≤ 4) (ho : zIs G H a0 7) (hc : zC G (d - 1) M_Kp_placeOf [(.ref a0), v1] H (zPi P)) (kk : ∀ (r : Int32) (H1 : Heap), P r H1 → zOk G H1 → H.size ≤ H1.size → zT H ≤ zT H1 → zW G d M_Kp_fresh 5 [some (.ref a0), some v1, o2, o3] ((.int r) :: st) H1 Q) : zW G d M_Kp_fresh 0 [some (.ref a0), some v1, o2, o3] st H Q :=
  zw_aload_n (i := 0) dKp_fresh_0 rfl rfl zRf_ref <| zw_aload_n (i := 1) dKp_fresh_1 rfl rfl hr1 <| zw_callV [v1] _ dKp_fresh_2 hd zk_Kp_22 ho rfl rfl hl hc (zPi_k kk)
theorem sKp_fresh_5 {G : zG} {d : Nat} {Q : Option Value → Heap → Prop} {H : Heap} {st : List Value} {o0 : Option Value} {o1 : Option Value} {o2 : Option Value} {o3 : Option Value} {xs0 : Int32} (kt : (xs0 = (-1 : Int32)) → zW G d M_Kp_fresh 29 [o0, o1, o2, some (.int xs0)] st H Q) (kf : (¬ xs0 = (-1 : Int32)) → zW G d M_Kp_fresh 11 [o0, o1, o2, some (.int xs0)] st H Q) : zW G d M_Kp_fresh 5 [o0, o1, o2, o3] ((.int xs0) :: st) H Q :=
  zw_istore_n (i := 3) dKp_fresh_5 rfl (Nat.le_of_ble_eq_true rfl) <| zw_iload_n (i := 3) dKp_fresh_6 rfl rfl <| zw_iconst (-1 : Int32) dKp_fresh_7 zki_m1 <| zw_icmp_eq 29 dKp_fresh_8 (by decide) kt kf
theorem sKp_fresh_11 {G : zG} {d : Nat} {Q : Option Value → Heap → Prop} {H : Heap} {st : List Value} {o1 : Option Value} {o2 : Option Value} {a0 : Nat} {af1 : Nat} {x3 : Int32} {P : Value → Heap → Prop} (hf1 : zFd G H a0 7 0 (.ref af1)) (hd : 1 ≤ d) (hl : st.length ≤ 4) (ho : zIs G H af1 5) (hc : zC G (d - 1) M_Al_get [(.ref af1), (.int x3)] H (zPr P)) (kk : ∀ (r : Value) (H1 : Heap), zRf r → P r H1 → zOk G H1 → H.size ≤ H1.size → zT H ≤ zT H1 → zW G d M_Kp_fresh 19 [some (.ref a0), o1, o2, some (.int x3)] (r :: st) H1 Q) : zW G d M_Kp_fresh 11 [some (.ref a0), o1, o2, some (.int x3)] st H Q :=
  zw_aload_n (i := 0) dKp_fresh_11 rfl rfl zRf_ref <| zw_getf dKp_fresh_12 zf_Kp_12 hf1 <| zw_iload_n (i := 3) dKp_fresh_15 rfl rfl <| zw_callV [(.int x3)] _ dKp_fresh_16 hd zk_Kp_26 ho rfl rfl hl hc (zPr_k kk)
theorem sKp_fresh_19 {G : zG} {d : Nat} {Q : Option Value → Heap → Prop} {H : Heap} {st : List Value} {o0 : Option Value} {o1 : Option Value} {o3 : Option Value} {as0 : Nat} {xf2 : Int32} {x2 : Int32} (hq1 : zIs G H as0 12) (hf2 : zFd G H as0 12 1 (.int xf2)) (kt : (x2 < xf2) → zW G d M_Kp_fresh 31 [o0, o1, some (.int x2), o3] st H Q) (kf : (¬ x2 < xf2) → zW G d M_Kp_fresh 29 [o0, o1, some (.int x2), o3] st H Q) : zW G d M_Kp_fresh 19 [o0, o1, some (.int x2), o3] ((.ref as0) :: st) H Q :=
  zw_cast (ci := 12) dKp_fresh_19 rfl (zt4 186 rfl) hq1 <| zw_getf dKp_fresh_22 zf_Kp_32 hf2 <| zw_iload_n (i := 2) dKp_fresh_25 rfl rfl <| zw_icmp_gt 31 dKp_fresh_26 (by decide) kt kf
theorem sKp_fresh_29 {G : zG} {d : Nat} {Q : Option Value → Heap → Prop} {H : Heap} {o0 : Option Value} {o1 : Option Value} {o2 : Option Value} {o3 : Option Value} (hq : Q (some .null) H) : zW G d M_Kp_fresh 29 [o0, o1, o2, o3] [] H Q :=
  zw_null dKp_fresh_29 <| zw_aret dKp_fresh_30 (.object "NetDesk$Answer") rfl (Or.inl ⟨_, rfl⟩) zRf_null hq
theorem sKp_fresh_31 {G : zG} {d : Nat} {Q : Option Value → Heap → Prop} {H : Heap} {st : List Value} {o1 : Option Value} {o2 : Option Value} {a0 : Nat} {af1 : Nat} {x3 : Int32} {P : Value → Heap → Prop} (hf1 : zFd G H a0 7 0 (.ref af1)) (hd : 1 ≤ d) (hl : st.length ≤ 4) (ho : zIs G H af1 5) (hc : zC G (d - 1) M_Al_get [(.ref af1), (.int x3)] H (zPr P)) (kk : ∀ (r : Value) (H1 : Heap), zRf r → P r H1 → zOk G H1 → H.size ≤ H1.size → zT H ≤ zT H1 → zW G d M_Kp_fresh 39 [some (.ref a0), o1, o2, some (.int x3)] (r :: st) H1 Q) : zW G d M_Kp_fresh 31 [some (.ref a0), o1, o2, some (.int x3)] st H Q :=
  zw_aload_n (i := 0) dKp_fresh_31 rfl rfl zRf_ref <| zw_getf dKp_fresh_32 zf_Kp_12 hf1 <| zw_iload_n (i := 3) dKp_fresh_35 rfl rfl <| zw_callV [(.int x3)] _ dKp_fresh_36 hd zk_Kp_26 ho rfl rfl hl hc (zPr_k kk)
theorem sKp_fresh_39 {G : zG} {d : Nat} {Q : Option Value → Heap → Prop} {H : Heap} {o0 : Option Value} {o1 : Option Value} {o2 : Option Value} {o3 : Option Value} {as0 : Nat} {vf2 : Value} (hrf2 : zRf vf2 := by first | exact zRf_ref | exact zRf_null | exact zRf_rf _ | assumption) (hq1 : zIs G H as0 12) (hf2 : zFd G H as0 12 0 vf2) (hq : Q (some vf2) H) : zW G d M_Kp_fresh 39 [o0, o1, o2, o3] ((.ref as0) :: []) H Q :=
  zw_cast (ci := 12) dKp_fresh_39 rfl (zt4 186 rfl) hq1 <| zw_getf dKp_fresh_42 zf_Kp_36 hf2 <| zw_aret dKp_fresh_45 (.object "NetDesk$Answer") rfl (Or.inl ⟨_, rfl⟩) hrf2 hq
theorem sKp_placeOf_0 {G : zG} {d : Nat} {Q : Option Value → Heap → Prop} {H : Heap} {st : List Value} {o0 : Option Value} {o1 : Option Value} {o2 : Option Value} (kk : zW G d M_Kp_placeOf 2 [o0, o1, some (.int (0 : Int32))] st H Q) : zW G d M_Kp_placeOf 0 [o0, o1, o2] st H Q :=
  zw_iconst (0 : Int32) dKp_placeOf_0 zki_0 <| zw_istore_n (i := 2) dKp_placeOf_1 rfl (Nat.le_of_ble_eq_true rfl) <| kk
theorem sKp_placeOf_2 {G : zG} {d : Nat} {Q : Option Value → Heap → Prop} {H : Heap} {st : List Value} {o1 : Option Value} {x2 : Int32} {a0 : Nat} {af1 : Nat} {P : Int32 → Heap → Prop} (hf1 : zFd G H a0 7 0 (.ref af1)) (hd : 1 ≤ d) (hl : ((.int x2) :: st).length ≤ 4) (ho : zIs G H af1 5) (hc : zC G (d - 1) M_Al_size [(.ref af1)] H (zPi P)) (kk : ∀ (r : Int32) (H1 : Heap), P r H1 → zOk G H1 → H.size ≤ H1.size → zT H ≤ zT H1 → zW G d M_Kp_placeOf 10 [some (.ref a0), o1, some (.int x2)] ((.int r) :: (.int x2) :: st) H1 Q) : zW G d M_Kp_placeOf 2 [some (.ref a0), o1, some (.int x2)] st H Q :=
  zw_iload_n (i := 2) dKp_placeOf_2 rfl rfl <| zw_aload_n (i := 0) dKp_placeOf_3 rfl rfl zRf_ref <| zw_getf dKp_placeOf_4 zf_Kp_12 hf1 <| zw_callV [] _ dKp_placeOf_7 hd zk_Kp_18 ho rfl rfl hl hc (zPi_k kk)
theorem sKp_placeOf_10 {G : zG} {d : Nat} {Q : Option Value → Heap → Prop} {H : Heap} {st : List Value} {o0 : Option Value} {o1 : Option Value} {o2 : Option Value} {xs0 : Int32} {xs1 : Int32} (kt : (xs0 ≤ xs1) → zW G d M_Kp_placeOf 45 [o0, o1, o2] st H Q) (kf : (¬ xs0 ≤ xs1) → zW G d M_Kp_placeOf 13 [o0, o1, o2] st H Q) : zW G d M_Kp_placeOf 10 [o0, o1, o2] ((.int xs0) :: (.int xs1) :: st) H Q :=
  zw_icmp_ge 45 dKp_placeOf_10 (by decide) kt kf
theorem sKp_placeOf_13 {G : zG} {d : Nat} {Q : Option Value → Heap → Prop} {H : Heap} {st : List Value} {o1 : Option Value} {a0 : Nat} {af1 : Nat} {x2 : Int32} {P : Value → Heap → Prop} (hf1 : zFd G H a0 7 0 (.ref af1)) (hd : 1 ≤ d) (hl : st.length ≤ 4) (ho : zIs G H af1 5) (hc : zC G (d - 1) M_Al_get [(.ref af1), (.int x2)] H (zPr P)) (kk : ∀ (r : Value) (H1 : Heap), zRf r → P r H1 → zOk G H1 → H.size ≤ H1.size → zT H ≤ zT H1 → zW G d M_Kp_placeOf 21 [some (.ref a0), o1, some (.int x2)] (r :: st) H1 Q) : zW G d M_Kp_placeOf 13 [some (.ref a0), o1, some (.int x2)] st H Q :=
  zw_aload_n (i := 0) dKp_placeOf_13 rfl rfl zRf_ref <| zw_getf dKp_placeOf_14 zf_Kp_12 hf1 <| zw_iload_n (i := 2) dKp_placeOf_17 rfl rfl <| zw_callV [(.int x2)] _ dKp_placeOf_18 hd zk_Kp_26 ho rfl rfl hl hc (zPr_k kk)
theorem sKp_placeOf_21 {G : zG} {d : Nat} {Q : Option Value → Heap → Prop} {H : Heap} {st : List Value} {o0 : Option Value} {o2 : Option Value} {as0 : Nat} {af2 : Nat} {af3 : Nat} {v1 : Value} {P : Int32 → Heap → Prop} (hr1 : zRf v1 := by first | exact zRf_ref | exact zRf_null | exact zRf_rf _ | assumption) (hq1 : zIs G H as0 12) (hf2 : zFd G H as0 12 0 (.ref af2)) (hf3 : zFd G H af2 3 0 (.ref af3)) (hd : 1 ≤ d) (hl : st.length ≤ 4) (ho : zIs G H af3 2) (hc : zC G (d - 1) M_Ad_isSamePlace [(.ref af3), v1] H (zPi P)) (kk : ∀ (r : Int32) (H1 : Heap), P r H1 → zOk G H1 → H.size ≤ H1.size → zT H ≤ zT H1 → zW G d M_Kp_placeOf 34 [o0, some v1, o2] ((.int r) :: st) H1 Q) : zW G d M_Kp_placeOf 21 [o0, some v1, o2] ((.ref as0) :: st) H Q :=
  zw_cast (ci := 12) dKp_placeOf_21 rfl (zt4 186 rfl) hq1 <| zw_getf dKp_placeOf_24 zf_Kp_36 hf2 <| zw_getf dKp_placeOf_27 zf_Kp_40 hf3 <| zw_aload_n (i := 1) dKp_placeOf_30 rfl rfl hr1 <| zw_callV [v1] _ dKp_placeOf_31 hd zk_Kp_53 ho rfl rfl hl hc (zPi_k kk)
theorem sKp_placeOf_34 {G : zG} {d : Nat} {Q : Option Value → Heap → Prop} {H : Heap} {st : List Value} {o0 : Option Value} {o1 : Option Value} {o2 : Option Value} {xs0 : Int32} (kt : (xs0 = 0) → zW G d M_Kp_placeOf 39 [o0, o1, o2] st H Q) (kf : (¬ xs0 = 0) → zW G d M_Kp_placeOf 37 [o0, o1, o2] st H Q) : zW G d M_Kp_placeOf 34 [o0, o1, o2] ((.int xs0) :: st) H Q :=
  zw_if_eq 39 dKp_placeOf_34 (by decide) kt kf
theorem sKp_placeOf_37 {G : zG} {d : Nat} {Q : Option Value → Heap → Prop} {H : Heap} {o0 : Option Value} {o1 : Option Value} {x2 : Int32} (hq : Q (some (.int x2)) H) : zW G d M_Kp_placeOf 37 [o0, o1, some (.int x2)] [] H Q :=
  zw_iload_n (i := 2) dKp_placeOf_37 rfl rfl <| zw_iret dKp_placeOf_38 .int rfl rfl hq
theorem sKp_placeOf_39 {G : zG} {d : Nat} {Q : Option Value → Heap → Prop} {H : Heap} {st : List Value} {o0 : Option Value} {o1 : Option Value} {x2 : Int32} (kk : zW G d M_Kp_placeOf 2 [o0, o1, some (.int (x2 + (1 : Int32)))] st H Q) : zW G d M_Kp_placeOf 39 [o0, o1, some (.int x2)] st H Q :=
  zw_iinc (i := 2) (x2 + (1 : Int32)) dKp_placeOf_39 rfl (by rw [zki_1]) <| zw_goto 2 dKp_placeOf_42 (by decide) <| kk
theorem sKp_placeOf_45 {G : zG} {d : Nat} {Q : Option Value → Heap → Prop} {H : Heap} {o0 : Option Value} {o1 : Option Value} {o2 : Option Value} (hq : Q (some (.int (-1 : Int32))) H) : zW G d M_Kp_placeOf 45 [o0, o1, o2] [] H Q :=
  zw_iconst (-1 : Int32) dKp_placeOf_45 zki_m1 <| zw_iret dKp_placeOf_46 .int rfl rfl hq
theorem sN_request_0 {G : zG} {d : Nat} {Q : Option Value → Heap → Prop} {H : Heap} {st : List Value} {o1 : Option Value} {o2 : Option Value} {o3 : Option Value} {a0 : Nat} {xf1 : Int32} {b0 : Value} {b1 : Value} {b2 : Value} {b3 : Value} {b4 : Value} {b5 : Value} {b6 : Value} {b7 : Value} {b8 : Value} {b9 : Value} {b10 : Value} {b11 : Value} {b12 : Value} {b13 : Value} {b14 : Value} {b15 : Value} {b16 : Value} (hf1 : zFd G H a0 0 10 (.int xf1)) (ho : zObj G H a0 0 [b0, b1, b2, b3, b4, b5, b6, b7, b8, b9, b10, b11, b12, b13, b14, b15, b16]) (hw : zFr G a0) (kk : ∀ H1 : Heap, zObj G H1 a0 0 [b0, b1, b2, b3, b4, b5, b6, b7, b8, b9, (.int (xf1 + (1 : Int32))), b11, b12, b13, b14, b15, b16] → zUp a0 H H1 → zW G d M_N_request 10 [some (.ref a0), o1, o2, o3] st H1 Q) : zW G d M_N_request 0 [some (.ref a0), o1, o2, o3] st H Q :=
  zw_aload_n (i := 0) dN_request_0 rfl rfl zRf_ref <| zw_dup dN_request_1 rfl <| zw_getf dN_request_2 zf_N_76 hf1 <| zw_iconst (1 : Int32) dN_request_5 zki_1 <| zw_iadd dN_request_6 <| zw_putf (k := 10) dN_request_7 zp_N_request_76 ho (Nat.le_of_ble_eq_true rfl) (Nat.le_of_ble_eq_true rfl) hw rfl rfl kk
theorem sN_request_10 {G : zG} {d : Nat} {Q : Option Value → Heap → Prop} {H : Heap} {st : List Value} {o2 : Option Value} {o3 : Option Value} {a0 : Nat} {v1 : Value} {b0 : Value} {b1 : Value} {b2 : Value} {b3 : Value} {b4 : Value} {b5 : Value} {b6 : Value} {b7 : Value} {b8 : Value} {b9 : Value} {b10 : Value} {b11 : Value} {b12 : Value} {b13 : Value} {b14 : Value} {b15 : Value} {b16 : Value} (hr1 : zRf v1 := by first | exact zRf_ref | exact zRf_null | exact zRf_rf _ | assumption) (ho : zObj G H a0 0 [b0, b1, b2, b3, b4, b5, b6, b7, b8, b9, b10, b11, b12, b13, b14, b15, b16]) (hw : zFr G a0) (kk : ∀ H1 : Heap, zObj G H1 a0 0 [b0, b1, b2, b3, b4, b5, b6, b7, b8, b9, b10, v1, b12, b13, b14, b15, b16] → zUp a0 H H1 → zW G d M_N_request 15 [some (.ref a0), some v1, o2, o3] st H1 Q) : zW G d M_N_request 10 [some (.ref a0), some v1, o2, o3] st H Q :=
  zw_aload_n (i := 0) dN_request_10 rfl rfl zRf_ref <| zw_aload_n (i := 1) dN_request_11 rfl rfl hr1 <| zw_putf (k := 11) dN_request_12 zp_N_request_79 ho (Nat.le_of_ble_eq_true rfl) (Nat.le_of_ble_eq_true rfl) hw (zNarO hr1) (zFitO hr1) kk
theorem sN_request_15 {G : zG} {d : Nat} {Q : Option Value → Heap → Prop} {H : Heap} {st : List Value} {o1 : Option Value} {o2 : Option Value} {o3 : Option Value} {a0 : Nat} {af1 : Nat} {P : Heap → Prop} (hf1 : zFd G H a0 0 7 (.ref af1)) (hd : 1 ≤ d) (hl : st.length ≤ 4) (ho : zIs G H af1 1) (hc : zC G (d - 1) M_Sb_setLength [(.ref af1), (.int (0 : Int32))] H (zPv P)) (kk : ∀ H1 : Heap, P H1 → zOk G H1 → H.size ≤ H1.size → zT H ≤ zT H1 → zW G d M_N_request 23 [some (.ref a0), o1, o2, o3] st H1 Q) : zW G d M_N_request 15 [some (.ref a0), o1, o2, o3] st H Q :=
  zw_aload_n (i := 0) dN_request_15 rfl rfl zRf_ref <| zw_getf dN_request_16 zf_N_66 hf1 <| zw_iconst (0 : Int32) dN_request_19 zki_0 <| zw_callV [(.int (0 : Int32))] _ dN_request_20 hd zk_N_107 ho rfl rfl hl hc (zPv_k kk)
theorem sN_request_23 {G : zG} {d : Nat} {Q : Option Value → Heap → Prop} {H : Heap} {st : List Value} {o2 : Option Value} {o3 : Option Value} {a0 : Nat} {af1 : Nat} {a1 : Nat} {vf2 : Value} {vf3 : Value} {P : Heap → Prop} (hrf2 : zRf vf2 := by first | exact zRf_ref | exact zRf_null | exact zRf_rf _ | assumption) (hrf3 : zRf vf3 := by first | exact zRf_ref | exact zRf_null | exact zRf_rf _ | assumption) (hf1 : zFd G H a0 0 5 (.ref af1)) (hf2 : zFd G H a1 2 0 vf2) (hf3 : zFd G H a0 0 7 vf3) (hd : 1 ≤ d) (hl : st.length ≤ 4) (ho : zIs G H af1 6) (hc : zC G (d - 1) M_Jr_tell [(.ref af1), vf2, vf3] H (zPv P)) (kk : ∀ H1 : Heap, P H1 → zOk G H1 → H.size ≤ H1.size → zT H ≤ zT H1 → zW G d M_N_request 38 [some (.ref a0), some (.ref a1), o2, o3] st H1 Q) : zW G d M_N_request 23 [some (.ref a0), some (.ref a1), o2, o3] st H Q :=
  zw_aload_n (i := 0) dN_request_23 rfl rfl zRf_ref <| zw_getf dN_request_24 zf_N_55 hf1 <| zw_aload_n (i := 1) dN_request_27 rfl rfl zRf_ref <| zw_getf dN_request_28 zf_N_228 hf2 <| zw_aload_n (i := 0) dN_request_31 rfl rfl zRf_ref <| zw_getf dN_request_32 zf_N_66 hf3 <| zw_callV [vf2, vf3] _ dN_request_35 hd zk_N_231 ho rfl rfl hl hc (zPv_k kk)
theorem sN_request_38 {G : zG} {d : Nat} {Q : Option Value → Heap → Prop} {H : Heap} {st : List Value} {o2 : Option Value} {o3 : Option Value} {a0 : Nat} {v1 : Value} {P : Int32 → Heap → Prop} (hr1 : zRf v1 := by first | exact zRf_ref | exact zRf_null | exact zRf_rf _ | assumption) (hd : 1 ≤ d) (hl : st.length ≤ 4) (ho : zIs G H a0 0) (hc : zC G (d - 1) M_N_placeOfAnswer [(.ref a0), v1] H (zPi P)) (kk : ∀ (r : Int32) (H1 : Heap), P r H1 → zOk G H1 → H.size ≤ H1.size → zT H ≤ zT H1 → zW G d M_N_request 43 [some (.ref a0), some v1, o2, o3] ((.int r) :: st) H1 Q) : zW G d M_N_request 38 [some (.ref a0), some v1, o2, o3] st H Q :=
  zw_aload_n (i := 0) dN_request_38 rfl rfl zRf_ref <| zw_aload_n (i := 1) dN_request_39 rfl rfl hr1 <| zw_callV [v1] _ dN_request_40 hd zk_N_157 ho rfl rfl hl hc (zPi_k kk)
theorem sN_request_43 {G : zG} {d : Nat} {Q : Option Value → Heap → Prop} {H : Heap} {st : List Value} {o0 : Option Value} {o1 : Option Value} {o2 : Option Value} {o3 : Option Value} {xs0 : Int32} (kt : (¬ xs0 = (-1 : Int32)) → zW G d M_N_request 54 [o0, o1, some (.int xs0), o3] st H Q) (kf : (xs0 = (-1 : Int32)) → zW G d M_N_request 49 [o0, o1, some (.int xs0), o3] st H Q) : zW G d M_N_request 43 [o0, o1, o2, o3] ((.int xs0) :: st) H Q :=
  zw_istore_n (i := 2) dN_request_43 rfl (Nat.le_of_ble_eq_true rfl) <| zw_iload_n (i := 2) dN_request_44 rfl rfl <| zw_iconst (-1 : Int32) dN_request_45 zki_m1 <| zw_icmp_ne 54 dN_request_46 (by decide) kt kf
theorem sN_request_49 {G : zG} {d : Nat} {Q : Option Value → Heap → Prop} {H : Heap} {o1 : Option Value} {o2 : Option Value} {o3 : Option Value} {a0 : Nat} {vf1 : Value} (hrf1 : zRf vf1 := by first | exact zRf_ref | exact zRf_null | exact zRf_rf _ | assumption) (hf1 : zFd G H a0 0 3 vf1) (hq : Q (some vf1) H) : zW G d M_N_request 49 [some (.ref a0), o1, o2, o3] [] H Q :=
  zw_aload_n (i := 0) dN_request_49 rfl rfl zRf_ref <| zw_getf dN_request_50 zf_N_41 hf1 <| zw_aret dN_request_53 (.object "NetDesk$Answer") rfl (Or.inl ⟨_, rfl⟩) hrf1 hq
theorem sN_request_54 {G : zG} {d : Nat} {Q : Option Value → Heap → Prop} {H : Heap} {st : List Value} {o1 : Option Value} {o3 : Option Value} {a0 : Nat} {af1 : Nat} {x2 : Int32} {P : Value → Heap → Prop} (hf1 : zFd G H a0 0 4 (.ref af1)) (hd : 1 ≤ d) (hl : st.length ≤ 4) (ho : zIs G H af1 5) (hc : zC G (d - 1) M_Al_get [(.ref af1), (.int x2)] H (zPr P)) (kk : ∀ (r : Value) (H1 : Heap), zRf r → P r H1 → zOk G H1 → H.size ≤ H1.size → zT H ≤ zT H1 → zW G d M_N_request 62 [some (.ref a0), o1, some (.int x2), o3] (r :: st) H1 Q) : zW G d M_N_request 54 [some (.ref a0), o1, some (.int x2), o3] st H Q :=
  zw_aload_n (i := 0) dN_request_54 rfl rfl zRf_ref <| zw_getf dN_request_55 zf_N_48 hf1 <| zw_iload_n (i := 2) dN_request_58 rfl rfl <| zw_callV [(.int x2)] _ dN_request_59 hd zk_N_206 ho rfl rfl hl hc (zPr_k kk)
theorem sN_request_62 {G : zG} {d : Nat} {Q : Option Value → Heap → Prop} {H : Heap} {st : List Value} {o0 : Option Value} {o1 : Option Value} {o2 : Option Value} {o3 : Option Value} {as0 : Nat} {af2 : Nat} {P : Int32 → Heap → Prop} (hq1 : zIs G H as0 3) (hf2 : zFd G H as0 3 2 (.ref af2)) (hd : 1 ≤ d) (hl : st.length ≤ 4) (ho : zIs G H af2 8) (hc : zC G (d - 1) M_St_isEmpty [(.ref af2)] H (zPi P)) (kk : ∀ (r : Int32) (H1 : Heap), P r H1 → zOk G H1 → H.size ≤ H1.size → zT H ≤ zT H1 → zW G d M_N_request 73 [o0, o1, o2, some (.ref as0)] ((.int r) :: st) H1 Q) : zW G d M_N_request 62 [o0, o1, o2, o3] ((.ref as0) :: st) H Q :=
  zw_cast (ci := 3) dN_request_62 rfl (zt1 95 rfl) hq1 <| zw_astore_n (i := 3) dN_request_65 rfl (Nat.le_of_ble_eq_true rfl) zRf_ref <| zw_aload_n (i := 3) dN_request_66 rfl rfl zRf_ref <| zw_getf dN_request_67 zf_N_235 hf2 <| zw_callV [] _ dN_request_70 hd zk_N_238 ho rfl rfl hl hc (zPi_k kk)
theorem sN_request_73 {G : zG} {d : Nat} {Q : Option Value → Heap → Prop} {H : Heap} {st : List Value} {o0 : Option Value} {o1 : Option Value} {o2 : Option Value} {o3 : Option Value} {xs0 : Int32} (kt : (¬ xs0 = 0) → zW G d M_N_request 102 [o0, o1, o2, o3] st H Q) (kf : (xs0 = 0) → zW G d M_N_request 76 [o0, o1, o2, o3] st H Q) : zW G d M_N_request 73 [o0, o1, o2, o3] ((.int xs0) :: st) H Q :=
  zw_if_ne 102 dN_request_73 (by decide) kt kf
theorem sN_request_76 {G : zG} {d : Nat} {Q : Option Value → Heap → Prop} {H : Heap} {st : List Value} {o1 : Option Value} {o2 : Option Value} {o3 : Option Value} {a0 : Nat} {vf1 : Value} (hrf1 : zRf vf1 := by first | exact zRf_ref | exact zRf_null | exact zRf_rf _ | assumption) (hf1 : zFd G H a0 0 5 vf1) (hc1 : H.size + 1 ≤ zCp G) (hs1 : zT H + 3 ≤ zSp G) (kk : ∀ H1 : Heap, zObj G H1 H.size 11 [.null, .null, .null] → zNw 3 H H1 → zW G d M_N_request 83 [some (.ref a0), o1, o2, o3] ((.ref H.size) :: vf1 :: st) H1 Q) : zW G d M_N_request 76 [some (.ref a0), o1, o2, o3] st H Q :=
  zw_aload_n (i := 0) dN_request_76 rfl rfl zRf_ref <| zw_getf dN_request_77 zf_N_55 hf1 <| zw_new dN_request_80 zn_N_request_242 hc1 hs1 kk
theorem sN_request_83 {G : zG} {d : Nat} {Q : Option Value → Heap → Prop} {H : Heap} {st : List Value} {o0 : Option Value} {o2 : Option Value} {as0 : Nat} {a1 : Nat} {vf1 : Value} {a3 : Nat} {vf2 : Value} {vf3 : Value} {P : Heap → Prop} (hrf1 : zRf vf1 := by first | exact zRf_ref | exact zRf_null | exact zRf_rf _ | assumption) (hrf2 : zRf vf2 := by first | exact zRf_ref | exact zRf_null | exact zRf_rf _ | assumption) (hrf3 : zRf vf3 := by first | exact zRf_ref | exact zRf_null | exact zRf_rf _ | assumption) (hf1 : zFd G H a1 2 0 vf1) (hf2 : zFd G H a3 3 2 vf2) (hf3 : zFd G H a3 3 3 vf3) (hd : 1 ≤ d) (hl : ((.ref as0) :: st).length ≤ 4) (hc : zC G (d - 1) M_Ck_init [(.ref as0), vf1, vf2, vf3] H (zPv P)) (kk : ∀ H1 : Heap, P H1 → zOk G H1 → H.size ≤ H1.size → zT H ≤ zT H1 → zW G d M_N_request 99 [o0, some (.ref a1), o2, some (.ref a3)] ((.ref as0) :: st) H1 Q) : zW G d M_N_request 83 [o0, some (.ref a1), o2, some (.ref a3)] ((.ref as0) :: st) H Q :=
  zw_dup dN_request_83 rfl <| zw_aload_n (i := 1) dN_request_84 rfl rfl zRf_ref <| zw_getf dN_request_85 zf_N_228 hf1 <| zw_aload_n (i := 3) dN_request_88 rfl rfl zRf_ref <| zw_getf dN_request_89 zf_N_235 hf2 <| zw_aload_n (i := 3) dN_request_92 rfl rfl zRf_ref <| zw_getf dN_request_93 zf_N_244 hf3 <| zw_callI [vf1, vf2, vf3] _ dN_request_96 hd zk_N_247 rfl rfl hl hc (zPv_k kk)
theorem sN_request_99 {G : zG} {d : Nat} {Q : Option Value → Heap → Prop} {H : Heap} {st : List Value} {o0 : Option Value} {o1 : Option Value} {o2 : Option Value} {o3 : Option Value} {vs0 : Value} {as1 : Nat} {P : Heap → Prop} (hrs0 : zRf vs0 := by first | exact zRf_ref | exact zRf_null | exact zRf_rf _ | assumption) (hd : 1 ≤ d) (hl : st.length ≤ 4) (ho : zIs G H as1 6) (hc : zC G (d - 1) M_Jr_put [(.ref as1), vs0] H (zPv P)) (kk : ∀ H1 : Heap, P H1 → zOk G H1 → H.size ≤ H1.size → zT H ≤ zT H1 → zW G d M_N_request 102 [o0, o1, o2, o3] st H1 Q) : zW G d M_N_request 99 [o0, o1, o2, o3] (vs0 :: (.ref as1) :: st) H Q :=
  zw_callV [vs0] _ dN_request_99 hd zk_N_250 ho rfl rfl hl hc (zPv_k kk)
theorem sN_request_102 {G : zG} {d : Nat} {Q : Option Value → Heap → Prop} {H : Heap} {st : List Value} {o0 : Option Value} {o1 : Option Value} {o2 : Option Value} {a3 : Nat} {xf1 : Int32} (hf1 : zFd G H a3 3 1 (.int xf1)) (kt : (xf1 ≤ 0) → zW G d M_N_request 133 [o0, o1, o2, some (.ref a3)] st H Q) (kf : (¬ xf1 ≤ 0) → zW G d M_N_request 109 [o0, o1, o2, some (.ref a3)] st H Q) : zW G d M_N_request 102 [o0, o1, o2, some (.ref a3)] st H Q :=
  zw_aload_n (i := 3) dN_request_102 rfl rfl zRf_ref <| zw_getf dN_request_103 zf_N_254 hf1 <| zw_if_le 133 dN_request_106 (by decide) kt kf
theorem sN_request_109 {G : zG} {d : Nat} {Q : Option Value → Heap → Prop} {H : Heap} {st : List Value} {o1 : Option Value} {o2 : Option Value} {o3 : Option Value} {a0 : Nat} {vf1 : Value} (hrf1 : zRf vf1 := by first | exact zRf_ref | exact zRf_null | exact zRf_rf _ | assumption) (hf1 : zFd G H a0 0 6 vf1) (hc1 : H.size + 1 ≤ zCp G) (hs1 : zT H + 2 ≤ zSp G) (kk : ∀ H1 : Heap, zObj G H1 H.size 12 [.null, .int 0] → zNw 2 H H1 → zW G d M_N_request 116 [some (.ref a0), o1, o2, o3] ((.ref H.size) :: vf1 :: st) H1 Q) : zW G d M_N_request 109 [some (.ref a0), o1, o2, o3] st H Q :=
  zw_aload_n (i := 0) dN_request_109 rfl rfl zRf_ref <| zw_getf dN_request_110 zf_N_62 hf1 <| zw_new dN_request_113 zn_N_request_257 hc1 hs1 kk
theorem sN_request_116 {G : zG} {d : Nat} {Q : Option Value → Heap → Prop} {H : Heap} {st : List Value} {o1 : Option Value} {o2 : Option Value} {as0 : Nat} {a3 : Nat} {a0 : Nat} {xf1 : Int32} {xf2 : Int32} {P : Heap → Prop} (hf1 : zFd G H a0 0 9 (.int xf1)) (hf2 : zFd G H a3 3 1 (.int xf2)) (hd : 1 ≤ d) (hl : ((.ref as0) :: st).length ≤ 4) (hc : zC G (d - 1) M_Kt_init [(.ref as0), (.ref a3), (.int (xf1 + xf2))] H (zPv P)) (kk : ∀ H1 : Heap, P H1 → zOk G H1 → H.size ≤ H1.size → zT H ≤ zT H1 → zW G d M_N_request 130 [some (.ref a0), o1, o2, some (.ref a3)] ((.ref as0) :: st) H1 Q) : zW G d M_N_request 116 [some (.ref a0), o1, o2, some (.ref a3)] ((.ref as0) :: st) H Q :=
  zw_dup dN_request_116 rfl <| zw_aload_n (i := 3) dN_request_117 rfl rfl zRf_ref <| zw_aload_n (i := 0) dN_request_118 rfl rfl zRf_ref <| zw_getf dN_request_119 zf_N_72 hf1 <| zw_aload_n (i := 3) dN_request_122 rfl rfl zRf_ref <| zw_getf dN_request_123 zf_N_254 hf2 <| zw_iadd dN_request_126 <| zw_callI [(.ref a3), (.int (xf1 + xf2))] _ dN_request_127 hd zk_N_259 rfl rfl hl hc (zPv_k kk)
theorem sN_request_130 {G : zG} {d : Nat} {Q : Option Value → Heap → Prop} {H : Heap} {st : List Value} {o0 : Option Value} {o1 : Option Value} {o2 : Option Value} {o3 : Option Value} {vs0 : Value} {as1 : Nat} {P : Heap → Prop} (hrs0 : zRf vs0 := by first | exact zRf_ref | exact zRf_null | exact zRf_rf _ | assumption) (hd : 1 ≤ d) (hl : st.length ≤ 4) (ho : zIs G H as1 7) (hc : zC G (d - 1) M_Kp_put [(.ref as1), vs0] H (zPv P)) (kk : ∀ H1 : Heap, P H1 → zOk G H1 → H.size ≤ H1.size → zT H ≤ zT H1 → zW G d M_N_request 133 [o0, o1, o2, o3] st H1 Q) : zW G d M_N_request 130 [o0, o1, o2, o3] (vs0 :: (.ref as1) :: st) H Q :=
  zw_callV [vs0] _ dN_request_130 hd zk_N_262 ho rfl rfl hl hc (zPv_k kk)
theorem sN_request_133 {G : zG} {d : Nat} {Q : Option Value → Heap → Prop} {H : Heap} {o0 : Option Value} {o1 : Option Value} {o2 : Option Value} {v3 : Value} (hr3 : zRf v3 := by first | exact zRf_ref | exact zRf_null | exact zRf_rf _ | assumption) (hq : Q (some v3) H) : zW G d M_N_request 133 [o0, o1, o2, some v3] [] H Q :=
  zw_aload_n (i := 3) dN_request_133 rfl rfl hr3 <| zw_aret dN_request_134 (.object "NetDesk$Answer") rfl (Or.inl ⟨_, rfl⟩) hr3 hq
theorem sJr_tell_0 {G : zG} {d : Nat} {Q : Option Value → Heap → Prop} {H : Heap} {st : List Value} {o0 : Option Value} {o1 : Option Value} {o2 : Option Value} {o3 : Option Value} {o4 : Option Value} (kk : zW G d M_Jr_tell 2 [o0, o1, o2, some (.int (0 : Int32)), o4] st H Q) : zW G d M_Jr_tell 0 [o0, o1, o2, o3, o4] st H Q :=
  zw_iconst (0 : Int32) dJr_tell_0 zki_0 <| zw_istore_n (i := 3) dJr_tell_1 rfl (Nat.le_of_ble_eq_true rfl) <| kk
theorem sJr_tell_2 {G : zG} {d : Nat} {Q : Option Value → Heap → Prop} {H : Heap} {st : List Value} {o1 : Option Value} {o2 : Option Value} {o4 : Option Value} {x3 : Int32} {a0 : Nat} {af1 : Nat} {P : Int32 → Heap → Prop} (hf1 : zFd G H a0 6 0 (.ref af1)) (hd : 1 ≤ d) (hl : ((.int x3) :: st).length ≤ 4) (ho : zIs G H af1 5) (hc : zC G (d - 1) M_Al_size [(.ref af1)] H (zPi P)) (kk : ∀ (r : Int32) (H1 : Heap), P r H1 → zOk G H1 → H.size ≤ H1.size → zT H ≤ zT H1 → zW G d M_Jr_tell 10 [some (.ref a0), o1, o2, some (.int x3), o4] ((.int r) :: (.int x3) :: st) H1 Q) : zW G d M_Jr_tell 2 [some (.ref a0), o1, o2, some (.int x3), o4] st H Q :=
  zw_iload_n (i := 3) dJr_tell_2 rfl rfl <| zw_aload_n (i := 0) dJr_tell_3 rfl rfl zRf_ref <| zw_getf dJr_tell_4 zf_Jr_12 hf1 <| zw_callV [] _ dJr_tell_7 hd zk_Jr_18 ho rfl rfl hl hc (zPi_k kk)
theorem sJr_tell_10 {G : zG} {d : Nat} {Q : Option Value → Heap → Prop} {H : Heap} {st : List Value} {o0 : Option Value} {o1 : Option Value} {o2 : Option Value} {o3 : Option Value} {o4 : Option Value} {xs0 : Int32} {xs1 : Int32} (kt : (xs0 ≤ xs1) → zW G d M_Jr_tell 85 [o0, o1, o2, o3, o4] st H Q) (kf : (¬ xs0 ≤ xs1) → zW G d M_Jr_tell 13 [o0, o1, o2, o3, o4] st H Q) : zW G d M_Jr_tell 10 [o0, o1, o2, o3, o4] ((.int xs0) :: (.int xs1) :: st) H Q :=
  zw_icmp_ge 85 dJr_tell_10 (by decide) kt kf
theorem sJr_tell_13 {G : zG} {d : Nat} {Q : Option Value → Heap → Prop} {H : Heap} {st : List Value} {o1 : Option Value} {o2 : Option Value} {o4 : Option Value} {a0 : Nat} {af1 : Nat} {x3 : Int32} {P : Value → Heap → Prop} (hf1 : zFd G H a0 6 0 (.ref af1)) (hd : 1 ≤ d) (hl : st.length ≤ 4) (ho : zIs G H af1 5) (hc : zC G (d - 1) M_Al_get [(.ref af1), (.int x3)] H (zPr P)) (kk : ∀ (r : Value) (H1 : Heap), zRf r → P r H1 → zOk G H1 → H.size ≤ H1.size → zT H ≤ zT H1 → zW G d M_Jr_tell 21 [some (.ref a0), o1, o2, some (.int x3), o4] (r :: st) H1 Q) : zW G d M_Jr_tell 13 [some (.ref a0), o1, o2, some (.int x3), o4] st H Q :=
  zw_aload_n (i := 0) dJr_tell_13 rfl rfl zRf_ref <| zw_getf dJr_tell_14 zf_Jr_12 hf1 <| zw_iload_n (i := 3) dJr_tell_17 rfl rfl <| zw_callV [(.int x3)] _ dJr_tell_18 hd zk_Jr_22 ho rfl rfl hl hc (zPr_k kk)
theorem sJr_tell_21 {G : zG} {d : Nat} {Q : Option Value → Heap → Prop} {H : Heap} {st : List Value} {o0 : Option Value} {o2 : Option Value} {o3 : Option Value} {o4 : Option Value} {as0 : Nat} {af2 : Nat} {v1 : Value} {P : Int32 → Heap → Prop} (hr1 : zRf v1 := by first | exact zRf_ref | exact zRf_null | exact zRf_rf _ | assumption) (hq1 : zIs G H as0 11) (hf2 : zFd G H as0 11 0 (.ref af2)) (hd : 1 ≤ d) (hl : st.length ≤ 4) (ho : zIs G H af2 8) (hc : zC G (d - 1) M_St_equals [(.ref af2), v1] H (zPi P)) (kk : ∀ (r : Int32) (H1 : Heap), P r H1 → zOk G H1 → H.size ≤ H1.size → zT H ≤ zT H1 → zW G d M_Jr_tell 35 [o0, some v1, o2, o3, some (.ref as0)] ((.int r) :: st) H1 Q) : zW G d M_Jr_tell 21 [o0, some v1, o2, o3, o4] ((.ref as0) :: st) H Q :=
  zw_cast (ci := 11) dJr_tell_21 rfl (zt4 198 rfl) hq1 <| zw_astore (i := 4) dJr_tell_24 (Nat.le_of_ble_eq_true rfl) zRf_ref <| zw_aload (i := 4) dJr_tell_26 rfl zRf_ref <| zw_getf dJr_tell_28 zf_Jr_28 hf2 <| zw_aload_n (i := 1) dJr_tell_31 rfl rfl hr1 <| zw_callV [v1] _ dJr_tell_32 hd zk_Jr_32 ho rfl rfl hl hc (zPi_k kk)
theorem sJr_tell_35 {G : zG} {d : Nat} {Q : Option Value → Heap → Prop} {H : Heap} {st : List Value} {o0 : Option Value} {o1 : Option Value} {o2 : Option Value} {o3 : Option Value} {o4 : Option Value} {xs0 : Int32} (kt : (xs0 = 0) → zW G d M_Jr_tell 79 [o0, o1, o2, o3, o4] st H Q) (kf : (¬ xs0 = 0) → zW G d M_Jr_tell 38 [o0, o1, o2, o3, o4] st H Q) : zW G d M_Jr_tell 35 [o0, o1, o2, o3, o4] ((.int xs0) :: st) H Q :=
  zw_if_eq 79 dJr_tell_35 (by decide) kt kf
theorem sJr_tell_38 {G : zG} {d : Nat} {Q : Option Value → Heap → Prop} {H : Heap} {st : List Value} {o0 : Option Value} {o1 : Option Value} {o3 : Option Value} {o4 : Option Value} {a2 : Nat} {P : Int32 → Heap → Prop} (hd : 1 ≤ d) (hl : st.length ≤ 4) (ho : zIs G H a2 1) (hc : zC G (d - 1) M_Sb_length [(.ref a2)] H (zPi P)) (kk : ∀ (r : Int32) (H1 : Heap), P r H1 → zOk G H1 → H.size ≤ H1.size → zT H ≤ zT H1 → zW G d M_Jr_tell 42 [o0, o1, some (.ref a2), o3, o4] ((.int r) :: st) H1 Q) : zW G d M_Jr_tell 38 [o0, o1, some (.ref a2), o3, o4] st H Q :=
  zw_aload_n (i := 2) dJr_tell_38 rfl rfl zRf_ref <| zw_callV [] _ dJr_tell_39 hd zk_Jr_48 ho rfl rfl hl hc (zPi_k kk)
theorem sJr_tell_42 {G : zG} {d : Nat} {Q : Option Value → Heap → Prop} {H : Heap} {st : List Value} {o0 : Option Value} {o1 : Option Value} {o2 : Option Value} {o3 : Option Value} {o4 : Option Value} {xs0 : Int32} (kt : (xs0 ≤ 0) → zW G d M_Jr_tell 52 [o0, o1, o2, o3, o4] st H Q) (kf : (¬ xs0 ≤ 0) → zW G d M_Jr_tell 45 [o0, o1, o2, o3, o4] st H Q) : zW G d M_Jr_tell 42 [o0, o1, o2, o3, o4] ((.int xs0) :: st) H Q :=
  zw_if_le 52 dJr_tell_42 (by decide) kt kf
theorem sJr_tell_45 {G : zG} {d : Nat} {Q : Option Value → Heap → Prop} {H : Heap} {st : List Value} {o0 : Option Value} {o1 : Option Value} {o3 : Option Value} {o4 : Option Value} {a2 : Nat} {P : Value → Heap → Prop} (hd : 1 ≤ d) (hl : st.length ≤ 4) (ho : zIs G H a2 1) (hc : zC G (d - 1) M_Sb_append_0 [(.ref a2), (.int (59 : Int32))] H (zPr P)) (kk : ∀ (r : Value) (H1 : Heap), zRf r → P r H1 → zOk G H1 → H.size ≤ H1.size → zT H ≤ zT H1 → zW G d M_Jr_tell 51 [o0, o1, some (.ref a2), o3, o4] (r :: st) H1 Q) : zW G d M_Jr_tell 45 [o0, o1, some (.ref a2), o3, o4] st H Q :=
  zw_aload_n (i := 2) dJr_tell_45 rfl rfl zRf_ref <| zw_bipush (59 : Int32) dJr_tell_46 zkb_59 <| zw_callV [(.int (59 : Int32))] _ dJr_tell_48 hd zk_Jr_53 ho rfl rfl hl hc (zPr_k kk)
theorem sJr_tell_51 {G : zG} {d : Nat} {Q : Option Value → Heap → Prop} {H : Heap} {st : List Value} {o0 : Option Value} {o1 : Option Value} {o3 : Option Value} {ws0 : Value} {a2 : Nat} {a4 : Nat} {vf1 : Value} {P : Value → Heap → Prop} (hcs0 : ws0.category = 1 := by first | rfl | exact zRf.cat (by assumption)) (hrf1 : zRf vf1 := by first | exact zRf_ref | exact zRf_null | exact zRf_rf _ | assumption) (hf1 : zFd G H a4 11 1 vf1) (hd : 1 ≤ d) (hl : st.length ≤ 4) (ho : zIs G H a2 1) (hc : zC G (d - 1) M_Sb_append_1 [(.ref a2), vf1] H (zPr P)) (kk : ∀ (r : Value) (H1 : Heap), zRf r → P r H1 → zOk G H1 → H.size ≤ H1.size → zT H ≤ zT H1 → zW G d M_Jr_tell 61 [o0, o1, some (.ref a2), o3, some (.ref a4)] (r :: st) H1 Q) : zW G d M_Jr_tell 51 [o0, o1, some (.ref a2), o3, some (.ref a4)] (ws0 :: st) H Q :=
  zw_pop dJr_tell_51 hcs0 <| zw_aload_n (i := 2) dJr_tell_52 rfl rfl zRf_ref <| zw_aload (i := 4) dJr_tell_53 rfl zRf_ref <| zw_getf dJr_tell_55 zf_Jr_38 hf1 <| zw_callV [vf1] _ dJr_tell_58 hd zk_Jr_57 ho rfl rfl hl hc (zPr_k kk)
theorem sJr_tell_52 {G : zG} {d : Nat} {Q : Option Value → Heap → Prop} {H : Heap} {st : List Value} {o0 : Option Value} {o1 : Option Value} {o3 : Option Value} {a2 : Nat} {a4 : Nat} {vf1 : Value} {P : Value → Heap → Prop} (hrf1 : zRf vf1 := by first | exact zRf_ref | exact zRf_null | exact zRf_rf _ | assumption) (hf1 : zFd G H a4 11 1 vf1) (hd : 1 ≤ d) (hl : st.length ≤ 4) (ho : zIs G H a2 1) (hc : zC G (d - 1) M_Sb_append_1 [(.ref a2), vf1] H (zPr P)) (kk : ∀ (r : Value) (H1 : Heap), zRf r → P r H1 → zOk G H1 → H.size ≤ H1.size → zT H ≤ zT H1 → zW G d M_Jr_tell 61 [o0, o1, some (.ref a2), o3, some (.ref a4)] (r :: st) H1 Q) : zW G d M_Jr_tell 52 [o0, o1, some (.ref a2), o3, some (.ref a4)] st H Q :=
  zw_aload_n (i := 2) dJr_tell_52 rfl rfl zRf_ref <| zw_aload (i := 4) dJr_tell_53 rfl zRf_ref <| zw_getf dJr_tell_55 zf_Jr_38 hf1 <| zw_callV [vf1] _ dJr_tell_58 hd zk_Jr_57 ho rfl rfl hl hc (zPr_k kk)
theorem sJr_tell_61 {G : zG} {d : Nat} {Q : Option Value → Heap → Prop} {H : Heap} {st : List Value} {o0 : Option Value} {o1 : Option Value} {o3 : Option Value} {o4 : Option Value} {ws0 : Value} {a2 : Nat} {P : Value → Heap → Prop} (hcs0 : ws0.category = 1 := by first | rfl | exact zRf.cat (by assumption)) (hd : 1 ≤ d) (hl : st.length ≤ 4) (ho : zIs G H a2 1) (hc : zC G (d - 1) M_Sb_append_0 [(.ref a2), (.int (61 : Int32))] H (zPr P)) (kk : ∀ (r : Value) (H1 : Heap), zRf r → P r H1 → zOk G H1 → H.size ≤ H1.size → zT H ≤ zT H1 → zW G d M_Jr_tell 68 [o0, o1, some (.ref a2), o3, o4] (r :: st) H1 Q) : zW G d M_Jr_tell 61 [o0, o1, some (.ref a2), o3, o4] (ws0 :: st) H Q :=
  zw_pop dJr_tell_61 hcs0 <| zw_aload_n (i := 2) dJr_tell_62 rfl rfl zRf_ref <| zw_bipush (61 : Int32) dJr_tell_63 zkb_61 <| zw_callV [(.int (61 : Int32))] _ dJr_tell_65 hd zk_Jr_53 ho rfl rfl hl hc (zPr_k kk)
theorem sJr_tell_68 {G : zG} {d : Nat} {Q : Option Value → Heap → Prop} {H : Heap} {st : List Value} {o0 : Option Value} {o1 : Option Value} {o3 : Option Value} {ws0 : Value} {a2 : Nat} {a4 : Nat} {vf1 : Value} {P : Value → Heap → Prop} (hcs0 : ws0.category = 1 := by first | rfl | exact zRf.cat (by assumption)) (hrf1 : zRf vf1 := by first | exact zRf_ref | exact zRf_null | exact zRf_rf _ | assumption) (hf1 : zFd G H a4 11 2 vf1) (hd : 1 ≤ d) (hl : st.length ≤ 4) (ho : zIs G H a2 1) (hc : zC G (d - 1) M_Sb_append_1 [(.ref a2), vf1] H (zPr P)) (kk : ∀ (r : Value) (H1 : Heap), zRf r → P r H1 → zOk G H1 → H.size ≤ H1.size → zT H ≤ zT H1 → zW G d M_Jr_tell 78 [o0, o1, some (.ref a2), o3, some (.ref a4)] (r :: st) H1 Q) : zW G d M_Jr_tell 68 [o0, o1, some (.ref a2), o3, some (.ref a4)] (ws0 :: st) H Q :=
  zw_pop dJr_tell_68 hcs0 <| zw_aload_n (i := 2) dJr_tell_69 rfl rfl zRf_ref <| zw_aload (i := 4) dJr_tell_70 rfl zRf_ref <| zw_getf dJr_tell_72 zf_Jr_60 hf1 <| zw_callV [vf1] _ dJr_tell_75 hd zk_Jr_57 ho rfl rfl hl hc (zPr_k kk)
theorem sJr_tell_78 {G : zG} {d : Nat} {Q : Option Value → Heap → Prop} {H : Heap} {st : List Value} {o0 : Option Value} {o1 : Option Value} {o2 : Option Value} {o4 : Option Value} {ws0 : Value} {x3 : Int32} (hcs0 : ws0.category = 1 := by first | rfl | exact zRf.cat (by assumption)) (kk : zW G d M_Jr_tell 2 [o0, o1, o2, some (.int (x3 + (1 : Int32))), o4] st H Q) : zW G d M_Jr_tell 78 [o0, o1, o2, some (.int x3), o4] (ws0 :: st) H Q :=
  zw_pop dJr_tell_78 hcs0 <| zw_iinc (i := 3) (x3 + (1 : Int32)) dJr_tell_79 rfl (by rw [zki_1]) <| zw_goto 2 dJr_tell_82 (by decide) <| kk
theorem sJr_tell_79 {G : zG} {d : Nat} {Q : Option Value → Heap → Prop} {H : Heap} {st : List Value} {o0 : Option Value} {o1 : Option Value} {o2 : Option Value} {o4 : Option Value} {x3 : Int32} (kk : zW G d M_Jr_tell 2 [o0, o1, o2, some (.int (x3 + (1 : Int32))), o4] st H Q) : zW G d M_Jr_tell 79 [o0, o1, o2, some (.int x3), o4] st H Q :=
  zw_iinc (i := 3) (x3 + (1 : Int32)) dJr_tell_79 rfl (by rw [zki_1]) <| zw_goto 2 dJr_tell_82 (by decide) <| kk
theorem sJr_tell_85 {G : zG} {d : Nat} {Q : Option Value → Heap → Prop} {H : Heap} {o0 : Option Value} {o1 : Option Value} {o2 : Option Value} {o3 : Option Value} {o4 : Option Value} (hq : Q none H) : zW G d M_Jr_tell 85 [o0, o1, o2, o3, o4] [] H Q :=
  zw_vret dJr_tell_85 rfl hq
theorem sJr_put_0 {G : zG} {d : Nat} {Q : Option Value → Heap → Prop} {H : Heap} {st : List Value} {o0 : Option Value} {o1 : Option Value} {o2 : Option Value} {o3 : Option Value} (kk : zW G d M_Jr_put 2 [o0, o1, some (.int (0 : Int32)), o3] st H Q) : zW G d M_Jr_put 0 [o0, o1, o2, o3] st H Q :=
  zw_iconst (0 : Int32) dJr_put_0 zki_0 <| zw_istore_n (i := 2) dJr_put_1 rfl (Nat.le_of_ble_eq_true rfl) <| kk
theorem sJr_put_2 {G : zG} {d : Nat} {Q : Option Value → Heap → Prop} {H : Heap} {st : List Value} {o1 : Option Value} {o3 : Option Value} {x2 : Int32} {a0 : Nat} {af1 : Nat} {P : Int32 → Heap → Prop} (hf1 : zFd G H a0 6 0 (.ref af1)) (hd : 1 ≤ d) (hl : ((.int x2) :: st).length ≤ 4) (ho : zIs G H af1 5) (hc : zC G (d - 1) M_Al_size [(.ref af1)] H (zPi P)) (kk : ∀ (r : Int32) (H1 : Heap), P r H1 → zOk G H1 → H.size ≤ H1.size → zT H ≤ zT H1 → zW G d M_Jr_put 10 [some (.ref a0), o1, some (.int x2), o3] ((.int r) :: (.int x2) :: st) H1 Q) : zW G d M_Jr_put 2 [some (.ref a0), o1, some (.int x2), o3] st H Q :=
  zw_iload_n (i := 2) dJr_put_2 rfl rfl <| zw_aload_n (i := 0) dJr_put_3 rfl rfl zRf_ref <| zw_getf dJr_put_4 zf_Jr_12 hf1 <| zw_callV [] _ dJr_put_7 hd zk_Jr_18 ho rfl rfl hl hc (zPi_k kk)
theorem sJr_put_10 {G : zG} {d : Nat} {Q : Option Value → Heap → Prop} {H : Heap} {st : List Value} {o0 : Option Value} {o1 : Option Value} {o2 : Option Value} {o3 : Option Value} {xs0 : Int32} {xs1 : Int32} (kt : (xs0 ≤ xs1) → zW G d M_Jr_put 70 [o0, o1, o2, o3] st H Q) (kf : (¬ xs0 ≤ xs1) → zW G d M_Jr_put 13 [o0, o1, o2, o3] st H Q) : zW G d M_Jr_put 10 [o0, o1, o2, o3] ((.int xs0) :: (.int xs1) :: st) H Q :=
  zw_icmp_ge 70 dJr_put_10 (by decide) kt kf
theorem sJr_put_13 {G : zG} {d : Nat} {Q : Option Value → Heap → Prop} {H : Heap} {st : List Value} {o1 : Option Value} {o3 : Option Value} {a0 : Nat} {af1 : Nat} {x2 : Int32} {P : Value → Heap → Prop} (hf1 : zFd G H a0 6 0 (.ref af1)) (hd : 1 ≤ d) (hl : st.length ≤ 4) (ho : zIs G H af1 5) (hc : zC G (d - 1) M_Al_get [(.ref af1), (.int x2)] H (zPr P)) (kk : ∀ (r : Value) (H1 : Heap), zRf r → P r H1 → zOk G H1 → H.size ≤ H1.size → zT H ≤ zT H1 → zW G d M_Jr_put 21 [some (.ref a0), o1, some (.int x2), o3] (r :: st) H1 Q) : zW G d M_Jr_put 13 [some (.ref a0), o1, some (.int x2), o3] st H Q :=
  zw_aload_n (i := 0) dJr_put_13 rfl rfl zRf_ref <| zw_getf dJr_put_14 zf_Jr_12 hf1 <| zw_iload_n (i := 2) dJr_put_17 rfl rfl <| zw_callV [(.int x2)] _ dJr_put_18 hd zk_Jr_22 ho rfl rfl hl hc (zPr_k kk)
theorem sJr_put_21 {G : zG} {d : Nat} {Q : Option Value → Heap → Prop} {H : Heap} {st : List Value} {o0 : Option Value} {o2 : Option Value} {o3 : Option Value} {as0 : Nat} {af2 : Nat} {a1 : Nat} {vf3 : Value} {P : Int32 → Heap → Prop} (hrf3 : zRf vf3 := by first | exact zRf_ref | exact zRf_null | exact zRf_rf _ | assumption) (hq1 : zIs G H as0 11) (hf2 : zFd G H as0 11 0 (.ref af2)) (hf3 : zFd G H a1 11 0 vf3) (hd : 1 ≤ d) (hl : st.length ≤ 4) (ho : zIs G H af2 8) (hc : zC G (d - 1) M_St_equals [(.ref af2), vf3] H (zPi P)) (kk : ∀ (r : Int32) (H1 : Heap), P r H1 → zOk G H1 → H.size ≤ H1.size → zT H ≤ zT H1 → zW G d M_Jr_put 36 [o0, some (.ref a1), o2, some (.ref as0)] ((.int r) :: st) H1 Q) : zW G d M_Jr_put 21 [o0, some (.ref a1), o2, o3] ((.ref as0) :: st) H Q :=
  zw_cast (ci := 11) dJr_put_21 rfl (zt4 198 rfl) hq1 <| zw_astore_n (i := 3) dJr_put_24 rfl (Nat.le_of_ble_eq_true rfl) zRf_ref <| zw_aload_n (i := 3) dJr_put_25 rfl rfl zRf_ref <| zw_getf dJr_put_26 zf_Jr_28 hf2 <| zw_aload_n (i := 1) dJr_put_29 rfl rfl zRf_ref <| zw_getf dJr_put_30 zf_Jr_28 hf3 <| zw_callV [vf3] _ dJr_put_33 hd zk_Jr_32 ho rfl rfl hl hc (zPi_k kk)
theorem sJr_put_36 {G : zG} {d : Nat} {Q : Option Value → Heap → Prop} {H : Heap} {st : List Value} {o0 : Option Value} {o1 : Option Value} {o2 : Option Value} {o3 : Option Value} {xs0 : Int32} (kt : (xs0 = 0) → zW G d M_Jr_put 64 [o0, o1, o2, o3] st H Q) (kf : (¬ xs0 = 0) → zW G d M_Jr_put 39 [o0, o1, o2, o3] st H Q) : zW G d M_Jr_put 36 [o0, o1, o2, o3] ((.int xs0) :: st) H Q :=
  zw_if_eq 64 dJr_put_36 (by decide) kt kf
theorem sJr_put_39 {G : zG} {d : Nat} {Q : Option Value → Heap → Prop} {H : Heap} {st : List Value} {o0 : Option Value} {o2 : Option Value} {a3 : Nat} {af1 : Nat} {a1 : Nat} {vf2 : Value} {P : Int32 → Heap → Prop} (hrf2 : zRf vf2 := by first | exact zRf_ref | exact zRf_null | exact zRf_rf _ | assumption) (hf1 : zFd G H a3 11 1 (.ref af1)) (hf2 : zFd G H a1 11 1 vf2) (hd : 1 ≤ d) (hl : st.length ≤ 4) (ho : zIs G H af1 8) (hc : zC G (d - 1) M_St_equals [(.ref af1), vf2] H (zPi P)) (kk : ∀ (r : Int32) (H1 : Heap), P r H1 → zOk G H1 → H.size ≤ H1.size → zT H ≤ zT H1 → zW G d M_Jr_put 50 [o0, some (.ref a1), o2, some (.ref a3)] ((.int r) :: st) H1 Q) : zW G d M_Jr_put 39 [o0, some (.ref a1), o2, some (.ref a3)] st H Q :=
  zw_aload_n (i := 3) dJr_put_39 rfl rfl zRf_ref <| zw_getf dJr_put_40 zf_Jr_38 hf1 <| zw_aload_n (i := 1) dJr_put_43 rfl rfl zRf_ref <| zw_getf dJr_put_44 zf_Jr_38 hf2 <| zw_callV [vf2] _ dJr_put_47 hd zk_Jr_32 ho rfl rfl hl hc (zPi_k kk)
theorem sJr_put_50 {G : zG} {d : Nat} {Q : Option Value → Heap → Prop} {H : Heap} {st : List Value} {o0 : Option Value} {o1 : Option Value} {o2 : Option Value} {o3 : Option Value} {xs0 : Int32} (kt : (xs0 = 0) → zW G d M_Jr_put 64 [o0, o1, o2, o3] st H Q) (kf : (¬ xs0 = 0) → zW G d M_Jr_put 53 [o0, o1, o2, o3] st H Q) : zW G d M_Jr_put 50 [o0, o1, o2, o3] ((.int xs0) :: st) H Q :=
  zw_if_eq 64 dJr_put_50 (by decide) kt kf
theorem sJr_put_53 {G : zG} {d : Nat} {Q : Option Value → Heap → Prop} {H : Heap} {st : List Value} {o3 : Option Value} {a0 : Nat} {af1 : Nat} {x2 : Int32} {v1 : Value} {P : Value → Heap → Prop} (hr1 : zRf v1 := by first | exact zRf_ref | exact zRf_null | exact zRf_rf _ | assumption) (hf1 : zFd G H a0 6 0 (.ref af1)) (hd : 1 ≤ d) (hl : st.length ≤ 4) (ho : zIs G H af1 5) (hc : zC G (d - 1) M_Al_set [(.ref af1), (.int x2), v1] H (zPr P)) (kk : ∀ (r : Value) (H1 : Heap), zRf r → P r H1 → zOk G H1 → H.size ≤ H1.size → zT H ≤ zT H1 → zW G d M_Jr_put 62 [some (.ref a0), some v1, some (.int x2), o3] (r :: st) H1 Q) : zW G d M_Jr_put 53 [some (.ref a0), some v1, some (.int x2), o3] st H Q :=
  zw_aload_n (i := 0) dJr_put_53 rfl rfl zRf_ref <| zw_getf dJr_put_54 zf_Jr_12 hf1 <| zw_iload_n (i := 2) dJr_put_57 rfl rfl <| zw_aload_n (i := 1) dJr_put_58 rfl rfl hr1 <| zw_callV [(.int x2), v1] _ dJr_put_59 hd zk_Jr_41 ho rfl rfl hl hc (zPr_k kk)
theorem sJr_put_62 {G : zG} {d : Nat} {Q : Option Value → Heap → Prop} {H : Heap} {o0 : Option Value} {o1 : Option Value} {o2 : Option Value} {o3 : Option Value} {ws0 : Value} (hcs0 : ws0.category = 1 := by first | rfl | exact zRf.cat (by assumption)) (hq : Q none H) : zW G d M_Jr_put 62 [o0, o1, o2, o3] (ws0 :: []) H Q :=
  zw_pop dJr_put_62 hcs0 <| zw_vret dJr_put_63 rfl hq
theorem sJr_put_64 {G : zG} {d : Nat} {Q : Option Value → Heap → Prop} {H : Heap} {st : List Value} {o0 : Option Value} {o1 : Option Value} {o3 : Option Value} {x2 : Int32} (kk : zW G d M_Jr_put 2 [o0, o1, some (.int (x2 + (1 : Int32))), o3] st H Q) : zW G d M_Jr_put 64 [o0, o1, some (.int x2), o3] st H Q :=
  zw_iinc (i := 2) (x2 + (1 : Int32)) dJr_put_64 rfl (by rw [zki_1]) <| zw_goto 2 dJr_put_67 (by decide) <| kk
theorem sJr_put_70 {G : zG} {d : Nat} {Q : Option Value → Heap → Prop} {H : Heap} {st : List Value} {o1 : Option Value} {o2 : Option Value} {o3 : Option Value} {a0 : Nat} {af1 : Nat} {P : Int32 → Heap → Prop} (hf1 : zFd G H a0 6 0 (.ref af1)) (hd : 1 ≤ d) (hl : st.length ≤ 4) (ho : zIs G H af1 5) (hc : zC G (d - 1) M_Al_size [(.ref af1)] H (zPi P)) (kk : ∀ (r : Int32) (H1 : Heap), P r H1 → zOk G H1 → H.size ≤ H1.size → zT H ≤ zT H1 → zW G d M_Jr_put 77 [some (.ref a0), o1, o2, o3] ((.int r) :: st) H1 Q) : zW G d M_Jr_put 70 [some (.ref a0), o1, o2, o3] st H Q :=
  zw_aload_n (i := 0) dJr_put_70 rfl rfl zRf_ref <| zw_getf dJr_put_71 zf_Jr_12 hf1 <| zw_callV [] _ dJr_put_74 hd zk_Jr_18 ho rfl rfl hl hc (zPi_k kk)
theorem sJr_put_77 {G : zG} {d : Nat} {Q : Option Value → Heap → Prop} {H : Heap} {st : List Value} {o0 : Option Value} {o1 : Option Value} {o2 : Option Value} {o3 : Option Value} {xs0 : Int32} (kt : ((20 : Int32) ≤ xs0) → zW G d M_Jr_put 91 [o0, o1, o2, o3] st H Q) (kf : (¬ (20 : Int32) ≤ xs0) → zW G d M_Jr_put 82 [o0, o1, o2, o3] st H Q) : zW G d M_Jr_put 77 [o0, o1, o2, o3] ((.int xs0) :: st) H Q :=
  zw_bipush (20 : Int32) dJr_put_77 zkb_20 <| zw_icmp_ge 91 dJr_put_79 (by decide) kt kf
theorem sJr_put_82 {G : zG} {d : Nat} {Q : Option Value → Heap → Prop} {H : Heap} {st : List Value} {o2 : Option Value} {o3 : Option Value} {a0 : Nat} {af1 : Nat} {v1 : Value} {P : Int32 → Heap → Prop} (hr1 : zRf v1 := by first | exact zRf_ref | exact zRf_null | exact zRf_rf _ | assumption) (hf1 : zFd G H a0 6 0 (.ref af1)) (hd : 1 ≤ d) (hl : st.length ≤ 4) (ho : zIs G H af1 5) (hc : zC G (d - 1) M_Al_add_0 [(.ref af1), v1] H (zPi P)) (kk : ∀ (r : Int32) (H1 : Heap), P r H1 → zOk G H1 → H.size ≤ H1.size → zT H ≤ zT H1 → zW G d M_Jr_put 90 [some (.ref a0), some v1, o2, o3] ((.int r) :: st) H1 Q) : zW G d M_Jr_put 82 [some (.ref a0), some v1, o2, o3] st H Q :=
  zw_aload_n (i := 0) dJr_put_82 rfl rfl zRf_ref <| zw_getf dJr_put_83 zf_Jr_12 hf1 <| zw_aload_n (i := 1) dJr_put_86 rfl rfl hr1 <| zw_callV [v1] _ dJr_put_87 hd zk_Jr_45 ho rfl rfl hl hc (zPi_k kk)
theorem sJr_put_90 {G : zG} {d : Nat} {Q : Option Value → Heap → Prop} {H : Heap} {o0 : Option Value} {o1 : Option Value} {o2 : Option Value} {o3 : Option Value} {ws0 : Value} (hcs0 : ws0.category = 1 := by first | rfl | exact zRf.cat (by assumption)) (hq : Q none H) : zW G d M_Jr_put 90 [o0, o1, o2, o3] (ws0 :: []) H Q :=
  zw_pop dJr_put_90 hcs0 <| zw_vret dJr_put_91 rfl hq
theorem sJr_put_91 {G : zG} {d : Nat} {Q : Option Value → Heap → Prop} {H : Heap} {o0 : Option Value} {o1 : Option Value} {o2 : Option Value} {o3 : Option Value} (hq : Q none H) : zW G d M_Jr_put 91 [o0, o1, o2, o3] [] H Q :=
  zw_vret dJr_put_91 rfl hq
theorem sKp_put_0 {G : zG} {d : Nat} {Q : Option Value → Heap → Prop} {H : Heap} {st : List Value} {o2 : Option Value} {a0 : Nat} {a1 : Nat} {af1 : Nat} {vf2 : Value} {P : Int32 → Heap → Prop} (hrf2 : zRf vf2 := by first | exact zRf_ref | exact zRf_null | exact zRf_rf _ | assumption) (hf1 : zFd G H a1 12 0 (.ref af1)) (hf2 : zFd G H af1 3 0 vf2) (hd : 1 ≤ d) (hl : st.length ≤ 4) (ho : zIs G H a0 7) (hc : zC G (d - 1) M_Kp_placeOf [(.ref a0), vf2] H (zPi P)) (kk : ∀ (r : Int32) (H1 : Heap), P r H1 → zOk G H1 → H.size ≤ H1.size → zT H ≤ zT H1 → zW G d M_Kp_put 11 [some (.ref a0), some (.ref a1), o2] ((.int r) :: st) H1 Q) : zW G d M_Kp_put 0 [some (.ref a0), some (.ref a1), o2] st H Q :=
  zw_aload_n (i := 0) dKp_put_0 rfl rfl zRf_ref <| zw_aload_n (i := 1) dKp_put_1 rfl rfl zRf_ref <| zw_getf dKp_put_2 zf_Kp_36 hf1 <| zw_getf dKp_put_5 zf_Kp_40 hf2 <| zw_callV [vf2] _ dKp_put_8 hd zk_Kp_22 ho rfl rfl hl hc (zPi_k kk)
theorem sKp_put_11 {G : zG} {d : Nat} {Q : Option Value → Heap → Prop} {H : Heap} {st : List Value} {o0 : Option Value} {o1 : Option Value} {o2 : Option Value} {xs0 : Int32} (kt : (xs0 = (-1 : Int32)) → zW G d M_Kp_put 29 [o0, o1, some (.int xs0)] st H Q) (kf : (¬ xs0 = (-1 : Int32)) → zW G d M_Kp_put 17 [o0, o1, some (.int xs0)] st H Q) : zW G d M_Kp_put 11 [o0, o1, o2] ((.int xs0) :: st) H Q :=
  zw_istore_n (i := 2) dKp_put_11 rfl (Nat.le_of_ble_eq_true rfl) <| zw_iload_n (i := 2) dKp_put_12 rfl rfl <| zw_iconst (-1 : Int32) dKp_put_13 zki_m1 <| zw_icmp_eq 29 dKp_put_14 (by decide) kt kf
theorem sKp_put_17 {G : zG} {d : Nat} {Q : Option Value → Heap → Prop} {H : Heap} {st : List Value} {o1 : Option Value} {a0 : Nat} {af1 : Nat} {x2 : Int32} {P : Value → Heap → Prop} (hf1 : zFd G H a0 7 0 (.ref af1)) (hd : 1 ≤ d) (hl : st.length ≤ 4) (ho : zIs G H af1 5) (hc : zC G (d - 1) M_Al_remove [(.ref af1), (.int x2)] H (zPr P)) (kk : ∀ (r : Value) (H1 : Heap), zRf r → P r H1 → zOk G H1 → H.size ≤ H1.size → zT H ≤ zT H1 → zW G d M_Kp_put 25 [some (.ref a0), o1, some (.int x2)] (r :: st) H1 Q) : zW G d M_Kp_put 17 [some (.ref a0), o1, some (.int x2)] st H Q :=
  zw_aload_n (i := 0) dKp_put_17 rfl rfl zRf_ref <| zw_getf dKp_put_18 zf_Kp_12 hf1 <| zw_iload_n (i := 2) dKp_put_21 rfl rfl <| zw_callV [(.int x2)] _ dKp_put_22 hd zk_Kp_46 ho rfl rfl hl hc (zPr_k kk)
theorem sKp_put_25 {G : zG} {d : Nat} {Q : Option Value → Heap → Prop} {H : Heap} {st : List Value} {o2 : Option Value} {ws0 : Value} {a0 : Nat} {af1 : Nat} {v1 : Value} {P : Int32 → Heap → Prop} (hcs0 : ws0.category = 1 := by first | rfl | exact zRf.cat (by assumption)) (hr1 : zRf v1 := by first | exact zRf_ref | exact zRf_null | exact zRf_rf _ | assumption) (hf1 : zFd G H a0 7 0 (.ref af1)) (hd : 1 ≤ d) (hl : st.length ≤ 4) (ho : zIs G H af1 5) (hc : zC G (d - 1) M_Al_add_0 [(.ref af1), v1] H (zPi P)) (kk : ∀ (r : Int32) (H1 : Heap), P r H1 → zOk G H1 → H.size ≤ H1.size → zT H ≤ zT H1 → zW G d M_Kp_put 58 [some (.ref a0), some v1, o2] ((.int r) :: st) H1 Q) : zW G d M_Kp_put 25 [some (.ref a0), some v1, o2] (ws0 :: st) H Q :=
  zw_pop dKp_put_25 hcs0 <| zw_goto 50 dKp_put_26 (by decide) <| zw_aload_n (i := 0) dKp_put_50 rfl rfl zRf_ref <| zw_getf dKp_put_51 zf_Kp_12 hf1 <| zw_aload_n (i := 1) dKp_put_54 rfl rfl hr1 <| zw_callV [v1] _ dKp_put_55 hd zk_Kp_49 ho rfl rfl hl hc (zPi_k kk)
theorem sKp_put_29 {G : zG} {d : Nat} {Q : Option Value → Heap → Prop} {H : Heap} {st : List Value} {o1 : Option Value} {o2 : Option Value} {a0 : Nat} {af1 : Nat} {P : Int32 → Heap → Prop} (hf1 : zFd G H a0 7 0 (.ref af1)) (hd : 1 ≤ d) (hl : st.length ≤ 4) (ho : zIs G H af1 5) (hc : zC G (d - 1) M_Al_size [(.ref af1)] H (zPi P)) (kk : ∀ (r : Int32) (H1 : Heap), P r H1 → zOk G H1 → H.size ≤ H1.size → zT H ≤ zT H1 → zW G d M_Kp_put 36 [some (.ref a0), o1, o2] ((.int r) :: st) H1 Q) : zW G d M_Kp_put 29 [some (.ref a0), o1, o2] st H Q :=
  zw_aload_n (i := 0) dKp_put_29 rfl rfl zRf_ref <| zw_getf dKp_put_30 zf_Kp_12 hf1 <| zw_callV [] _ dKp_put_33 hd zk_Kp_18 ho rfl rfl hl hc (zPi_k kk)
theorem sKp_put_36 {G : zG} {d : Nat} {Q : Option Value → Heap → Prop} {H : Heap} {st : List Value} {o0 : Option Value} {o1 : Option Value} {o2 : Option Value} {xs0 : Int32} (kt : (xs0 < (8 : Int32)) → zW G d M_Kp_put 50 [o0, o1, o2] st H Q) (kf : (¬ xs0 < (8 : Int32)) → zW G d M_Kp_put 41 [o0, o1, o2] st H Q) : zW G d M_Kp_put 36 [o0, o1, o2] ((.int xs0) :: st) H Q :=
  zw_bipush (8 : Int32) dKp_put_36 zkb_8 <| zw_icmp_lt 50 dKp_put_38 (by decide) kt kf
theorem sKp_put_41 {G : zG} {d : Nat} {Q : Option Value → Heap → Prop} {H : Heap} {st : List Value} {o1 : Option Value} {o2 : Option Value} {a0 : Nat} {af1 : Nat} {P : Value → Heap → Prop} (hf1 : zFd G H a0 7 0 (.ref af1)) (hd : 1 ≤ d) (hl : st.length ≤ 4) (ho : zIs G H af1 5) (hc : zC G (d - 1) M_Al_remove [(.ref af1), (.int (0 : Int32))] H (zPr P)) (kk : ∀ (r : Value) (H1 : Heap), zRf r → P r H1 → zOk G H1 → H.size ≤ H1.size → zT H ≤ zT H1 → zW G d M_Kp_put 49 [some (.ref a0), o1, o2] (r :: st) H1 Q) : zW G d M_Kp_put 41 [some (.ref a0), o1, o2] st H Q :=
  zw_aload_n (i := 0) dKp_put_41 rfl rfl zRf_ref <| zw_getf dKp_put_42 zf_Kp_12 hf1 <| zw_iconst (0 : Int32) dKp_put_45 zki_0 <| zw_callV [(.int (0 : Int32))] _ dKp_put_46 hd zk_Kp_46 ho rfl rfl hl hc (zPr_k kk)
theorem sKp_put_49 {G : zG} {d : Nat} {Q : Option Value → Heap → Prop} {H : Heap} {st : List Value} {o2 : Option Value} {ws0 : Value} {a0 : Nat} {af1 : Nat} {v1 : Value} {P : Int32 → Heap → Prop} (hcs0 : ws0.category = 1 := by first | rfl | exact zRf.cat (by assumption)) (hr1 : zRf v1 := by first | exact zRf_ref | exact zRf_null | exact zRf_rf _ | assumption) (hf1 : zFd G H a0 7 0 (.ref af1)) (hd : 1 ≤ d) (hl : st.length ≤ 4) (ho : zIs G H af1 5) (hc : zC G (d - 1) M_Al_add_0 [(.ref af1), v1] H (zPi P)) (kk : ∀ (r : Int32) (H1 : Heap), P r H1 → zOk G H1 → H.size ≤ H1.size → zT H ≤ zT H1 → zW G d M_Kp_put 58 [some (.ref a0), some v1, o2] ((.int r) :: st) H1 Q) : zW G d M_Kp_put 49 [some (.ref a0), some v1, o2] (ws0 :: st) H Q :=
  zw_pop dKp_put_49 hcs0 <| zw_aload_n (i := 0) dKp_put_50 rfl rfl zRf_ref <| zw_getf dKp_put_51 zf_Kp_12 hf1 <| zw_aload_n (i := 1) dKp_put_54 rfl rfl hr1 <| zw_callV [v1] _ dKp_put_55 hd zk_Kp_49 ho rfl rfl hl hc (zPi_k kk)
theorem sKp_put_50 {G : zG} {d : Nat} {Q : Option Value → Heap → Prop} {H : Heap} {st : List Value} {o2 : Option Value} {a0 : Nat} {af1 : Nat} {v1 : Value} {P : Int32 → Heap → Prop} (hr1 : zRf v1 := by first | exact zRf_ref | exact zRf_null | exact zRf_rf _ | assumption) (hf1 : zFd G H a0 7 0 (.ref af1)) (hd : 1 ≤ d) (hl : st.length ≤ 4) (ho : zIs G H af1 5) (hc : zC G (d - 1) M_Al_add_0 [(.ref af1), v1] H (zPi P)) (kk : ∀ (r : Int32) (H1 : Heap), P r H1 → zOk G H1 → H.size ≤ H1.size → zT H ≤ zT H1 → zW G d M_Kp_put 58 [some (.ref a0), some v1, o2] ((.int r) :: st) H1 Q) : zW G d M_Kp_put 50 [some (.ref a0), some v1, o2] st H Q :=
  zw_aload_n (i := 0) dKp_put_50 rfl rfl zRf_ref <| zw_getf dKp_put_51 zf_Kp_12 hf1 <| zw_aload_n (i := 1) dKp_put_54 rfl rfl hr1 <| zw_callV [v1] _ dKp_put_55 hd zk_Kp_49 ho rfl rfl hl hc (zPi_k kk)
theorem sKp_put_58 {G : zG} {d : Nat} {Q : Option Value → Heap → Prop} {H : Heap} {o0 : Option Value} {o1 : Option Value} {o2 : Option Value} {ws0 : Value} (hcs0 : ws0.category = 1 := by first | rfl | exact zRf.cat (by assumption)) (hq : Q none H) : zW G d M_Kp_put 58 [o0, o1, o2] (ws0 :: []) H Q :=
  zw_pop dKp_put_58 hcs0 <| zw_vret dKp_put_59 rfl hq
theorem sN_body_0 {G : zG} {d : Nat} {Q : Option Value → Heap → Prop} {H : Heap} {st : List Value} {o0 : Option Value} {x1 : Int32} (kt : (x1 < 0) → zW G d M_N_body 18 [o0, some (.int x1)] st H Q) (kf : (¬ x1 < 0) → zW G d M_N_body 4 [o0, some (.int x1)] st H Q) : zW G d M_N_body 0 [o0, some (.int x1)] st H Q :=
  zw_iload_n (i := 1) dN_body_0 rfl rfl <| zw_if_lt 18 dN_body_1 (by decide) kt kf
theorem sN_body_4 {G : zG} {d : Nat} {Q : Option Value → Heap → Prop} {H : Heap} {st : List Value} {x1 : Int32} {a0 : Nat} {af1 : Nat} {af2 : Nat} {P : Int32 → Heap → Prop} (hf1 : zFd G H a0 0 12 (.ref af1)) (hf2 : zFd G H af1 3 6 (.ref af2)) (hd : 1 ≤ d) (hl : ((.int x1) :: st).length ≤ 4) (ho : zIs G H af2 8) (hc : zC G (d - 1) M_St_length [(.ref af2)] H (zPi P)) (kk : ∀ (r : Int32) (H1 : Heap), P r H1 → zOk G H1 → H.size ≤ H1.size → zT H ≤ zT H1 → zW G d M_N_body 15 [some (.ref a0), some (.int x1)] ((.int r) :: (.int x1) :: st) H1 Q) : zW G d M_N_body 4 [some (.ref a0), some (.int x1)] st H Q :=
  zw_iload_n (i := 1) dN_body_4 rfl rfl <| zw_aload_n (i := 0) dN_body_5 rfl rfl zRf_ref <| zw_getf dN_body_6 zf_N_82 hf1 <| zw_getf dN_body_9 zf_N_176 hf2 <| zw_callV [] _ dN_body_12 hd zk_N_177 ho rfl rfl hl hc (zPi_k kk)
theorem sN_body_15 {G : zG} {d : Nat} {Q : Option Value → Heap → Prop} {H : Heap} {st : List Value} {o0 : Option Value} {o1 : Option Value} {xs0 : Int32} {xs1 : Int32} (kt : (xs1 < xs0) → zW G d M_N_body 20 [o0, o1] st H Q) (kf : (¬ xs1 < xs0) → zW G d M_N_body 18 [o0, o1] st H Q) : zW G d M_N_body 15 [o0, o1] ((.int xs0) :: (.int xs1) :: st) H Q :=
  zw_icmp_lt 20 dN_body_15 (by decide) kt kf
theorem sN_body_18 {G : zG} {d : Nat} {Q : Option Value → Heap → Prop} {H : Heap} {o0 : Option Value} {o1 : Option Value} (hq : Q (some (.int (-1 : Int32))) H) : zW G d M_N_body 18 [o0, o1] [] H Q :=
  zw_iconst (-1 : Int32) dN_body_18 zki_m1 <| zw_iret dN_body_19 .int rfl rfl hq
theorem sN_body_20 {G : zG} {d : Nat} {Q : Option Value → Heap → Prop} {H : Heap} {st : List Value} {a0 : Nat} {af1 : Nat} {af2 : Nat} {x1 : Int32} {P : Int32 → Heap → Prop} (hf1 : zFd G H a0 0 12 (.ref af1)) (hf2 : zFd G H af1 3 6 (.ref af2)) (hd : 1 ≤ d) (hl : st.length ≤ 4) (ho : zIs G H af2 8) (hc : zC G (d - 1) M_St_charAt [(.ref af2), (.int x1)] H (zPi P)) (kk : ∀ (r : Int32) (H1 : Heap), P r H1 → zOk G H1 → H.size ≤ H1.size → zT H ≤ zT H1 → zW G d M_N_body 31 [some (.ref a0), some (.int x1)] ((.int r) :: st) H1 Q) : zW G d M_N_body 20 [some (.ref a0), some (.int x1)] st H Q :=
  zw_aload_n (i := 0) dN_body_20 rfl rfl zRf_ref <| zw_getf dN_body_21 zf_N_82 hf1 <| zw_getf dN_body_24 zf_N_176 hf2 <| zw_iload_n (i := 1) dN_body_27 rfl rfl <| zw_callV [(.int x1)] _ dN_body_28 hd zk_N_180 ho rfl rfl hl hc (zPi_k kk)
theorem sN_body_31 {G : zG} {d : Nat} {Q : Option Value → Heap → Prop} {H : Heap} {o0 : Option Value} {o1 : Option Value} {xs0 : Int32} (hq : Q (some (.int xs0)) H) : zW G d M_N_body 31 [o0, o1] ((.int xs0) :: []) H Q :=
  zw_iret dN_body_31 .int rfl rfl hq
theorem sN_tick_0 {G : zG} {d : Nat} {Q : Option Value → Heap → Prop} {H : Heap} {st : List Value} {o0 : Option Value} {x1 : Int32} (kt : (x1 < 0) → zW G d M_N_tick 11 [o0, some (.int x1)] st H Q) (kf : (¬ x1 < 0) → zW G d M_N_tick 4 [o0, some (.int x1)] st H Q) : zW G d M_N_tick 0 [o0, some (.int x1)] st H Q :=
  zw_iload_n (i := 1) dN_tick_0 rfl rfl <| zw_if_lt 11 dN_tick_1 (by decide) kt kf
theorem sN_tick_4 {G : zG} {d : Nat} {Q : Option Value → Heap → Prop} {H : Heap} {st : List Value} {o0 : Option Value} {x1 : Int32} (kt : (x1 ≤ (1000 : Int32)) → zW G d M_N_tick 13 [o0, some (.int x1)] st H Q) (kf : (¬ x1 ≤ (1000 : Int32)) → zW G d M_N_tick 11 [o0, some (.int x1)] st H Q) : zW G d M_N_tick 4 [o0, some (.int x1)] st H Q :=
  zw_iload_n (i := 1) dN_tick_4 rfl rfl <| zw_sipush (1000 : Int32) dN_tick_5 zks_1000 <| zw_icmp_le 13 dN_tick_8 (by decide) kt kf
theorem sN_tick_11 {G : zG} {d : Nat} {Q : Option Value → Heap → Prop} {H : Heap} {o0 : Option Value} {o1 : Option Value} (hq : Q (some (.int (-1 : Int32))) H) : zW G d M_N_tick 11 [o0, o1] [] H Q :=
  zw_iconst (-1 : Int32) dN_tick_11 zki_m1 <| zw_iret dN_tick_12 .int rfl rfl hq
theorem sN_tick_13 {G : zG} {d : Nat} {Q : Option Value → Heap → Prop} {H : Heap} {st : List Value} {a0 : Nat} {xf1 : Int32} {x1 : Int32} {b0 : Value} {b1 : Value} {b2 : Value} {b3 : Value} {b4 : Value} {b5 : Value} {b6 : Value} {b7 : Value} {b8 : Value} {b9 : Value} {b10 : Value} {b11 : Value} {b12 : Value} {b13 : Value} {b14 : Value} {b15 : Value} {b16 : Value} (hf1 : zFd G H a0 0 9 (.int xf1)) (ho : zObj G H a0 0 [b0, b1, b2, b3, b4, b5, b6, b7, b8, b9, b10, b11, b12, b13, b14, b15, b16]) (hw : zFr G a0) (kk : ∀ H1 : Heap, zObj G H1 a0 0 [b0, b1, b2, b3, b4, b5, b6, b7, b8, (.int (xf1 + x1)), b10, b11, b12, b13, b14, b15, b16] → zUp a0 H H1 → zW G d M_N_tick 23 [some (.ref a0), some (.int x1)] st H1 Q) : zW G d M_N_tick 13 [some (.ref a0), some (.int x1)] st H Q :=
  zw_aload_n (i := 0) dN_tick_13 rfl rfl zRf_ref <| zw_dup dN_tick_14 rfl <| zw_getf dN_tick_15 zf_N_72 hf1 <| zw_iload_n (i := 1) dN_tick_18 rfl rfl <| zw_iadd dN_tick_19 <| zw_putf (k := 9) dN_tick_20 zp_N_tick_72 ho (Nat.le_of_ble_eq_true rfl) (Nat.le_of_ble_eq_true rfl) hw rfl rfl kk
theorem sN_tick_23 {G : zG} {d : Nat} {Q : Option Value → Heap → Prop} {H : Heap} {o1 : Option Value} {a0 : Nat} {xf1 : Int32} (hf1 : zFd G H a0 0 9 (.int xf1)) (hq : Q (some (.int xf1)) H) : zW G d M_N_tick 23 [some (.ref a0), o1] [] H Q :=
  zw_aload_n (i := 0) dN_tick_23 rfl rfl zRf_ref <| zw_getf dN_tick_24 zf_N_72 hf1 <| zw_iret dN_tick_27 .int rfl rfl hq
theorem sN_forget_0 {G : zG} {d : Nat} {Q : Option Value → Heap → Prop} {H : Heap} {st : List Value} {o1 : Option Value} {o2 : Option Value} {o3 : Option Value} {a0 : Nat} {P : Value → Heap → Prop} (hd : 1 ≤ d) (hl : st.length ≤ 4) (ho : zIs G H a0 0) (hc : zC G (d - 1) M_N_takeText [(.ref a0)] H (zPr P)) (kk : ∀ (r : Value) (H1 : Heap), zRf r → P r H1 → zOk G H1 → H.size ≤ H1.size → zT H ≤ zT H1 → zW G d M_N_forget 4 [some (.ref a0), o1, o2, o3] (r :: st) H1 Q) : zW G d M_N_forget 0 [some (.ref a0), o1, o2, o3] st H Q :=
  zw_aload_n (i := 0) dN_forget_0 rfl rfl zRf_ref <| zw_callV [] _ dN_forget_1 hd zk_N_114 ho rfl rfl hl hc (zPr_k kk)
theorem sN_forget_4 {G : zG} {d : Nat} {Q : Option Value → Heap → Prop} {H : Heap} {st : List Value} {o0 : Option Value} {o1 : Option Value} {o2 : Option Value} {o3 : Option Value} {vs0 : Value} {P : Int32 → Heap → Prop} (hrs0 : zRf vs0 := by first | exact zRf_ref | exact zRf_null | exact zRf_rf _ | assumption) (hd : 1 ≤ d) (hl : st.length ≤ 4) (hc : zC G (d - 1) M_Tx_badByte [vs0] H (zPi P)) (kk : ∀ (r : Int32) (H1 : Heap), P r H1 → zOk G H1 → H.size ≤ H1.size → zT H ≤ zT H1 → zW G d M_N_forget 9 [o0, some vs0, o2, o3] ((.int r) :: st) H1 Q) : zW G d M_N_forget 4 [o0, o1, o2, o3] (vs0 :: st) H Q :=
  zw_astore_n (i := 1) dN_forget_4 rfl (Nat.le_of_ble_eq_true rfl) hrs0 <| zw_aload_n (i := 1) dN_forget_5 rfl rfl hrs0 <| zw_callS [vs0] _ dN_forget_6 hd zk_N_118 rfl rfl hl hc (zPi_k kk)
theorem sN_forget_9 {G : zG} {d : Nat} {Q : Option Value → Heap → Prop} {H : Heap} {st : List Value} {o0 : Option Value} {o1 : Option Value} {o2 : Option Value} {o3 : Option Value} {xs0 : Int32} (kt : (xs0 = (-1 : Int32)) → zW G d M_N_forget 21 [o0, o1, some (.int xs0), o3] st H Q) (kf : (¬ xs0 = (-1 : Int32)) → zW G d M_N_forget 15 [o0, o1, some (.int xs0), o3] st H Q) : zW G d M_N_forget 9 [o0, o1, o2, o3] ((.int xs0) :: st) H Q :=
  zw_istore_n (i := 2) dN_forget_9 rfl (Nat.le_of_ble_eq_true rfl) <| zw_iload_n (i := 2) dN_forget_10 rfl rfl <| zw_iconst (-1 : Int32) dN_forget_11 zki_m1 <| zw_icmp_eq 21 dN_forget_12 (by decide) kt kf
theorem sN_forget_15 {G : zG} {d : Nat} {Q : Option Value → Heap → Prop} {H : Heap} {o0 : Option Value} {o1 : Option Value} {o3 : Option Value} {x2 : Int32} (hq : Q (some (.int ((-1000 : Int32) - x2))) H) : zW G d M_N_forget 15 [o0, o1, some (.int x2), o3] [] H Q :=
  zw_sipush (-1000 : Int32) dN_forget_15 zks_m1000 <| zw_iload_n (i := 2) dN_forget_18 rfl rfl <| zw_isub dN_forget_19 <| zw_iret dN_forget_20 .int rfl rfl hq
theorem sN_forget_21 {G : zG} {d : Nat} {Q : Option Value → Heap → Prop} {H : Heap} {st : List Value} {o0 : Option Value} {o2 : Option Value} {o3 : Option Value} {v1 : Value} {P : Int32 → Heap → Prop} (hr1 : zRf v1 := by first | exact zRf_ref | exact zRf_null | exact zRf_rf _ | assumption) (hd : 1 ≤ d) (hl : st.length ≤ 4) (hc : zC G (d - 1) M_Tx_noNameAt [v1] H (zPi P)) (kk : ∀ (r : Int32) (H1 : Heap), P r H1 → zOk G H1 → H.size ≤ H1.size → zT H ≤ zT H1 → zW G d M_N_forget 25 [o0, some v1, o2, o3] ((.int r) :: st) H1 Q) : zW G d M_N_forget 21 [o0, some v1, o2, o3] st H Q :=
  zw_aload_n (i := 1) dN_forget_21 rfl rfl hr1 <| zw_callS [v1] _ dN_forget_22 hd zk_N_181 rfl rfl hl hc (zPi_k kk)
theorem sN_forget_25 {G : zG} {d : Nat} {Q : Option Value → Heap → Prop} {H : Heap} {st : List Value} {o0 : Option Value} {o1 : Option Value} {o2 : Option Value} {o3 : Option Value} {xs0 : Int32} (kt : (xs0 = (-1 : Int32)) → zW G d M_N_forget 37 [o0, o1, o2, some (.int xs0)] st H Q) (kf : (¬ xs0 = (-1 : Int32)) → zW G d M_N_forget 31 [o0, o1, o2, some (.int xs0)] st H Q) : zW G d M_N_forget 25 [o0, o1, o2, o3] ((.int xs0) :: st) H Q :=
  zw_istore_n (i := 3) dN_forget_25 rfl (Nat.le_of_ble_eq_true rfl) <| zw_iload_n (i := 3) dN_forget_26 rfl rfl <| zw_iconst (-1 : Int32) dN_forget_27 zki_m1 <| zw_icmp_eq 37 dN_forget_28 (by decide) kt kf
theorem sN_forget_31 {G : zG} {d : Nat} {Q : Option Value → Heap → Prop} {H : Heap} {o0 : Option Value} {o1 : Option Value} {o2 : Option Value} {x3 : Int32} (hq : Q (some (.int ((-1000 : Int32) - x3))) H) : zW G d M_N_forget 31 [o0, o1, o2, some (.int x3)] [] H Q :=
  zw_sipush (-1000 : Int32) dN_forget_31 zks_m1000 <| zw_iload_n (i := 3) dN_forget_34 rfl rfl <| zw_isub dN_forget_35 <| zw_iret dN_forget_36 .int rfl rfl hq
theorem sN_forget_37 {G : zG} {d : Nat} {Q : Option Value → Heap → Prop} {H : Heap} {st : List Value} {o2 : Option Value} {o3 : Option Value} {a0 : Nat} {af1 : Nat} {v1 : Value} {P : Int32 → Heap → Prop} (hr1 : zRf v1 := by first | exact zRf_ref | exact zRf_null | exact zRf_rf _ | assumption) (hf1 : zFd G H a0 0 5 (.ref af1)) (hd : 1 ≤ d) (hl : st.length ≤ 4) (ho : zIs G H af1 6) (hc : zC G (d - 1) M_Jr_dropLast [(.ref af1), v1] H (zPi P)) (kk : ∀ (r : Int32) (H1 : Heap), P r H1 → zOk G H1 → H.size ≤ H1.size → zT H ≤ zT H1 → zW G d M_N_forget 45 [some (.ref a0), some v1, o2, o3] ((.int r) :: st) H1 Q) : zW G d M_N_forget 37 [some (.ref a0), some v1, o2, o3] st H Q :=
  zw_aload_n (i := 0) dN_forget_37 rfl rfl zRf_ref <| zw_getf dN_forget_38 zf_N_55 hf1 <| zw_aload_n (i := 1) dN_forget_41 rfl rfl hr1 <| zw_callV [v1] _ dN_forget_42 hd zk_N_184 ho rfl rfl hl hc (zPi_k kk)
theorem sN_forget_45 {G : zG} {d : Nat} {Q : Option Value → Heap → Prop} {H : Heap} {o0 : Option Value} {o1 : Option Value} {o2 : Option Value} {o3 : Option Value} {xs0 : Int32} (hq : Q (some (.int xs0)) H) : zW G d M_N_forget 45 [o0, o1, o2, o3] ((.int xs0) :: []) H Q :=
  zw_iret dN_forget_45 .int rfl rfl hq
theorem sJr_dropLast_0 {G : zG} {d : Nat} {Q : Option Value → Heap → Prop} {H : Heap} {st : List Value} {o0 : Option Value} {o1 : Option Value} {o2 : Option Value} {o3 : Option Value} {o4 : Option Value} (kk : zW G d M_Jr_dropLast 7 [o0, o1, some (.int (-1 : Int32)), some (.int (0 : Int32)), some (.int (0 : Int32))] st H Q) : zW G d M_Jr_dropLast 0 [o0, o1, o2, o3, o4] st H Q :=
  zw_iconst (-1 : Int32) dJr_dropLast_0 zki_m1 <| zw_istore_n (i := 2) dJr_dropLast_1 rfl (Nat.le_of_ble_eq_true rfl) <| zw_iconst (0 : Int32) dJr_dropLast_2 zki_0 <| zw_istore_n (i := 3) dJr_dropLast_3 rfl (Nat.le_of_ble_eq_true rfl) <| zw_iconst (0 : Int32) dJr_dropLast_4 zki_0 <| zw_istore (i := 4) dJr_dropLast_5 (Nat.le_of_ble_eq_true rfl) <| kk
theorem sJr_dropLast_7 {G : zG} {d : Nat} {Q : Option Value → Heap → Prop} {H : Heap} {st : List Value} {o1 : Option Value} {o2 : Option Value} {o3 : Option Value} {x4 : Int32} {a0 : Nat} {af1 : Nat} {P : Int32 → Heap → Prop} (hf1 : zFd G H a0 6 0 (.ref af1)) (hd : 1 ≤ d) (hl : ((.int x4) :: st).length ≤ 4) (ho : zIs G H af1 5) (hc : zC G (d - 1) M_Al_size [(.ref af1)] H (zPi P)) (kk : ∀ (r : Int32) (H1 : Heap), P r H1 → zOk G H1 → H.size ≤ H1.size → zT H ≤ zT H1 → zW G d M_Jr_dropLast 16 [some (.ref a0), o1, o2, o3, some (.int x4)] ((.int r) :: (.int x4) :: st) H1 Q) : zW G d M_Jr_dropLast 7 [some (.ref a0), o1, o2, o3, some (.int x4)] st H Q :=
  zw_iload (i := 4) dJr_dropLast_7 rfl <| zw_aload_n (i := 0) dJr_dropLast_9 rfl rfl zRf_ref <| zw_getf dJr_dropLast_10 zf_Jr_12 hf1 <| zw_callV [] _ dJr_dropLast_13 hd zk_Jr_18 ho rfl rfl hl hc (zPi_k kk)
theorem sJr_dropLast_16 {G : zG} {d : Nat} {Q : Option Value → Heap → Prop} {H : Heap} {st : List Value} {o0 : Option Value} {o1 : Option Value} {o2 : Option Value} {o3 : Option Value} {o4 : Option Value} {xs0 : Int32} {xs1 : Int32} (kt : (xs0 ≤ xs1) → zW G d M_Jr_dropLast 53 [o0, o1, o2, o3, o4] st H Q) (kf : (¬ xs0 ≤ xs1) → zW G d M_Jr_dropLast 19 [o0, o1, o2, o3, o4] st H Q) : zW G d M_Jr_dropLast 16 [o0, o1, o2, o3, o4] ((.int xs0) :: (.int xs1) :: st) H Q :=
  zw_icmp_ge 53 dJr_dropLast_16 (by decide) kt kf
theorem sJr_dropLast_19 {G : zG} {d : Nat} {Q : Option Value → Heap → Prop} {H : Heap} {st : List Value} {o1 : Option Value} {o2 : Option Value} {o3 : Option Value} {a0 : Nat} {af1 : Nat} {x4 : Int32} {P : Value → Heap → Prop} (hf1 : zFd G H a0 6 0 (.ref af1)) (hd : 1 ≤ d) (hl : st.length ≤ 4) (ho : zIs G H af1 5) (hc : zC G (d - 1) M_Al_get [(.ref af1), (.int x4)] H (zPr P)) (kk : ∀ (r : Value) (H1 : Heap), zRf r → P r H1 → zOk G H1 → H.size ≤ H1.size → zT H ≤ zT H1 → zW G d M_Jr_dropLast 28 [some (.ref a0), o1, o2, o3, some (.int x4)] (r :: st) H1 Q) : zW G d M_Jr_dropLast 19 [some (.ref a0), o1, o2, o3, some (.int x4)] st H Q :=
  zw_aload_n (i := 0) dJr_dropLast_19 rfl rfl zRf_ref <| zw_getf dJr_dropLast_20 zf_Jr_12 hf1 <| zw_iload (i := 4) dJr_dropLast_23 rfl <| zw_callV [(.int x4)] _ dJr_dropLast_25 hd zk_Jr_22 ho rfl rfl hl hc (zPr_k kk)
theorem sJr_dropLast_28 {G : zG} {d : Nat} {Q : Option Value → Heap → Prop} {H : Heap} {st : List Value} {o0 : Option Value} {o2 : Option Value} {o3 : Option Value} {o4 : Option Value} {as0 : Nat} {af2 : Nat} {v1 : Value} {P : Int32 → Heap → Prop} (hr1 : zRf v1 := by first | exact zRf_ref | exact zRf_null | exact zRf_rf _ | assumption) (hq1 : zIs G H as0 11) (hf2 : zFd G H as0 11 0 (.ref af2)) (hd : 1 ≤ d) (hl : st.length ≤ 4) (ho : zIs G H af2 8) (hc : zC G (d - 1) M_St_equals [(.ref af2), v1] H (zPi P)) (kk : ∀ (r : Int32) (H1 : Heap), P r H1 → zOk G H1 → H.size ≤ H1.size → zT H ≤ zT H1 → zW G d M_Jr_dropLast 38 [o0, some v1, o2, o3, o4] ((.int r) :: st) H1 Q) : zW G d M_Jr_dropLast 28 [o0, some v1, o2, o3, o4] ((.ref as0) :: st) H Q :=
  zw_cast (ci := 11) dJr_dropLast_28 rfl (zt4 198 rfl) hq1 <| zw_getf dJr_dropLast_31 zf_Jr_28 hf2 <| zw_aload_n (i := 1) dJr_dropLast_34 rfl rfl hr1 <| zw_callV [v1] _ dJr_dropLast_35 hd zk_Jr_32 ho rfl rfl hl hc (zPi_k kk)
theorem sJr_dropLast_38 {G : zG} {d : Nat} {Q : Option Value → Heap → Prop} {H : Heap} {st : List Value} {o0 : Option Value} {o1 : Option Value} {o2 : Option Value} {o3 : Option Value} {o4 : Option Value} {xs0 : Int32} (kt : (xs0 = 0) → zW G d M_Jr_dropLast 47 [o0, o1, o2, o3, o4] st H Q) (kf : (¬ xs0 = 0) → zW G d M_Jr_dropLast 41 [o0, o1, o2, o3, o4] st H Q) : zW G d M_Jr_dropLast 38 [o0, o1, o2, o3, o4] ((.int xs0) :: st) H Q :=
  zw_if_eq 47 dJr_dropLast_38 (by decide) kt kf
theorem sJr_dropLast_41 {G : zG} {d : Nat} {Q : Option Value → Heap → Prop} {H : Heap} {st : List Value} {o0 : Option Value} {o1 : Option Value} {o2 : Option Value} {x4 : Int32} {x3 : Int32} (kk : zW G d M_Jr_dropLast 7 [o0, o1, some (.int x4), some (.int (x3 + (1 : Int32))), some (.int (x4 + (1 : Int32)))] st H Q) : zW G d M_Jr_dropLast 41 [o0, o1, o2, some (.int x3), some (.int x4)] st H Q :=
  zw_iload (i := 4) dJr_dropLast_41 rfl <| zw_istore_n (i := 2) dJr_dropLast_43 rfl (Nat.le_of_ble_eq_true rfl) <| zw_iinc (i := 3) (x3 + (1 : Int32)) dJr_dropLast_44 rfl (by rw [zki_1]) <| zw_iinc (i := 4) (x4 + (1 : Int32)) dJr_dropLast_47 rfl (by rw [zki_1]) <| zw_goto 7 dJr_dropLast_50 (by decide) <| kk
theorem sJr_dropLast_47 {G : zG} {d : Nat} {Q : Option Value → Heap → Prop} {H : Heap} {st : List Value} {o0 : Option Value} {o1 : Option Value} {o2 : Option Value} {o3 : Option Value} {x4 : Int32} (kk : zW G d M_Jr_dropLast 7 [o0, o1, o2, o3, some (.int (x4 + (1 : Int32)))] st H Q) : zW G d M_Jr_dropLast 47 [o0, o1, o2, o3, some (.int x4)] st H Q :=
  zw_iinc (i := 4) (x4 + (1 : Int32)) dJr_dropLast_47 rfl (by rw [zki_1]) <| zw_goto 7 dJr_dropLast_50 (by decide) <| kk
theorem sJr_dropLast_53 {G : zG} {d : Nat} {Q : Option Value → Heap → Prop} {H : Heap} {st : List Value} {o0 : Option Value} {o1 : Option Value} {o3 : Option Value} {o4 : Option Value} {x2 : Int32} (kt : (¬ x2 = (-1 : Int32)) → zW G d M_Jr_dropLast 60 [o0, o1, some (.int x2), o3, o4] st H Q) (kf : (x2 = (-1 : Int32)) → zW G d M_Jr_dropLast 58 [o0, o1, some (.int x2), o3, o4] st H Q) : zW G d M_Jr_dropLast 53 [o0, o1, some (.int x2), o3, o4] st H Q :=
  zw_iload_n (i := 2) dJr_dropLast_53 rfl rfl <| zw_iconst (-1 : Int32) dJr_dropLast_54 zki_m1 <| zw_icmp_ne 60 dJr_dropLast_55 (by decide) kt kf
theorem sJr_dropLast_58 {G : zG} {d : Nat} {Q : Option Value → Heap → Prop} {H : Heap} {o0 : Option Value} {o1 : Option Value} {o2 : Option Value} {o3 : Option Value} {o4 : Option Value} (hq : Q (some (.int (-1 : Int32))) H) : zW G d M_Jr_dropLast 58 [o0, o1, o2, o3, o4] [] H Q :=
  zw_iconst (-1 : Int32) dJr_dropLast_58 zki_m1 <| zw_iret dJr_dropLast_59 .int rfl rfl hq
theorem sJr_dropLast_60 {G : zG} {d : Nat} {Q : Option Value → Heap → Prop} {H : Heap} {st : List Value} {o1 : Option Value} {o3 : Option Value} {o4 : Option Value} {a0 : Nat} {af1 : Nat} {x2 : Int32} {P : Value → Heap → Prop} (hf1 : zFd G H a0 6 0 (.ref af1)) (hd : 1 ≤ d) (hl : st.length ≤ 4) (ho : zIs G H af1 5) (hc : zC G (d - 1) M_Al_remove [(.ref af1), (.int x2)] H (zPr P)) (kk : ∀ (r : Value) (H1 : Heap), zRf r → P r H1 → zOk G H1 → H.size ≤ H1.size → zT H ≤ zT H1 → zW G d M_Jr_dropLast 68 [some (.ref a0), o1, some (.int x2), o3, o4] (r :: st) H1 Q) : zW G d M_Jr_dropLast 60 [some (.ref a0), o1, some (.int x2), o3, o4] st H Q :=
  zw_aload_n (i := 0) dJr_dropLast_60 rfl rfl zRf_ref <| zw_getf dJr_dropLast_61 zf_Jr_12 hf1 <| zw_iload_n (i := 2) dJr_dropLast_64 rfl rfl <| zw_callV [(.int x2)] _ dJr_dropLast_65 hd zk_Jr_63 ho rfl rfl hl hc (zPr_k kk)
theorem sJr_dropLast_68 {G : zG} {d : Nat} {Q : Option Value → Heap → Prop} {H : Heap} {o0 : Option Value} {o1 : Option Value} {o2 : Option Value} {o4 : Option Value} {ws0 : Value} {x3 : Int32} (hcs0 : ws0.category = 1 := by first | rfl | exact zRf.cat (by assumption)) (hq : Q (some (.int (x3 - (1 : Int32)))) H) : zW G d M_Jr_dropLast 68 [o0, o1, o2, some (.int x3), o4] (ws0 :: []) H Q :=
  zw_pop dJr_dropLast_68 hcs0 <| zw_iload_n (i := 3) dJr_dropLast_69 rfl rfl <| zw_iconst (1 : Int32) dJr_dropLast_70 zki_1 <| zw_isub dJr_dropLast_71 <| zw_iret dJr_dropLast_72 .int rfl rfl hq
theorem sN_write_0 {G : zG} {d : Nat} {Q : Option Value → Heap → Prop} {H : Heap} {st : List Value} {o0 : Option Value} {x1 : Int32} (k0 : (x1 = 0) → zW G d M_N_write 32 [o0, some (.int x1)] st H Q) (k1 : (x1 = 1) → zW G d M_N_write 48 [o0, some (.int x1)] st H Q) (k2 : (x1 = 2) → zW G d M_N_write 59 [o0, some (.int x1)] st H Q) (k3 : (x1 = 3) → zW G d M_N_write 90 [o0, some (.int x1)] st H Q) (kd : (¬ x1 = 0 ∧ ¬ x1 = 1 ∧ ¬ x1 = 2 ∧ ¬ x1 = 3) → zW G d M_N_write 103 [o0, some (.int x1)] st H Q) : zW G d M_N_write 0 [o0, some (.int x1)] st H Q := by
  refine zw_iload_n (i := 1) dN_write_0 rfl rfl <| ?_
  by_cases e0 : x1 = 0
  · exact zw_tableIn (off := 31) 32 dN_write_1 (by rw [e0]; decide) (by rw [e0]; decide) (by rw [e0]; rfl) (by decide) (k0 e0)
  by_cases e1 : x1 = 1
  · exact zw_tableIn (off := 47) 48 dN_write_1 (by rw [e1]; decide) (by rw [e1]; decide) (by rw [e1]; rfl) (by decide) (k1 e1)
  by_cases e2 : x1 = 2
  · exact zw_tableIn (off := 58) 59 dN_write_1 (by rw [e2]; decide) (by rw [e2]; decide) (by rw [e2]; rfl) (by decide) (k2 e2)
  by_cases e3 : x1 = 3
  · exact zw_tableIn (off := 89) 90 dN_write_1 (by rw [e3]; decide) (by rw [e3]; decide) (by rw [e3]; rfl) (by decide) (k3 e3)
  have f0 := zNe e0 (0) (by decide)
  have f1 := zNe e1 (1) (by decide)
  have f2 := zNe e2 (2) (by decide)
  have f3 := zNe e3 (3) (by decide)
  exact zw_tableOut 103 dN_write_1 (by omega) (by decide) (kd ⟨e0, e1, e2, e3⟩)
theorem sN_write_32 {G : zG} {d : Nat} {Q : Option Value → Heap → Prop} {H : Heap} {st : List Value} {o1 : Option Value} {a0 : Nat} {vf1 : Value} {af2 : Nat} {vf3 : Value} {P : Int32 → Heap → Prop} (hrf1 : zRf vf1 := by first | exact zRf_ref | exact zRf_null | exact zRf_rf _ | assumption) (hrf3 : zRf vf3 := by first | exact zRf_ref | exact zRf_null | exact zRf_rf _ | assumption) (hf1 : zFd G H a0 0 8 vf1) (hf2 : zFd G H a0 0 8 (.ref af2)) (hf3 : zFd G H af2 2 3 vf3) (hd : 1 ≤ d) (hl : st.length ≤ 4) (ho : zIs G H a0 0) (hc : zC G (d - 1) M_N_writeAddress [(.ref a0), vf1, vf3] H (zPi P)) (kk : ∀ (r : Int32) (H1 : Heap), P r H1 → zOk G H1 → H.size ≤ H1.size → zT H ≤ zT H1 → zW G d M_N_write 47 [some (.ref a0), o1] ((.int r) :: st) H1 Q) : zW G d M_N_write 32 [some (.ref a0), o1] st H Q :=
  zw_aload_n (i := 0) dN_write_32 rfl rfl zRf_ref <| zw_aload_n (i := 0) dN_write_33 rfl rfl zRf_ref <| zw_getf dN_write_34 zf_N_69 hf1 <| zw_aload_n (i := 0) dN_write_37 rfl rfl zRf_ref <| zw_getf dN_write_38 zf_N_69 hf2 <| zw_getf dN_write_41 zf_N_128 hf3 <| zw_callV [vf1, vf3] _ dN_write_44 hd zk_N_131 ho rfl rfl hl hc (zPi_k kk)
theorem sN_write_47 {G : zG} {d : Nat} {Q : Option Value → Heap → Prop} {H : Heap} {o0 : Option Value} {o1 : Option Value} {xs0 : Int32} (hq : Q (some (.int xs0)) H) : zW G d M_N_write 47 [o0, o1] ((.int xs0) :: []) H Q :=
  zw_iret dN_write_47 .int rfl rfl hq
theorem sN_write_48 {G : zG} {d : Nat} {Q : Option Value → Heap → Prop} {H : Heap} {st : List Value} {o1 : Option Value} {a0 : Nat} {vf1 : Value} {ak2 : Nat} {P : Int32 → Heap → Prop} (hrf1 : zRf vf1 := by first | exact zRf_ref | exact zRf_null | exact zRf_rf _ | assumption) (hf1 : zFd G H a0 0 11 vf1) (hk2 : vk_R "NetDesk" 25 "" ak2 (zS G)) (hd : 1 ≤ d) (hl : st.length ≤ 4) (ho : zIs G H a0 0) (hc : zC G (d - 1) M_N_writeAddress [(.ref a0), vf1, (.ref ak2)] H (zPi P)) (kk : ∀ (r : Int32) (H1 : Heap), P r H1 → zOk G H1 → H.size ≤ H1.size → zT H ≤ zT H1 → zW G d M_N_write 58 [some (.ref a0), o1] ((.int r) :: st) H1 Q) : zW G d M_N_write 48 [some (.ref a0), o1] st H Q :=
  zw_aload_n (i := 0) dN_write_48 rfl rfl zRf_ref <| zw_aload_n (i := 0) dN_write_49 rfl rfl zRf_ref <| zw_getf dN_write_50 zf_N_79 hf1 <| zw_ldcS dN_write_53 rfl hk2 <| zw_callV [vf1, (.ref ak2)] _ dN_write_55 hd zk_N_131 ho rfl rfl hl hc (zPi_k kk)
theorem sN_write_58 {G : zG} {d : Nat} {Q : Option Value → Heap → Prop} {H : Heap} {o0 : Option Value} {o1 : Option Value} {xs0 : Int32} (hq : Q (some (.int xs0)) H) : zW G d M_N_write 58 [o0, o1] ((.int xs0) :: []) H Q :=
  zw_iret dN_write_58 .int rfl rfl hq
theorem sN_write_59 {G : zG} {d : Nat} {Q : Option Value → Heap → Prop} {H : Heap} {st : List Value} {o1 : Option Value} {a0 : Nat} {af1 : Nat} {P : Heap → Prop} (hf1 : zFd G H a0 0 1 (.ref af1)) (hd : 1 ≤ d) (hl : st.length ≤ 4) (ho : zIs G H af1 1) (hc : zC G (d - 1) M_Sb_setLength [(.ref af1), (.int (0 : Int32))] H (zPv P)) (kk : ∀ H1 : Heap, P H1 → zOk G H1 → H.size ≤ H1.size → zT H ≤ zT H1 → zW G d M_N_write 67 [some (.ref a0), o1] st H1 Q) : zW G d M_N_write 59 [some (.ref a0), o1] st H Q :=
  zw_aload_n (i := 0) dN_write_59 rfl rfl zRf_ref <| zw_getf dN_write_60 zf_N_16 hf1 <| zw_iconst (0 : Int32) dN_write_63 zki_0 <| zw_callV [(.int (0 : Int32))] _ dN_write_64 hd zk_N_107 ho rfl rfl hl hc (zPv_k kk)
theorem sN_write_67 {G : zG} {d : Nat} {Q : Option Value → Heap → Prop} {H : Heap} {st : List Value} {o1 : Option Value} {a0 : Nat} {vf1 : Value} {af2 : Nat} {P : Value → Heap → Prop} (hrf1 : zRf vf1 := by first | exact zRf_ref | exact zRf_null | exact zRf_rf _ | assumption) (hf1 : zFd G H a0 0 1 vf1) (hf2 : zFd G H a0 0 7 (.ref af2)) (hd : 1 ≤ d) (hl : (vf1 :: st).length ≤ 4) (ho : zIs G H af2 1) (hc : zC G (d - 1) M_Sb_toString [(.ref af2)] H (zPr P)) (kk : ∀ (r : Value) (H1 : Heap), zRf r → P r H1 → zOk G H1 → H.size ≤ H1.size → zT H ≤ zT H1 → zW G d M_N_write 78 [some (.ref a0), o1] (r :: vf1 :: st) H1 Q) : zW G d M_N_write 67 [some (.ref a0), o1] st H Q :=
  zw_aload_n (i := 0) dN_write_67 rfl rfl zRf_ref <| zw_getf dN_write_68 zf_N_16 hf1 <| zw_aload_n (i := 0) dN_write_71 rfl rfl zRf_ref <| zw_getf dN_write_72 zf_N_66 hf2 <| zw_callV [] _ dN_write_75 hd zk_N_187 ho rfl rfl hl hc (zPr_k kk)
theorem sN_write_78 {G : zG} {d : Nat} {Q : Option Value → Heap → Prop} {H : Heap} {st : List Value} {o0 : Option Value} {o1 : Option Value} {vs0 : Value} {as1 : Nat} {P : Value → Heap → Prop} (hrs0 : zRf vs0 := by first | exact zRf_ref | exact zRf_null | exact zRf_rf _ | assumption) (hd : 1 ≤ d) (hl : st.length ≤ 4) (ho : zIs G H as1 1) (hc : zC G (d - 1) M_Sb_append_1 [(.ref as1), vs0] H (zPr P)) (kk : ∀ (r : Value) (H1 : Heap), zRf r → P r H1 → zOk G H1 → H.size ≤ H1.size → zT H ≤ zT H1 → zW G d M_N_write 81 [o0, o1] (r :: st) H1 Q) : zW G d M_N_write 78 [o0, o1] (vs0 :: (.ref as1) :: st) H Q :=
  zw_callV [vs0] _ dN_write_78 hd zk_N_190 ho rfl rfl hl hc (zPr_k kk)
theorem sN_write_81 {G : zG} {d : Nat} {Q : Option Value → Heap → Prop} {H : Heap} {st : List Value} {o1 : Option Value} {ws0 : Value} {a0 : Nat} {af1 : Nat} {P : Int32 → Heap → Prop} (hcs0 : ws0.category = 1 := by first | rfl | exact zRf.cat (by assumption)) (hf1 : zFd G H a0 0 1 (.ref af1)) (hd : 1 ≤ d) (hl : st.length ≤ 4) (ho : zIs G H af1 1) (hc : zC G (d - 1) M_Sb_length [(.ref af1)] H (zPi P)) (kk : ∀ (r : Int32) (H1 : Heap), P r H1 → zOk G H1 → H.size ≤ H1.size → zT H ≤ zT H1 → zW G d M_N_write 89 [some (.ref a0), o1] ((.int r) :: st) H1 Q) : zW G d M_N_write 81 [some (.ref a0), o1] (ws0 :: st) H Q :=
  zw_pop dN_write_81 hcs0 <| zw_aload_n (i := 0) dN_write_82 rfl rfl zRf_ref <| zw_getf dN_write_83 zf_N_16 hf1 <| zw_callV [] _ dN_write_86 hd zk_N_99 ho rfl rfl hl hc (zPi_k kk)
theorem sN_write_89 {G : zG} {d : Nat} {Q : Option Value → Heap → Prop} {H : Heap} {o0 : Option Value} {o1 : Option Value} {xs0 : Int32} (hq : Q (some (.int xs0)) H) : zW G d M_N_write 89 [o0, o1] ((.int xs0) :: []) H Q :=
  zw_iret dN_write_89 .int rfl rfl hq
theorem sN_write_90 {G : zG} {d : Nat} {Q : Option Value → Heap → Prop} {H : Heap} {st : List Value} {o1 : Option Value} {a0 : Nat} {vf1 : Value} {vf2 : Value} {P : Int32 → Heap → Prop} (hrf1 : zRf vf1 := by first | exact zRf_ref | exact zRf_null | exact zRf_rf _ | assumption) (hrf2 : zRf vf2 := by first | exact zRf_ref | exact zRf_null | exact zRf_rf _ | assumption) (hf1 : zFd G H a0 0 13 vf1) (hf2 : zFd G H a0 0 14 vf2) (hd : 1 ≤ d) (hl : st.length ≤ 4) (ho : zIs G H a0 0) (hc : zC G (d - 1) M_N_writeAddress [(.ref a0), vf1, vf2] H (zPi P)) (kk : ∀ (r : Int32) (H1 : Heap), P r H1 → zOk G H1 → H.size ≤ H1.size → zT H ≤ zT H1 → zW G d M_N_write 102 [some (.ref a0), o1] ((.int r) :: st) H1 Q) : zW G d M_N_write 90 [some (.ref a0), o1] st H Q :=
  zw_aload_n (i := 0) dN_write_90 rfl rfl zRf_ref <| zw_aload_n (i := 0) dN_write_91 rfl rfl zRf_ref <| zw_getf dN_write_92 zf_N_85 hf1 <| zw_aload_n (i := 0) dN_write_95 rfl rfl zRf_ref <| zw_getf dN_write_96 zf_N_88 hf2 <| zw_callV [vf1, vf2] _ dN_write_99 hd zk_N_131 ho rfl rfl hl hc (zPi_k kk)
theorem sN_write_102 {G : zG} {d : Nat} {Q : Option Value → Heap → Prop} {H : Heap} {o0 : Option Value} {o1 : Option Value} {xs0 : Int32} (hq : Q (some (.int xs0)) H) : zW G d M_N_write 102 [o0, o1] ((.int xs0) :: []) H Q :=
  zw_iret dN_write_102 .int rfl rfl hq
theorem sN_write_103 {G : zG} {d : Nat} {Q : Option Value → Heap → Prop} {H : Heap} {o0 : Option Value} {o1 : Option Value} (hq : Q (some (.int (-1 : Int32))) H) : zW G d M_N_write 103 [o0, o1] [] H Q :=
  zw_iconst (-1 : Int32) dN_write_103 zki_m1 <| zw_iret dN_write_104 .int rfl rfl hq
theorem sN_count_0 {G : zG} {d : Nat} {Q : Option Value → Heap → Prop} {H : Heap} {st : List Value} {o0 : Option Value} {x1 : Int32} (k0 : (x1 = 0) → zW G d M_N_count 48 [o0, some (.int x1)] st H Q) (k1 : (x1 = 1) → zW G d M_N_count 56 [o0, some (.int x1)] st H Q) (k2 : (x1 = 2) → zW G d M_N_count 64 [o0, some (.int x1)] st H Q) (k3 : (x1 = 3) → zW G d M_N_count 72 [o0, some (.int x1)] st H Q) (k4 : (x1 = 4) → zW G d M_N_count 77 [o0, some (.int x1)] st H Q) (k5 : (x1 = 5) → zW G d M_N_count 82 [o0, some (.int x1)] st H Q) (k6 : (x1 = 6) → zW G d M_N_count 87 [o0, some (.int x1)] st H Q) (k7 : (x1 = 7) → zW G d M_N_count 103 [o0, some (.int x1)] st H Q) (kd : (¬ x1 = 0 ∧ ¬ x1 = 1 ∧ ¬ x1 = 2 ∧ ¬ x1 = 3 ∧ ¬ x1 = 4 ∧ ¬ x1 = 5 ∧ ¬ x1 = 6 ∧ ¬ x1 = 7) → zW G d M_N_count 116 [o0, some (.int x1)] st H Q) : zW G d M_N_count 0 [o0, some (.int x1)] st H Q := by
  refine zw_iload_n (i := 1) dN_count_0 rfl rfl <| ?_
  by_cases e0 : x1 = 0
  · exact zw_tableIn (off := 47) 48 dN_count_1 (by rw [e0]; decide) (by rw [e0]; decide) (by rw [e0]; rfl) (by decide) (k0 e0)
  by_cases e1 : x1 = 1
  · exact zw_tableIn (off := 55) 56 dN_count_1 (by rw [e1]; decide) (by rw [e1]; decide) (by rw [e1]; rfl) (by decide) (k1 e1)
  by_cases e2 : x1 = 2
  · exact zw_tableIn (off := 63) 64 dN_count_1 (by rw [e2]; decide) (by rw [e2]; decide) (by rw [e2]; rfl) (by decide) (k2 e2)
  by_cases e3 : x1 = 3
  · exact zw_tableIn (off := 71) 72 dN_count_1 (by rw [e3]; decide) (by rw [e3]; decide) (by rw [e3]; rfl) (by decide) (k3 e3)
  by_cases e4 : x1 = 4
  · exact zw_tableIn (off := 76) 77 dN_count_1 (by rw [e4]; decide) (by rw [e4]; decide) (by rw [e4]; rfl) (by decide) (k4 e4)
  by_cases e5 : x1 = 5
  · exact zw_tableIn (off := 81) 82 dN_count_1 (by rw [e5]; decide) (by rw [e5]; decide) (by rw [e5]; rfl) (by decide) (k5 e5)
  by_cases e6 : x1 = 6
  · exact zw_tableIn (off := 86) 87 dN_count_1 (by rw [e6]; decide) (by rw [e6]; decide) (by rw [e6]; rfl) (by decide) (k6 e6)
  by_cases e7 : x1 = 7
  · exact zw_tableIn (off := 102) 103 dN_count_1 (by rw [e7]; decide) (by rw [e7]; decide) (by rw [e7]; rfl) (by decide) (k7 e7)
  have f0 := zNe e0 (0) (by decide)
  have f1 := zNe e1 (1) (by decide)
  have f2 := zNe e2 (2) (by decide)
  have f3 := zNe e3 (3) (by decide)
  have f4 := zNe e4 (4) (by decide)
  have f5 := zNe e5 (5) (by decide)
  have f6 := zNe e6 (6) (by decide)
  have f7 := zNe e7 (7) (by decide)
  exact zw_tableOut 116 dN_count_1 (by omega) (by decide) (kd ⟨e0, e1, e2, e3, e4, e5, e6, e7⟩)
theorem sN_count_48 {G : zG} {d : Nat} {Q : Option Value → Heap → Prop} {H : Heap} {st : List Value} {o1 : Option Value} {a0 : Nat} {af1 : Nat} {P : Int32 → Heap → Prop} (hf1 : zFd G H a0 0 4 (.ref af1)) (hd : 1 ≤ d) (hl : st.length ≤ 4) (ho : zIs G H af1 5) (hc : zC G (d - 1) M_Al_size [(.ref af1)] H (zPi P)) (kk : ∀ (r : Int32) (H1 : Heap), P r H1 → zOk G H1 → H.size ≤ H1.size → zT H ≤ zT H1 → zW G d M_N_count 55 [some (.ref a0), o1] ((.int r) :: st) H1 Q) : zW G d M_N_count 48 [some (.ref a0), o1] st H Q :=
  zw_aload_n (i := 0) dN_count_48 rfl rfl zRf_ref <| zw_getf dN_count_49 zf_N_48 hf1 <| zw_callV [] _ dN_count_52 hd zk_N_165 ho rfl rfl hl hc (zPi_k kk)
theorem sN_count_55 {G : zG} {d : Nat} {Q : Option Value → Heap → Prop} {H : Heap} {o0 : Option Value} {o1 : Option Value} {xs0 : Int32} (hq : Q (some (.int xs0)) H) : zW G d M_N_count 55 [o0, o1] ((.int xs0) :: []) H Q :=
  zw_iret dN_count_55 .int rfl rfl hq
theorem sN_count_56 {G : zG} {d : Nat} {Q : Option Value → Heap → Prop} {H : Heap} {st : List Value} {o1 : Option Value} {a0 : Nat} {af1 : Nat} {P : Int32 → Heap → Prop} (hf1 : zFd G H a0 0 5 (.ref af1)) (hd : 1 ≤ d) (hl : st.length ≤ 4) (ho : zIs G H af1 6) (hc : zC G (d - 1) M_Jr_size [(.ref af1)] H (zPi P)) (kk : ∀ (r : Int32) (H1 : Heap), P r H1 → zOk G H1 → H.size ≤ H1.size → zT H ≤ zT H1 → zW G d M_N_count 63 [some (.ref a0), o1] ((.int r) :: st) H1 Q) : zW G d M_N_count 56 [some (.ref a0), o1] st H Q :=
  zw_aload_n (i := 0) dN_count_56 rfl rfl zRf_ref <| zw_getf dN_count_57 zf_N_55 hf1 <| zw_callV [] _ dN_count_60 hd zk_N_194 ho rfl rfl hl hc (zPi_k kk)
theorem sN_count_63 {G : zG} {d : Nat} {Q : Option Value → Heap → Prop} {H : Heap} {o0 : Option Value} {o1 : Option Value} {xs0 : Int32} (hq : Q (some (.int xs0)) H) : zW G d M_N_count 63 [o0, o1] ((.int xs0) :: []) H Q :=
  zw_iret dN_count_63 .int rfl rfl hq
theorem sN_count_64 {G : zG} {d : Nat} {Q : Option Value → Heap → Prop} {H : Heap} {st : List Value} {o1 : Option Value} {a0 : Nat} {af1 : Nat} {P : Int32 → Heap → Prop} (hf1 : zFd G H a0 0 6 (.ref af1)) (hd : 1 ≤ d) (hl : st.length ≤ 4) (ho : zIs G H af1 7) (hc : zC G (d - 1) M_Kp_size [(.ref af1)] H (zPi P)) (kk : ∀ (r : Int32) (H1 : Heap), P r H1 → zOk G H1 → H.size ≤ H1.size → zT H ≤ zT H1 → zW G d M_N_count 71 [some (.ref a0), o1] ((.int r) :: st) H1 Q) : zW G d M_N_count 64 [some (.ref a0), o1] st H Q :=
  zw_aload_n (i := 0) dN_count_64 rfl rfl zRf_ref <| zw_getf dN_count_65 zf_N_62 hf1 <| zw_callV [] _ dN_count_68 hd zk_N_195 ho rfl rfl hl hc (zPi_k kk)
theorem sN_count_71 {G : zG} {d : Nat} {Q : Option Value → Heap → Prop} {H : Heap} {o0 : Option Value} {o1 : Option Value} {xs0 : Int32} (hq : Q (some (.int xs0)) H) : zW G d M_N_count 71 [o0, o1] ((.int xs0) :: []) H Q :=
  zw_iret dN_count_71 .int rfl rfl hq
theorem sN_count_72 {G : zG} {d : Nat} {Q : Option Value → Heap → Prop} {H : Heap} {o1 : Option Value} {a0 : Nat} {xf1 : Int32} (hf1 : zFd G H a0 0 10 (.int xf1)) (hq : Q (some (.int xf1)) H) : zW G d M_N_count 72 [some (.ref a0), o1] [] H Q :=
  zw_aload_n (i := 0) dN_count_72 rfl rfl zRf_ref <| zw_getf dN_count_73 zf_N_76 hf1 <| zw_iret dN_count_76 .int rfl rfl hq
theorem sN_count_77 {G : zG} {d : Nat} {Q : Option Value → Heap → Prop} {H : Heap} {o1 : Option Value} {a0 : Nat} {xf1 : Int32} (hf1 : zFd G H a0 0 9 (.int xf1)) (hq : Q (some (.int xf1)) H) : zW G d M_N_count 77 [some (.ref a0), o1] [] H Q :=
  zw_aload_n (i := 0) dN_count_77 rfl rfl zRf_ref <| zw_getf dN_count_78 zf_N_72 hf1 <| zw_iret dN_count_81 .int rfl rfl hq
theorem sN_count_82 {G : zG} {d : Nat} {Q : Option Value → Heap → Prop} {H : Heap} {o1 : Option Value} {a0 : Nat} {xf1 : Int32} (hf1 : zFd G H a0 0 15 (.int xf1)) (hq : Q (some (.int xf1)) H) : zW G d M_N_count 82 [some (.ref a0), o1] [] H Q :=
  zw_aload_n (i := 0) dN_count_82 rfl rfl zRf_ref <| zw_getf dN_count_83 zf_N_92 hf1 <| zw_iret dN_count_86 .int rfl rfl hq
theorem sN_count_87 {G : zG} {d : Nat} {Q : Option Value → Heap → Prop} {H : Heap} {st : List Value} {o1 : Option Value} {a0 : Nat} {af1 : Nat} {xf2 : Int32} (hf1 : zFd G H a0 0 12 (.ref af1)) (hf2 : zFd G H af1 3 5 (.int xf2)) (kt : (xf2 = 0) → zW G d M_N_count 101 [some (.ref a0), o1] st H Q) (kf : (¬ xf2 = 0) → zW G d M_N_count 97 [some (.ref a0), o1] st H Q) : zW G d M_N_count 87 [some (.ref a0), o1] st H Q :=
  zw_aload_n (i := 0) dN_count_87 rfl rfl zRf_ref <| zw_getf dN_count_88 zf_N_82 hf1 <| zw_getf dN_count_91 zf_N_196 hf2 <| zw_if_eq 101 dN_count_94 (by decide) kt kf
theorem sN_count_97 {G : zG} {d : Nat} {Q : Option Value → Heap → Prop} {H : Heap} {o0 : Option Value} {o1 : Option Value} (hq : Q (some (.int (1 : Int32))) H) : zW G d M_N_count 97 [o0, o1] [] H Q :=
  zw_iconst (1 : Int32) dN_count_97 zki_1 <| zw_goto 102 dN_count_98 (by decide) <| zw_iret dN_count_102 .int rfl rfl hq
theorem sN_count_101 {G : zG} {d : Nat} {Q : Option Value → Heap → Prop} {H : Heap} {o0 : Option Value} {o1 : Option Value} (hq : Q (some (.int (0 : Int32))) H) : zW G d M_N_count 101 [o0, o1] [] H Q :=
  zw_iconst (0 : Int32) dN_count_101 zki_0 <| zw_iret dN_count_102 .int rfl rfl hq
theorem sN_count_102 {G : zG} {d : Nat} {Q : Option Value → Heap → Prop} {H : Heap} {o0 : Option Value} {o1 : Option Value} {xs0 : Int32} (hq : Q (some (.int xs0)) H) : zW G d M_N_count 102 [o0, o1] ((.int xs0) :: []) H Q :=
  zw_iret dN_count_102 .int rfl rfl hq
theorem sN_count_103 {G : zG} {d : Nat} {Q : Option Value → Heap → Prop} {H : Heap} {st : List Value} {o1 : Option Value} {a0 : Nat} {xf1 : Int32} (hf1 : zFd G H a0 0 16 (.int xf1)) (kt : (xf1 = 0) → zW G d M_N_count 114 [some (.ref a0), o1] st H Q) (kf : (¬ xf1 = 0) → zW G d M_N_count 110 [some (.ref a0), o1] st H Q) : zW G d M_N_count 103 [some (.ref a0), o1] st H Q :=
  zw_aload_n (i := 0) dN_count_103 rfl rfl zRf_ref <| zw_getf dN_count_104 zf_N_95 hf1 <| zw_if_eq 114 dN_count_107 (by decide) kt kf
theorem sN_count_110 {G : zG} {d : Nat} {Q : Option Value → Heap → Prop} {H : Heap} {o0 : Option Value} {o1 : Option Value} (hq : Q (some (.int (1 : Int32))) H) : zW G d M_N_count 110 [o0, o1] [] H Q :=
  zw_iconst (1 : Int32) dN_count_110 zki_1 <| zw_goto 115 dN_count_111 (by decide) <| zw_iret dN_count_115 .int rfl rfl hq
theorem sN_count_114 {G : zG} {d : Nat} {Q : Option Value → Heap → Prop} {H : Heap} {o0 : Option Value} {o1 : Option Value} (hq : Q (some (.int (0 : Int32))) H) : zW G d M_N_count 114 [o0, o1] [] H Q :=
  zw_iconst (0 : Int32) dN_count_114 zki_0 <| zw_iret dN_count_115 .int rfl rfl hq
theorem sN_count_115 {G : zG} {d : Nat} {Q : Option Value → Heap → Prop} {H : Heap} {o0 : Option Value} {o1 : Option Value} {xs0 : Int32} (hq : Q (some (.int xs0)) H) : zW G d M_N_count 115 [o0, o1] ((.int xs0) :: []) H Q :=
  zw_iret dN_count_115 .int rfl rfl hq
theorem sN_count_116 {G : zG} {d : Nat} {Q : Option Value → Heap → Prop} {H : Heap} {o0 : Option Value} {o1 : Option Value} (hq : Q (some (.int (-1 : Int32))) H) : zW G d M_N_count 116 [o0, o1] [] H Q :=
  zw_iconst (-1 : Int32) dN_count_116 zki_m1 <| zw_iret dN_count_117 .int rfl rfl hq
theorem sJr_size_0 {G : zG} {d : Nat} {Q : Option Value → Heap → Prop} {H : Heap} {st : List Value} {a0 : Nat} {af1 : Nat} {P : Int32 → Heap → Prop} (hf1 : zFd G H a0 6 0 (.ref af1)) (hd : 1 ≤ d) (hl : st.length ≤ 4) (ho : zIs G H af1 5) (hc : zC G (d - 1) M_Al_size [(.ref af1)] H (zPi P)) (kk : ∀ (r : Int32) (H1 : Heap), P r H1 → zOk G H1 → H.size ≤ H1.size → zT H ≤ zT H1 → zW G d M_Jr_size 7 [some (.ref a0)] ((.int r) :: st) H1 Q) : zW G d M_Jr_size 0 [some (.ref a0)] st H Q :=
  zw_aload_n (i := 0) dJr_size_0 rfl rfl zRf_ref <| zw_getf dJr_size_1 zf_Jr_12 hf1 <| zw_callV [] _ dJr_size_4 hd zk_Jr_18 ho rfl rfl hl hc (zPi_k kk)
theorem sJr_size_7 {G : zG} {d : Nat} {Q : Option Value → Heap → Prop} {H : Heap} {o0 : Option Value} {xs0 : Int32} (hq : Q (some (.int xs0)) H) : zW G d M_Jr_size 7 [o0] ((.int xs0) :: []) H Q :=
  zw_iret dJr_size_7 .int rfl rfl hq
theorem sKp_size_0 {G : zG} {d : Nat} {Q : Option Value → Heap → Prop} {H : Heap} {st : List Value} {a0 : Nat} {af1 : Nat} {P : Int32 → Heap → Prop} (hf1 : zFd G H a0 7 0 (.ref af1)) (hd : 1 ≤ d) (hl : st.length ≤ 4) (ho : zIs G H af1 5) (hc : zC G (d - 1) M_Al_size [(.ref af1)] H (zPi P)) (kk : ∀ (r : Int32) (H1 : Heap), P r H1 → zOk G H1 → H.size ≤ H1.size → zT H ≤ zT H1 → zW G d M_Kp_size 7 [some (.ref a0)] ((.int r) :: st) H1 Q) : zW G d M_Kp_size 0 [some (.ref a0)] st H Q :=
  zw_aload_n (i := 0) dKp_size_0 rfl rfl zRf_ref <| zw_getf dKp_size_1 zf_Kp_12 hf1 <| zw_callV [] _ dKp_size_4 hd zk_Kp_18 ho rfl rfl hl hc (zPi_k kk)
theorem sKp_size_7 {G : zG} {d : Nat} {Q : Option Value → Heap → Prop} {H : Heap} {o0 : Option Value} {xs0 : Int32} (hq : Q (some (.int xs0)) H) : zW G d M_Kp_size 7 [o0] ((.int xs0) :: []) H Q :=
  zw_iret dKp_size_7 .int rfl rfl hq


