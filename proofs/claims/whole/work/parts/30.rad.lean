theorem dAd_init_0 : decode prog_2_method_1_code 0 = .ok (.aload_n 0, 1) := by decide +kernel
theorem dAd_init_1 : decode prog_2_method_1_code 1 = .ok (.invokespecial 1, 3) := by decide +kernel
theorem dAd_init_4 : decode prog_2_method_1_code 4 = .ok (.aload_n 0, 1) := by decide +kernel
theorem dAd_init_5 : decode prog_2_method_1_code 5 = .ok (.aload_n 1, 1) := by decide +kernel
theorem dAd_init_6 : decode prog_2_method_1_code 6 = .ok (.putfield 7, 3) := by decide +kernel
theorem dAd_init_9 : decode prog_2_method_1_code 9 = .ok (.aload_n 0, 1) := by decide +kernel
theorem dAd_init_10 : decode prog_2_method_1_code 10 = .ok (.aload_n 2, 1) := by decide +kernel
theorem dAd_init_11 : decode prog_2_method_1_code 11 = .ok (.putfield 13, 3) := by decide +kernel
theorem dAd_init_14 : decode prog_2_method_1_code 14 = .ok (.aload_n 0, 1) := by decide +kernel
theorem dAd_init_15 : decode prog_2_method_1_code 15 = .ok (.aload_n 3, 1) := by decide +kernel
theorem dAd_init_16 : decode prog_2_method_1_code 16 = .ok (.putfield 16, 3) := by decide +kernel
theorem dAd_init_19 : decode prog_2_method_1_code 19 = .ok (.aload_n 0, 1) := by decide +kernel
theorem dAd_init_20 : decode prog_2_method_1_code 20 = .ok (.aload 4, 2) := by decide +kernel
theorem dAd_init_22 : decode prog_2_method_1_code 22 = .ok (.putfield 19, 3) := by decide +kernel
theorem dAd_init_25 : decode prog_2_method_1_code 25 = .ok (.return_, 1) := by decide +kernel
theorem dTx_badByte_0 : decode prog_11_method_2_code 0 = .ok (.iconst 0, 1) := by decide +kernel
theorem dTx_badByte_1 : decode prog_11_method_2_code 1 = .ok (.istore_n 1, 1) := by decide +kernel
theorem dTx_badByte_2 : decode prog_11_method_2_code 2 = .ok (.iload_n 1, 1) := by decide +kernel
theorem dTx_badByte_3 : decode prog_11_method_2_code 3 = .ok (.aload_n 0, 1) := by decide +kernel
theorem dTx_badByte_4 : decode prog_11_method_2_code 4 = .ok (.invokevirtual 9, 3) := by decide +kernel
theorem dTx_badByte_7 : decode prog_11_method_2_code 7 = .ok (.if_icmp .ge 35, 3) := by decide +kernel
theorem dTx_badByte_10 : decode prog_11_method_2_code 10 = .ok (.aload_n 0, 1) := by decide +kernel
theorem dTx_badByte_11 : decode prog_11_method_2_code 11 = .ok (.iload_n 1, 1) := by decide +kernel
theorem dTx_badByte_12 : decode prog_11_method_2_code 12 = .ok (.invokevirtual 15, 3) := by decide +kernel
theorem dTx_badByte_15 : decode prog_11_method_2_code 15 = .ok (.istore_n 2, 1) := by decide +kernel
theorem dTx_badByte_16 : decode prog_11_method_2_code 16 = .ok (.iload_n 2, 1) := by decide +kernel
theorem dTx_badByte_17 : decode prog_11_method_2_code 17 = .ok (.bipush 10, 2) := by decide +kernel
theorem dTx_badByte_19 : decode prog_11_method_2_code 19 = .ok (.if_icmp .eq 17, 3) := by decide +kernel
theorem dTx_badByte_22 : decode prog_11_method_2_code 22 = .ok (.iload_n 2, 1) := by decide +kernel
theorem dTx_badByte_23 : decode prog_11_method_2_code 23 = .ok (.bipush 32, 2) := by decide +kernel
theorem dTx_badByte_25 : decode prog_11_method_2_code 25 = .ok (.if_icmp .lt 9, 3) := by decide +kernel
theorem dTx_badByte_28 : decode prog_11_method_2_code 28 = .ok (.iload_n 2, 1) := by decide +kernel
theorem dTx_badByte_29 : decode prog_11_method_2_code 29 = .ok (.bipush 126, 2) := by decide +kernel
theorem dTx_badByte_31 : decode prog_11_method_2_code 31 = .ok (.if_icmp .le 5, 3) := by decide +kernel
theorem dTx_badByte_34 : decode prog_11_method_2_code 34 = .ok (.iload_n 1, 1) := by decide +kernel
theorem dTx_badByte_35 : decode prog_11_method_2_code 35 = .ok (.ireturn, 1) := by decide +kernel
theorem dTx_badByte_36 : decode prog_11_method_2_code 36 = .ok (.iinc 1 1, 3) := by decide +kernel
theorem dTx_badByte_39 : decode prog_11_method_2_code 39 = .ok (.goto (-37), 3) := by decide +kernel
theorem dTx_badByte_42 : decode prog_11_method_2_code 42 = .ok (.iconst (-1), 1) := by decide +kernel
theorem dTx_badByte_43 : decode prog_11_method_2_code 43 = .ok (.ireturn, 1) := by decide +kernel
theorem dAd_read_0 : decode prog_2_method_2_code 0 = .ok (.aload_n 0, 1) := by decide +kernel
theorem dAd_read_1 : decode prog_2_method_2_code 1 = .ok (.bipush 35, 2) := by decide +kernel
theorem dAd_read_3 : decode prog_2_method_2_code 3 = .ok (.invokestatic 22, 3) := by decide +kernel
theorem dAd_read_6 : decode prog_2_method_2_code 6 = .ok (.istore_n 2, 1) := by decide +kernel
theorem dAd_read_7 : decode prog_2_method_2_code 7 = .ok (.aload_n 0, 1) := by decide +kernel
theorem dAd_read_8 : decode prog_2_method_2_code 8 = .ok (.bipush 63, 2) := by decide +kernel
theorem dAd_read_10 : decode prog_2_method_2_code 10 = .ok (.invokestatic 22, 3) := by decide +kernel
theorem dAd_read_13 : decode prog_2_method_2_code 13 = .ok (.iload_n 2, 1) := by decide +kernel
theorem dAd_read_14 : decode prog_2_method_2_code 14 = .ok (.invokestatic 26, 3) := by decide +kernel
theorem dAd_read_17 : decode prog_2_method_2_code 17 = .ok (.istore_n 3, 1) := by decide +kernel
theorem dAd_read_18 : decode prog_2_method_2_code 18 = .ok (.aload_n 0, 1) := by decide +kernel
theorem dAd_read_19 : decode prog_2_method_2_code 19 = .ok (.iconst 0, 1) := by decide +kernel
theorem dAd_read_20 : decode prog_2_method_2_code 20 = .ok (.iload_n 3, 1) := by decide +kernel
theorem dAd_read_21 : decode prog_2_method_2_code 21 = .ok (.invokevirtual 32, 3) := by decide +kernel
theorem dAd_read_24 : decode prog_2_method_2_code 24 = .ok (.astore 4, 2) := by decide +kernel
theorem dAd_read_26 : decode prog_2_method_2_code 26 = .ok (.aload_n 0, 1) := by decide +kernel
theorem dAd_read_27 : decode prog_2_method_2_code 27 = .ok (.iload_n 3, 1) := by decide +kernel
theorem dAd_read_28 : decode prog_2_method_2_code 28 = .ok (.iload_n 2, 1) := by decide +kernel
theorem dAd_read_29 : decode prog_2_method_2_code 29 = .ok (.invokevirtual 32, 3) := by decide +kernel
theorem dAd_read_32 : decode prog_2_method_2_code 32 = .ok (.astore 5, 2) := by decide +kernel
theorem dAd_read_34 : decode prog_2_method_2_code 34 = .ok (.aload_n 0, 1) := by decide +kernel
theorem dAd_read_35 : decode prog_2_method_2_code 35 = .ok (.iload_n 2, 1) := by decide +kernel
theorem dAd_read_36 : decode prog_2_method_2_code 36 = .ok (.invokevirtual 38, 3) := by decide +kernel
theorem dAd_read_39 : decode prog_2_method_2_code 39 = .ok (.astore 6, 2) := by decide +kernel
theorem dAd_read_41 : decode prog_2_method_2_code 41 = .ok (.aload 5, 2) := by decide +kernel
theorem dAd_read_43 : decode prog_2_method_2_code 43 = .ok (.invokestatic 41, 3) := by decide +kernel
theorem dAd_read_46 : decode prog_2_method_2_code 46 = .ok (.ifCond .eq 23, 3) := by decide +kernel
theorem dAd_read_49 : decode prog_2_method_2_code 49 = .ok (.aload 6, 2) := by decide +kernel
theorem dAd_read_51 : decode prog_2_method_2_code 51 = .ok (.invokevirtual 45, 3) := by decide +kernel
theorem dAd_read_54 : decode prog_2_method_2_code 54 = .ok (.ifCond .ne 17, 3) := by decide +kernel
theorem dAd_read_57 : decode prog_2_method_2_code 57 = .ok (.aload 6, 2) := by decide +kernel
theorem dAd_read_59 : decode prog_2_method_2_code 59 = .ok (.iconst 1, 1) := by decide +kernel
theorem dAd_read_60 : decode prog_2_method_2_code 60 = .ok (.invokevirtual 38, 3) := by decide +kernel
theorem dAd_read_63 : decode prog_2_method_2_code 63 = .ok (.invokestatic 49, 3) := by decide +kernel
theorem dAd_read_66 : decode prog_2_method_2_code 66 = .ok (.ifCond .ne 5, 3) := by decide +kernel
theorem dAd_read_69 : decode prog_2_method_2_code 69 = .ok (.aconst_null, 1) := by decide +kernel
theorem dAd_read_70 : decode prog_2_method_2_code 70 = .ok (.areturn, 1) := by decide +kernel
theorem dAd_read_71 : decode prog_2_method_2_code 71 = .ok (.aload 4, 2) := by decide +kernel
theorem dAd_read_73 : decode prog_2_method_2_code 73 = .ok (.invokevirtual 45, 3) := by decide +kernel
theorem dAd_read_76 : decode prog_2_method_2_code 76 = .ok (.ifCond .eq 38, 3) := by decide +kernel
theorem dAd_read_79 : decode prog_2_method_2_code 79 = .ok (.new 8, 3) := by decide +kernel
theorem dAd_read_82 : decode prog_2_method_2_code 82 = .ok (.dup, 1) := by decide +kernel
theorem dAd_read_83 : decode prog_2_method_2_code 83 = .ok (.aload_n 1, 1) := by decide +kernel
theorem dAd_read_84 : decode prog_2_method_2_code 84 = .ok (.getfield 7, 3) := by decide +kernel
theorem dAd_read_87 : decode prog_2_method_2_code 87 = .ok (.aload_n 1, 1) := by decide +kernel
theorem dAd_read_88 : decode prog_2_method_2_code 88 = .ok (.getfield 13, 3) := by decide +kernel
theorem dAd_read_91 : decode prog_2_method_2_code 91 = .ok (.aload 5, 2) := by decide +kernel
theorem dAd_read_93 : decode prog_2_method_2_code 93 = .ok (.invokevirtual 45, 3) := by decide +kernel
theorem dAd_read_96 : decode prog_2_method_2_code 96 = .ok (.ifCond .eq 10, 3) := by decide +kernel
theorem dAd_read_99 : decode prog_2_method_2_code 99 = .ok (.aload_n 1, 1) := by decide +kernel
theorem dAd_read_100 : decode prog_2_method_2_code 100 = .ok (.getfield 16, 3) := by decide +kernel
theorem dAd_read_103 : decode prog_2_method_2_code 103 = .ok (.goto 5, 3) := by decide +kernel
theorem dAd_read_106 : decode prog_2_method_2_code 106 = .ok (.aload 5, 2) := by decide +kernel
theorem dAd_read_108 : decode prog_2_method_2_code 108 = .ok (.aload 6, 2) := by decide +kernel
theorem dAd_read_110 : decode prog_2_method_2_code 110 = .ok (.invokespecial 54, 3) := by decide +kernel
theorem dAd_read_113 : decode prog_2_method_2_code 113 = .ok (.areturn, 1) := by decide +kernel
theorem dAd_read_114 : decode prog_2_method_2_code 114 = .ok (.aload_n 1, 1) := by decide +kernel
theorem dAd_read_115 : decode prog_2_method_2_code 115 = .ok (.getfield 7, 3) := by decide +kernel
theorem dAd_read_118 : decode prog_2_method_2_code 118 = .ok (.astore 7, 2) := by decide +kernel
theorem dAd_read_120 : decode prog_2_method_2_code 120 = .ok (.aload 4, 2) := by decide +kernel
theorem dAd_read_122 : decode prog_2_method_2_code 122 = .ok (.astore 8, 2) := by decide +kernel
theorem dAd_read_124 : decode prog_2_method_2_code 124 = .ok (.new 57, 3) := by decide +kernel
theorem dAd_read_127 : decode prog_2_method_2_code 127 = .ok (.dup, 1) := by decide +kernel
theorem dAd_read_128 : decode prog_2_method_2_code 128 = .ok (.invokespecial 59, 3) := by decide +kernel
theorem dAd_read_131 : decode prog_2_method_2_code 131 = .ok (.astore 9, 2) := by decide +kernel
theorem dAd_read_133 : decode prog_2_method_2_code 133 = .ok (.aload 4, 2) := by decide +kernel
theorem dAd_read_135 : decode prog_2_method_2_code 135 = .ok (.ldc 60, 2) := by decide +kernel
theorem dAd_read_137 : decode prog_2_method_2_code 137 = .ok (.invokestatic 62, 3) := by decide +kernel
theorem dAd_read_140 : decode prog_2_method_2_code 140 = .ok (.ifCond .eq 59, 3) := by decide +kernel
theorem dAd_read_143 : decode prog_2_method_2_code 143 = .ok (.aload 4, 2) := by decide +kernel
theorem dAd_read_145 : decode prog_2_method_2_code 145 = .ok (.iconst 2, 1) := by decide +kernel
theorem dAd_read_146 : decode prog_2_method_2_code 146 = .ok (.invokevirtual 38, 3) := by decide +kernel
theorem dAd_read_149 : decode prog_2_method_2_code 149 = .ok (.astore 10, 2) := by decide +kernel
theorem dAd_read_151 : decode prog_2_method_2_code 151 = .ok (.aload 10, 2) := by decide +kernel
theorem dAd_read_153 : decode prog_2_method_2_code 153 = .ok (.bipush 47, 2) := by decide +kernel
theorem dAd_read_155 : decode prog_2_method_2_code 155 = .ok (.invokestatic 22, 3) := by decide +kernel
theorem dAd_read_158 : decode prog_2_method_2_code 158 = .ok (.istore 11, 2) := by decide +kernel
theorem dAd_read_160 : decode prog_2_method_2_code 160 = .ok (.aload 10, 2) := by decide +kernel
theorem dAd_read_162 : decode prog_2_method_2_code 162 = .ok (.iconst 0, 1) := by decide +kernel
theorem dAd_read_163 : decode prog_2_method_2_code 163 = .ok (.iload 11, 2) := by decide +kernel
theorem dAd_read_165 : decode prog_2_method_2_code 165 = .ok (.invokevirtual 32, 3) := by decide +kernel
theorem dAd_read_168 : decode prog_2_method_2_code 168 = .ok (.astore 7, 2) := by decide +kernel
theorem dAd_read_170 : decode prog_2_method_2_code 170 = .ok (.iload 11, 2) := by decide +kernel
theorem dAd_read_172 : decode prog_2_method_2_code 172 = .ok (.aload 10, 2) := by decide +kernel
theorem dAd_read_174 : decode prog_2_method_2_code 174 = .ok (.invokevirtual 66, 3) := by decide +kernel
theorem dAd_read_177 : decode prog_2_method_2_code 177 = .ok (.if_icmp .ge 15, 3) := by decide +kernel
theorem dAd_read_180 : decode prog_2_method_2_code 180 = .ok (.aload 10, 2) := by decide +kernel
theorem dAd_read_182 : decode prog_2_method_2_code 182 = .ok (.iload 11, 2) := by decide +kernel
theorem dAd_read_184 : decode prog_2_method_2_code 184 = .ok (.iconst 1, 1) := by decide +kernel
theorem dAd_read_185 : decode prog_2_method_2_code 185 = .ok (.iadd, 1) := by decide +kernel
theorem dAd_read_186 : decode prog_2_method_2_code 186 = .ok (.invokevirtual 38, 3) := by decide +kernel
theorem dAd_read_189 : decode prog_2_method_2_code 189 = .ok (.goto 5, 3) := by decide +kernel
theorem dAd_read_192 : decode prog_2_method_2_code 192 = .ok (.ldc 70, 2) := by decide +kernel
theorem dAd_read_194 : decode prog_2_method_2_code 194 = .ok (.astore 8, 2) := by decide +kernel
theorem dAd_read_196 : decode prog_2_method_2_code 196 = .ok (.goto 30, 3) := by decide +kernel
theorem dAd_read_199 : decode prog_2_method_2_code 199 = .ok (.aload 4, 2) := by decide +kernel
theorem dAd_read_201 : decode prog_2_method_2_code 201 = .ok (.ldc 72, 2) := by decide +kernel
theorem dAd_read_203 : decode prog_2_method_2_code 203 = .ok (.invokestatic 62, 3) := by decide +kernel
theorem dAd_read_206 : decode prog_2_method_2_code 206 = .ok (.ifCond .eq 14, 3) := by decide +kernel
theorem dAd_read_209 : decode prog_2_method_2_code 209 = .ok (.aload 4, 2) := by decide +kernel
theorem dAd_read_211 : decode prog_2_method_2_code 211 = .ok (.iconst 1, 1) := by decide +kernel
theorem dAd_read_212 : decode prog_2_method_2_code 212 = .ok (.invokevirtual 38, 3) := by decide +kernel
theorem dAd_read_215 : decode prog_2_method_2_code 215 = .ok (.astore 8, 2) := by decide +kernel
theorem dAd_read_217 : decode prog_2_method_2_code 217 = .ok (.goto 9, 3) := by decide +kernel
theorem dAd_read_220 : decode prog_2_method_2_code 220 = .ok (.aload 9, 2) := by decide +kernel
theorem dAd_read_222 : decode prog_2_method_2_code 222 = .ok (.aload_n 1, 1) := by decide +kernel
theorem dAd_read_223 : decode prog_2_method_2_code 223 = .ok (.invokevirtual 74, 3) := by decide +kernel
theorem dAd_read_226 : decode prog_2_method_2_code 226 = .ok (.aload 7, 2) := by decide +kernel
theorem dAd_read_228 : decode prog_2_method_2_code 228 = .ok (.invokestatic 49, 3) := by decide +kernel
theorem dAd_read_231 : decode prog_2_method_2_code 231 = .ok (.ifCond .eq 13, 3) := by decide +kernel
theorem dAd_read_234 : decode prog_2_method_2_code 234 = .ok (.aload 9, 2) := by decide +kernel
theorem dAd_read_236 : decode prog_2_method_2_code 236 = .ok (.aload 8, 2) := by decide +kernel
theorem dAd_read_238 : decode prog_2_method_2_code 238 = .ok (.invokevirtual 78, 3) := by decide +kernel
theorem dAd_read_241 : decode prog_2_method_2_code 241 = .ok (.ifCond .ne 5, 3) := by decide +kernel
theorem dAd_read_244 : decode prog_2_method_2_code 244 = .ok (.aconst_null, 1) := by decide +kernel
theorem dAd_read_245 : decode prog_2_method_2_code 245 = .ok (.areturn, 1) := by decide +kernel
theorem dAd_read_246 : decode prog_2_method_2_code 246 = .ok (.new 8, 3) := by decide +kernel
theorem dAd_read_249 : decode prog_2_method_2_code 249 = .ok (.dup, 1) := by decide +kernel
theorem dAd_read_250 : decode prog_2_method_2_code 250 = .ok (.aload 7, 2) := by decide +kernel
theorem dAd_read_252 : decode prog_2_method_2_code 252 = .ok (.aload 9, 2) := by decide +kernel
theorem dAd_read_254 : decode prog_2_method_2_code 254 = .ok (.getfield 81, 3) := by decide +kernel
theorem dAd_read_257 : decode prog_2_method_2_code 257 = .ok (.invokevirtual 85, 3) := by decide +kernel
theorem dAd_read_260 : decode prog_2_method_2_code 260 = .ok (.aload 5, 2) := by decide +kernel
theorem dAd_read_262 : decode prog_2_method_2_code 262 = .ok (.aload 6, 2) := by decide +kernel
theorem dAd_read_264 : decode prog_2_method_2_code 264 = .ok (.invokespecial 54, 3) := by decide +kernel
theorem dAd_read_267 : decode prog_2_method_2_code 267 = .ok (.areturn, 1) := by decide +kernel
theorem dAd_placeOrLength_0 : decode prog_2_method_6_code 0 = .ok (.aload_n 0, 1) := by decide +kernel
theorem dAd_placeOrLength_1 : decode prog_2_method_6_code 1 = .ok (.iload_n 1, 1) := by decide +kernel
theorem dAd_placeOrLength_2 : decode prog_2_method_6_code 2 = .ok (.invokevirtual 103, 3) := by decide +kernel
theorem dAd_placeOrLength_5 : decode prog_2_method_6_code 5 = .ok (.istore_n 2, 1) := by decide +kernel
theorem dAd_placeOrLength_6 : decode prog_2_method_6_code 6 = .ok (.iload_n 2, 1) := by decide +kernel
theorem dAd_placeOrLength_7 : decode prog_2_method_6_code 7 = .ok (.ifCond .ge 10, 3) := by decide +kernel
theorem dAd_placeOrLength_10 : decode prog_2_method_6_code 10 = .ok (.aload_n 0, 1) := by decide +kernel
theorem dAd_placeOrLength_11 : decode prog_2_method_6_code 11 = .ok (.invokevirtual 66, 3) := by decide +kernel
theorem dAd_placeOrLength_14 : decode prog_2_method_6_code 14 = .ok (.goto 4, 3) := by decide +kernel
theorem dAd_placeOrLength_17 : decode prog_2_method_6_code 17 = .ok (.iload_n 2, 1) := by decide +kernel
theorem dAd_placeOrLength_18 : decode prog_2_method_6_code 18 = .ok (.ireturn, 1) := by decide +kernel
theorem dAd_isQuery_0 : decode prog_2_method_7_code 0 = .ok (.aload_n 0, 1) := by decide +kernel
theorem dAd_isQuery_1 : decode prog_2_method_7_code 1 = .ok (.invokevirtual 45, 3) := by decide +kernel
theorem dAd_isQuery_4 : decode prog_2_method_7_code 4 = .ok (.ifCond .ne 25, 3) := by decide +kernel
theorem dAd_isQuery_7 : decode prog_2_method_7_code 7 = .ok (.aload_n 0, 1) := by decide +kernel
theorem dAd_isQuery_8 : decode prog_2_method_7_code 8 = .ok (.invokevirtual 66, 3) := by decide +kernel
theorem dAd_isQuery_11 : decode prog_2_method_7_code 11 = .ok (.bipush 41, 2) := by decide +kernel
theorem dAd_isQuery_13 : decode prog_2_method_7_code 13 = .ok (.if_icmp .gt 20, 3) := by decide +kernel
theorem dAd_isQuery_16 : decode prog_2_method_7_code 16 = .ok (.aload_n 0, 1) := by decide +kernel
theorem dAd_isQuery_17 : decode prog_2_method_7_code 17 = .ok (.iconst 1, 1) := by decide +kernel
theorem dAd_isQuery_18 : decode prog_2_method_7_code 18 = .ok (.invokevirtual 38, 3) := by decide +kernel
theorem dAd_isQuery_21 : decode prog_2_method_7_code 21 = .ok (.ldc 107, 2) := by decide +kernel
theorem dAd_isQuery_23 : decode prog_2_method_7_code 23 = .ok (.invokestatic 109, 3) := by decide +kernel
theorem dAd_isQuery_26 : decode prog_2_method_7_code 26 = .ok (.ifCond .eq 7, 3) := by decide +kernel
theorem dAd_isQuery_29 : decode prog_2_method_7_code 29 = .ok (.iconst 1, 1) := by decide +kernel
theorem dAd_isQuery_30 : decode prog_2_method_7_code 30 = .ok (.goto 4, 3) := by decide +kernel
theorem dAd_isQuery_33 : decode prog_2_method_7_code 33 = .ok (.iconst 0, 1) := by decide +kernel
theorem dAd_isQuery_34 : decode prog_2_method_7_code 34 = .ok (.ireturn, 1) := by decide +kernel
theorem dTx_hasOnly_0 : decode prog_11_method_7_code 0 = .ok (.iconst 0, 1) := by decide +kernel
theorem dTx_hasOnly_1 : decode prog_11_method_7_code 1 = .ok (.istore_n 2, 1) := by decide +kernel
theorem dTx_hasOnly_2 : decode prog_11_method_7_code 2 = .ok (.iload_n 2, 1) := by decide +kernel
theorem dTx_hasOnly_3 : decode prog_11_method_7_code 3 = .ok (.aload_n 0, 1) := by decide +kernel
theorem dTx_hasOnly_4 : decode prog_11_method_7_code 4 = .ok (.invokevirtual 9, 3) := by decide +kernel
theorem dTx_hasOnly_7 : decode prog_11_method_7_code 7 = .ok (.if_icmp .ge 39, 3) := by decide +kernel
theorem dTx_hasOnly_10 : decode prog_11_method_7_code 10 = .ok (.aload_n 0, 1) := by decide +kernel
theorem dTx_hasOnly_11 : decode prog_11_method_7_code 11 = .ok (.iload_n 2, 1) := by decide +kernel
theorem dTx_hasOnly_12 : decode prog_11_method_7_code 12 = .ok (.invokevirtual 15, 3) := by decide +kernel
theorem dTx_hasOnly_15 : decode prog_11_method_7_code 15 = .ok (.istore_n 3, 1) := by decide +kernel
theorem dTx_hasOnly_16 : decode prog_11_method_7_code 16 = .ok (.iload_n 3, 1) := by decide +kernel
theorem dTx_hasOnly_17 : decode prog_11_method_7_code 17 = .ok (.invokestatic 19, 3) := by decide +kernel
theorem dTx_hasOnly_20 : decode prog_11_method_7_code 20 = .ok (.ifCond .ne 20, 3) := by decide +kernel
theorem dTx_hasOnly_23 : decode prog_11_method_7_code 23 = .ok (.iload_n 3, 1) := by decide +kernel
theorem dTx_hasOnly_24 : decode prog_11_method_7_code 24 = .ok (.invokestatic 25, 3) := by decide +kernel
theorem dTx_hasOnly_27 : decode prog_11_method_7_code 27 = .ok (.ifCond .ne 13, 3) := by decide +kernel
theorem dTx_hasOnly_30 : decode prog_11_method_7_code 30 = .ok (.aload_n 1, 1) := by decide +kernel
theorem dTx_hasOnly_31 : decode prog_11_method_7_code 31 = .ok (.iload_n 3, 1) := by decide +kernel
theorem dTx_hasOnly_32 : decode prog_11_method_7_code 32 = .ok (.invokevirtual 36, 3) := by decide +kernel
theorem dTx_hasOnly_35 : decode prog_11_method_7_code 35 = .ok (.ifCond .ge 5, 3) := by decide +kernel
theorem dTx_hasOnly_38 : decode prog_11_method_7_code 38 = .ok (.iconst 0, 1) := by decide +kernel
theorem dTx_hasOnly_39 : decode prog_11_method_7_code 39 = .ok (.ireturn, 1) := by decide +kernel
theorem dTx_hasOnly_40 : decode prog_11_method_7_code 40 = .ok (.iinc 2 1, 3) := by decide +kernel
theorem dTx_hasOnly_43 : decode prog_11_method_7_code 43 = .ok (.goto (-41), 3) := by decide +kernel
theorem dTx_hasOnly_46 : decode prog_11_method_7_code 46 = .ok (.iconst 1, 1) := by decide +kernel
theorem dTx_hasOnly_47 : decode prog_11_method_7_code 47 = .ok (.ireturn, 1) := by decide +kernel
theorem dTx_isSmallLetter_0 : decode prog_11_method_9_code 0 = .ok (.iload_n 0, 1) := by decide +kernel
theorem dTx_isSmallLetter_1 : decode prog_11_method_9_code 1 = .ok (.bipush 97, 2) := by decide +kernel
theorem dTx_isSmallLetter_3 : decode prog_11_method_9_code 3 = .ok (.if_icmp .lt 13, 3) := by decide +kernel
theorem dTx_isSmallLetter_6 : decode prog_11_method_9_code 6 = .ok (.iload_n 0, 1) := by decide +kernel
theorem dTx_isSmallLetter_7 : decode prog_11_method_9_code 7 = .ok (.bipush 122, 2) := by decide +kernel
theorem dTx_isSmallLetter_9 : decode prog_11_method_9_code 9 = .ok (.if_icmp .gt 7, 3) := by decide +kernel
theorem dTx_isSmallLetter_12 : decode prog_11_method_9_code 12 = .ok (.iconst 1, 1) := by decide +kernel
theorem dTx_isSmallLetter_13 : decode prog_11_method_9_code 13 = .ok (.goto 4, 3) := by decide +kernel
theorem dTx_isSmallLetter_16 : decode prog_11_method_9_code 16 = .ok (.iconst 0, 1) := by decide +kernel
theorem dTx_isSmallLetter_17 : decode prog_11_method_9_code 17 = .ok (.ireturn, 1) := by decide +kernel
theorem dTx_isDigit_0 : decode prog_11_method_10_code 0 = .ok (.iload_n 0, 1) := by decide +kernel
theorem dTx_isDigit_1 : decode prog_11_method_10_code 1 = .ok (.bipush 48, 2) := by decide +kernel
theorem dTx_isDigit_3 : decode prog_11_method_10_code 3 = .ok (.if_icmp .lt 13, 3) := by decide +kernel
theorem dTx_isDigit_6 : decode prog_11_method_10_code 6 = .ok (.iload_n 0, 1) := by decide +kernel
theorem dTx_isDigit_7 : decode prog_11_method_10_code 7 = .ok (.bipush 57, 2) := by decide +kernel
theorem dTx_isDigit_9 : decode prog_11_method_10_code 9 = .ok (.if_icmp .gt 7, 3) := by decide +kernel
theorem dTx_isDigit_12 : decode prog_11_method_10_code 12 = .ok (.iconst 1, 1) := by decide +kernel
theorem dTx_isDigit_13 : decode prog_11_method_10_code 13 = .ok (.goto 4, 3) := by decide +kernel
theorem dTx_isDigit_16 : decode prog_11_method_10_code 16 = .ok (.iconst 0, 1) := by decide +kernel
theorem dTx_isDigit_17 : decode prog_11_method_10_code 17 = .ok (.ireturn, 1) := by decide +kernel
theorem dTx_isName_0 : decode prog_11_method_4_code 0 = .ok (.aload_n 0, 1) := by decide +kernel
theorem dTx_isName_1 : decode prog_11_method_4_code 1 = .ok (.invokestatic 32, 3) := by decide +kernel
theorem dTx_isName_4 : decode prog_11_method_4_code 4 = .ok (.iconst (-1), 1) := by decide +kernel
theorem dTx_isName_5 : decode prog_11_method_4_code 5 = .ok (.if_icmp .ne 7, 3) := by decide +kernel
theorem dTx_isName_8 : decode prog_11_method_4_code 8 = .ok (.iconst 1, 1) := by decide +kernel
theorem dTx_isName_9 : decode prog_11_method_4_code 9 = .ok (.goto 4, 3) := by decide +kernel
theorem dTx_isName_12 : decode prog_11_method_4_code 12 = .ok (.iconst 0, 1) := by decide +kernel
theorem dTx_isName_13 : decode prog_11_method_4_code 13 = .ok (.ireturn, 1) := by decide +kernel
theorem dTx_noNameAt_0 : decode prog_11_method_3_code 0 = .ok (.iconst 0, 1) := by decide +kernel
theorem dTx_noNameAt_1 : decode prog_11_method_3_code 1 = .ok (.istore_n 1, 1) := by decide +kernel
theorem dTx_noNameAt_2 : decode prog_11_method_3_code 2 = .ok (.iload_n 1, 1) := by decide +kernel
theorem dTx_noNameAt_3 : decode prog_11_method_3_code 3 = .ok (.aload_n 0, 1) := by decide +kernel
theorem dTx_noNameAt_4 : decode prog_11_method_3_code 4 = .ok (.invokevirtual 9, 3) := by decide +kernel
theorem dTx_noNameAt_7 : decode prog_11_method_3_code 7 = .ok (.if_icmp .ge 51, 3) := by decide +kernel
theorem dTx_noNameAt_10 : decode prog_11_method_3_code 10 = .ok (.aload_n 0, 1) := by decide +kernel
theorem dTx_noNameAt_11 : decode prog_11_method_3_code 11 = .ok (.iload_n 1, 1) := by decide +kernel
theorem dTx_noNameAt_12 : decode prog_11_method_3_code 12 = .ok (.invokevirtual 15, 3) := by decide +kernel
theorem dTx_noNameAt_15 : decode prog_11_method_3_code 15 = .ok (.istore_n 2, 1) := by decide +kernel
theorem dTx_noNameAt_16 : decode prog_11_method_3_code 16 = .ok (.iload_n 2, 1) := by decide +kernel
theorem dTx_noNameAt_17 : decode prog_11_method_3_code 17 = .ok (.invokestatic 19, 3) := by decide +kernel
theorem dTx_noNameAt_20 : decode prog_11_method_3_code 20 = .ok (.ifCond .ne 14, 3) := by decide +kernel
theorem dTx_noNameAt_23 : decode prog_11_method_3_code 23 = .ok (.iload_n 1, 1) := by decide +kernel
theorem dTx_noNameAt_24 : decode prog_11_method_3_code 24 = .ok (.ifCond .le 14, 3) := by decide +kernel
theorem dTx_noNameAt_27 : decode prog_11_method_3_code 27 = .ok (.iload_n 2, 1) := by decide +kernel
theorem dTx_noNameAt_28 : decode prog_11_method_3_code 28 = .ok (.invokestatic 25, 3) := by decide +kernel
theorem dTx_noNameAt_31 : decode prog_11_method_3_code 31 = .ok (.ifCond .eq 7, 3) := by decide +kernel
theorem dTx_noNameAt_34 : decode prog_11_method_3_code 34 = .ok (.iconst 1, 1) := by decide +kernel
theorem dTx_noNameAt_35 : decode prog_11_method_3_code 35 = .ok (.goto 4, 3) := by decide +kernel
theorem dTx_noNameAt_38 : decode prog_11_method_3_code 38 = .ok (.iconst 0, 1) := by decide +kernel
theorem dTx_noNameAt_39 : decode prog_11_method_3_code 39 = .ok (.istore_n 3, 1) := by decide +kernel
theorem dTx_noNameAt_40 : decode prog_11_method_3_code 40 = .ok (.iload_n 3, 1) := by decide +kernel
theorem dTx_noNameAt_41 : decode prog_11_method_3_code 41 = .ok (.ifCond .eq 9, 3) := by decide +kernel
theorem dTx_noNameAt_44 : decode prog_11_method_3_code 44 = .ok (.iload_n 1, 1) := by decide +kernel
theorem dTx_noNameAt_45 : decode prog_11_method_3_code 45 = .ok (.bipush 8, 2) := by decide +kernel
theorem dTx_noNameAt_47 : decode prog_11_method_3_code 47 = .ok (.if_icmp .lt 5, 3) := by decide +kernel
theorem dTx_noNameAt_50 : decode prog_11_method_3_code 50 = .ok (.iload_n 1, 1) := by decide +kernel
theorem dTx_noNameAt_51 : decode prog_11_method_3_code 51 = .ok (.ireturn, 1) := by decide +kernel
theorem dTx_noNameAt_52 : decode prog_11_method_3_code 52 = .ok (.iinc 1 1, 3) := by decide +kernel
theorem dTx_noNameAt_55 : decode prog_11_method_3_code 55 = .ok (.goto (-53), 3) := by decide +kernel
theorem dTx_noNameAt_58 : decode prog_11_method_3_code 58 = .ok (.aload_n 0, 1) := by decide +kernel
theorem dTx_noNameAt_59 : decode prog_11_method_3_code 59 = .ok (.invokevirtual 28, 3) := by decide +kernel
theorem dTx_noNameAt_62 : decode prog_11_method_3_code 62 = .ok (.ifCond .eq 7, 3) := by decide +kernel
theorem dTx_noNameAt_65 : decode prog_11_method_3_code 65 = .ok (.iconst 0, 1) := by decide +kernel
theorem dTx_noNameAt_66 : decode prog_11_method_3_code 66 = .ok (.goto 4, 3) := by decide +kernel
theorem dTx_noNameAt_69 : decode prog_11_method_3_code 69 = .ok (.iconst (-1), 1) := by decide +kernel
theorem dTx_noNameAt_70 : decode prog_11_method_3_code 70 = .ok (.ireturn, 1) := by decide +kernel
theorem dPt_init_0 : decode prog_9_method_1_code 0 = .ok (.aload_n 0, 1) := by decide +kernel
theorem dPt_init_1 : decode prog_9_method_1_code 1 = .ok (.invokespecial 1, 3) := by decide +kernel
theorem dPt_init_4 : decode prog_9_method_1_code 4 = .ok (.aload_n 0, 1) := by decide +kernel
theorem dPt_init_5 : decode prog_9_method_1_code 5 = .ok (.new 7, 3) := by decide +kernel
theorem dPt_init_8 : decode prog_9_method_1_code 8 = .ok (.dup, 1) := by decide +kernel
theorem dPt_init_9 : decode prog_9_method_1_code 9 = .ok (.invokespecial 9, 3) := by decide +kernel
theorem dPt_init_12 : decode prog_9_method_1_code 12 = .ok (.putfield 10, 3) := by decide +kernel
theorem dPt_init_15 : decode prog_9_method_1_code 15 = .ok (.aload_n 0, 1) := by decide +kernel
theorem dPt_init_16 : decode prog_9_method_1_code 16 = .ok (.iconst 0, 1) := by decide +kernel
theorem dPt_init_17 : decode prog_9_method_1_code 17 = .ok (.putfield 16, 3) := by decide +kernel
theorem dPt_init_20 : decode prog_9_method_1_code 20 = .ok (.return_, 1) := by decide +kernel
theorem dTx_begins_0 : decode prog_11_method_8_code 0 = .ok (.aload_n 0, 1) := by decide +kernel
theorem dTx_begins_1 : decode prog_11_method_8_code 1 = .ok (.invokevirtual 9, 3) := by decide +kernel
theorem dTx_begins_4 : decode prog_11_method_8_code 4 = .ok (.aload_n 1, 1) := by decide +kernel
theorem dTx_begins_5 : decode prog_11_method_8_code 5 = .ok (.invokevirtual 9, 3) := by decide +kernel
theorem dTx_begins_8 : decode prog_11_method_8_code 8 = .ok (.if_icmp .lt 23, 3) := by decide +kernel
theorem dTx_begins_11 : decode prog_11_method_8_code 11 = .ok (.aload_n 0, 1) := by decide +kernel
theorem dTx_begins_12 : decode prog_11_method_8_code 12 = .ok (.iconst 0, 1) := by decide +kernel
theorem dTx_begins_13 : decode prog_11_method_8_code 13 = .ok (.aload_n 1, 1) := by decide +kernel
theorem dTx_begins_14 : decode prog_11_method_8_code 14 = .ok (.invokevirtual 9, 3) := by decide +kernel
theorem dTx_begins_17 : decode prog_11_method_8_code 17 = .ok (.invokevirtual 40, 3) := by decide +kernel
theorem dTx_begins_20 : decode prog_11_method_8_code 20 = .ok (.aload_n 1, 1) := by decide +kernel
theorem dTx_begins_21 : decode prog_11_method_8_code 21 = .ok (.invokevirtual 44, 3) := by decide +kernel
theorem dTx_begins_24 : decode prog_11_method_8_code 24 = .ok (.ifCond .eq 7, 3) := by decide +kernel
theorem dTx_begins_27 : decode prog_11_method_8_code 27 = .ok (.iconst 1, 1) := by decide +kernel
theorem dTx_begins_28 : decode prog_11_method_8_code 28 = .ok (.goto 4, 3) := by decide +kernel
theorem dTx_begins_31 : decode prog_11_method_8_code 31 = .ok (.iconst 0, 1) := by decide +kernel
theorem dTx_begins_32 : decode prog_11_method_8_code 32 = .ok (.ireturn, 1) := by decide +kernel
theorem dPt_startBeside_0 : decode prog_9_method_2_code 0 = .ok (.aload_n 0, 1) := by decide +kernel
theorem dPt_startBeside_1 : decode prog_9_method_2_code 1 = .ok (.getfield 10, 3) := by decide +kernel
theorem dPt_startBeside_4 : decode prog_9_method_2_code 4 = .ok (.aload_n 1, 1) := by decide +kernel
theorem dPt_startBeside_5 : decode prog_9_method_2_code 5 = .ok (.getfield 20, 3) := by decide +kernel
theorem dPt_startBeside_8 : decode prog_9_method_2_code 8 = .ok (.invokevirtual 26, 3) := by decide +kernel
theorem dPt_startBeside_11 : decode prog_9_method_2_code 11 = .ok (.pop, 1) := by decide +kernel
theorem dPt_startBeside_12 : decode prog_9_method_2_code 12 = .ok (.aload_n 0, 1) := by decide +kernel
theorem dPt_startBeside_13 : decode prog_9_method_2_code 13 = .ok (.aload_n 1, 1) := by decide +kernel
theorem dPt_startBeside_14 : decode prog_9_method_2_code 14 = .ok (.invokevirtual 30, 3) := by decide +kernel
theorem dPt_startBeside_17 : decode prog_9_method_2_code 17 = .ok (.putfield 16, 3) := by decide +kernel
theorem dPt_startBeside_20 : decode prog_9_method_2_code 20 = .ok (.aload_n 0, 1) := by decide +kernel
theorem dPt_startBeside_21 : decode prog_9_method_2_code 21 = .ok (.invokevirtual 34, 3) := by decide +kernel
theorem dPt_startBeside_24 : decode prog_9_method_2_code 24 = .ok (.return_, 1) := by decide +kernel
theorem dAd_segments_0 : decode prog_2_method_4_code 0 = .ok (.iconst 0, 1) := by decide +kernel
theorem dAd_segments_1 : decode prog_2_method_4_code 1 = .ok (.istore_n 1, 1) := by decide +kernel
theorem dAd_segments_2 : decode prog_2_method_4_code 2 = .ok (.iconst 0, 1) := by decide +kernel
theorem dAd_segments_3 : decode prog_2_method_4_code 3 = .ok (.istore_n 2, 1) := by decide +kernel
theorem dAd_segments_4 : decode prog_2_method_4_code 4 = .ok (.iload_n 2, 1) := by decide +kernel
theorem dAd_segments_5 : decode prog_2_method_4_code 5 = .ok (.aload_n 0, 1) := by decide +kernel
theorem dAd_segments_6 : decode prog_2_method_4_code 6 = .ok (.getfield 13, 3) := by decide +kernel
theorem dAd_segments_9 : decode prog_2_method_4_code 9 = .ok (.invokevirtual 66, 3) := by decide +kernel
theorem dAd_segments_12 : decode prog_2_method_4_code 12 = .ok (.if_icmp .ge 25, 3) := by decide +kernel
theorem dAd_segments_15 : decode prog_2_method_4_code 15 = .ok (.aload_n 0, 1) := by decide +kernel
theorem dAd_segments_16 : decode prog_2_method_4_code 16 = .ok (.getfield 13, 3) := by decide +kernel
theorem dAd_segments_19 : decode prog_2_method_4_code 19 = .ok (.iload_n 2, 1) := by decide +kernel
theorem dAd_segments_20 : decode prog_2_method_4_code 20 = .ok (.invokevirtual 95, 3) := by decide +kernel
theorem dAd_segments_23 : decode prog_2_method_4_code 23 = .ok (.bipush 47, 2) := by decide +kernel
theorem dAd_segments_25 : decode prog_2_method_4_code 25 = .ok (.if_icmp .ne 6, 3) := by decide +kernel
theorem dAd_segments_28 : decode prog_2_method_4_code 28 = .ok (.iinc 1 1, 3) := by decide +kernel
theorem dAd_segments_31 : decode prog_2_method_4_code 31 = .ok (.iinc 2 1, 3) := by decide +kernel
theorem dAd_segments_34 : decode prog_2_method_4_code 34 = .ok (.goto (-30), 3) := by decide +kernel
theorem dAd_segments_37 : decode prog_2_method_4_code 37 = .ok (.iload_n 1, 1) := by decide +kernel
theorem dAd_segments_38 : decode prog_2_method_4_code 38 = .ok (.ireturn, 1) := by decide +kernel
theorem dPt_pop_0 : decode prog_9_method_6_code 0 = .ok (.aload_n 0, 1) := by decide +kernel
theorem dPt_pop_1 : decode prog_9_method_6_code 1 = .ok (.getfield 10, 3) := by decide +kernel
theorem dPt_pop_4 : decode prog_9_method_6_code 4 = .ok (.invokevirtual 79, 3) := by decide +kernel
theorem dPt_pop_7 : decode prog_9_method_6_code 7 = .ok (.ifCond .ne 4, 3) := by decide +kernel
theorem dPt_pop_10 : decode prog_9_method_6_code 10 = .ok (.return_, 1) := by decide +kernel
theorem dPt_pop_11 : decode prog_9_method_6_code 11 = .ok (.aload_n 0, 1) := by decide +kernel
theorem dPt_pop_12 : decode prog_9_method_6_code 12 = .ok (.getfield 10, 3) := by decide +kernel
theorem dPt_pop_15 : decode prog_9_method_6_code 15 = .ok (.invokevirtual 79, 3) := by decide +kernel
theorem dPt_pop_18 : decode prog_9_method_6_code 18 = .ok (.iconst 1, 1) := by decide +kernel
theorem dPt_pop_19 : decode prog_9_method_6_code 19 = .ok (.isub, 1) := by decide +kernel
theorem dPt_pop_20 : decode prog_9_method_6_code 20 = .ok (.istore_n 1, 1) := by decide +kernel
theorem dPt_pop_21 : decode prog_9_method_6_code 21 = .ok (.iload_n 1, 1) := by decide +kernel
theorem dPt_pop_22 : decode prog_9_method_6_code 22 = .ok (.ifCond .le 22, 3) := by decide +kernel
theorem dPt_pop_25 : decode prog_9_method_6_code 25 = .ok (.aload_n 0, 1) := by decide +kernel
theorem dPt_pop_26 : decode prog_9_method_6_code 26 = .ok (.getfield 10, 3) := by decide +kernel
theorem dPt_pop_29 : decode prog_9_method_6_code 29 = .ok (.iload_n 1, 1) := by decide +kernel
theorem dPt_pop_30 : decode prog_9_method_6_code 30 = .ok (.invokevirtual 80, 3) := by decide +kernel
theorem dPt_pop_33 : decode prog_9_method_6_code 33 = .ok (.bipush 47, 2) := by decide +kernel
theorem dPt_pop_35 : decode prog_9_method_6_code 35 = .ok (.if_icmp .eq 9, 3) := by decide +kernel
theorem dPt_pop_38 : decode prog_9_method_6_code 38 = .ok (.iinc 1 (-1), 3) := by decide +kernel
theorem dPt_pop_41 : decode prog_9_method_6_code 41 = .ok (.goto (-20), 3) := by decide +kernel
theorem dPt_pop_44 : decode prog_9_method_6_code 44 = .ok (.aload_n 0, 1) := by decide +kernel
theorem dPt_pop_45 : decode prog_9_method_6_code 45 = .ok (.getfield 10, 3) := by decide +kernel
theorem dPt_pop_48 : decode prog_9_method_6_code 48 = .ok (.iload_n 1, 1) := by decide +kernel
theorem dPt_pop_49 : decode prog_9_method_6_code 49 = .ok (.invokevirtual 81, 3) := by decide +kernel
theorem dPt_pop_52 : decode prog_9_method_6_code 52 = .ok (.aload_n 0, 1) := by decide +kernel
theorem dPt_pop_53 : decode prog_9_method_6_code 53 = .ok (.dup, 1) := by decide +kernel
theorem dPt_pop_54 : decode prog_9_method_6_code 54 = .ok (.getfield 16, 3) := by decide +kernel
theorem dPt_pop_57 : decode prog_9_method_6_code 57 = .ok (.iconst 1, 1) := by decide +kernel
theorem dPt_pop_58 : decode prog_9_method_6_code 58 = .ok (.isub, 1) := by decide +kernel
theorem dPt_pop_59 : decode prog_9_method_6_code 59 = .ok (.putfield 16, 3) := by decide +kernel
theorem dPt_pop_62 : decode prog_9_method_6_code 62 = .ok (.return_, 1) := by decide +kernel
theorem dPt_take_0 : decode prog_9_method_3_code 0 = .ok (.aload_n 1, 1) := by decide +kernel
theorem dPt_take_1 : decode prog_9_method_3_code 1 = .ok (.ldc 37, 2) := by decide +kernel
theorem dPt_take_3 : decode prog_9_method_3_code 3 = .ok (.invokestatic 39, 3) := by decide +kernel
theorem dPt_take_6 : decode prog_9_method_3_code 6 = .ok (.ifCond .ne 5, 3) := by decide +kernel
theorem dPt_take_9 : decode prog_9_method_3_code 9 = .ok (.iconst 0, 1) := by decide +kernel
theorem dPt_take_10 : decode prog_9_method_3_code 10 = .ok (.ireturn, 1) := by decide +kernel
theorem dPt_take_11 : decode prog_9_method_3_code 11 = .ok (.iconst 0, 1) := by decide +kernel
theorem dPt_take_12 : decode prog_9_method_3_code 12 = .ok (.istore_n 2, 1) := by decide +kernel
theorem dPt_take_13 : decode prog_9_method_3_code 13 = .ok (.iconst 0, 1) := by decide +kernel
theorem dPt_take_14 : decode prog_9_method_3_code 14 = .ok (.istore_n 3, 1) := by decide +kernel
theorem dPt_take_15 : decode prog_9_method_3_code 15 = .ok (.iload_n 3, 1) := by decide +kernel
theorem dPt_take_16 : decode prog_9_method_3_code 16 = .ok (.aload_n 1, 1) := by decide +kernel
theorem dPt_take_17 : decode prog_9_method_3_code 17 = .ok (.invokevirtual 45, 3) := by decide +kernel
theorem dPt_take_20 : decode prog_9_method_3_code 20 = .ok (.if_icmp .gt 60, 3) := by decide +kernel
theorem dPt_take_23 : decode prog_9_method_3_code 23 = .ok (.iload_n 3, 1) := by decide +kernel
theorem dPt_take_24 : decode prog_9_method_3_code 24 = .ok (.aload_n 1, 1) := by decide +kernel
theorem dPt_take_25 : decode prog_9_method_3_code 25 = .ok (.invokevirtual 45, 3) := by decide +kernel
theorem dPt_take_28 : decode prog_9_method_3_code 28 = .ok (.if_icmp .ne 7, 3) := by decide +kernel
theorem dPt_take_31 : decode prog_9_method_3_code 31 = .ok (.iconst 1, 1) := by decide +kernel
theorem dPt_take_32 : decode prog_9_method_3_code 32 = .ok (.goto 4, 3) := by decide +kernel
theorem dPt_take_35 : decode prog_9_method_3_code 35 = .ok (.iconst 0, 1) := by decide +kernel
theorem dPt_take_36 : decode prog_9_method_3_code 36 = .ok (.istore 4, 2) := by decide +kernel
theorem dPt_take_38 : decode prog_9_method_3_code 38 = .ok (.iload 4, 2) := by decide +kernel
theorem dPt_take_40 : decode prog_9_method_3_code 40 = .ok (.ifCond .ne 13, 3) := by decide +kernel
theorem dPt_take_43 : decode prog_9_method_3_code 43 = .ok (.aload_n 1, 1) := by decide +kernel
theorem dPt_take_44 : decode prog_9_method_3_code 44 = .ok (.iload_n 3, 1) := by decide +kernel
theorem dPt_take_45 : decode prog_9_method_3_code 45 = .ok (.invokevirtual 50, 3) := by decide +kernel
theorem dPt_take_48 : decode prog_9_method_3_code 48 = .ok (.bipush 47, 2) := by decide +kernel
theorem dPt_take_50 : decode prog_9_method_3_code 50 = .ok (.if_icmp .ne 24, 3) := by decide +kernel
theorem dPt_take_53 : decode prog_9_method_3_code 53 = .ok (.aload_n 0, 1) := by decide +kernel
theorem dPt_take_54 : decode prog_9_method_3_code 54 = .ok (.aload_n 1, 1) := by decide +kernel
theorem dPt_take_55 : decode prog_9_method_3_code 55 = .ok (.iload_n 2, 1) := by decide +kernel
theorem dPt_take_56 : decode prog_9_method_3_code 56 = .ok (.iload_n 3, 1) := by decide +kernel
theorem dPt_take_57 : decode prog_9_method_3_code 57 = .ok (.invokevirtual 54, 3) := by decide +kernel
theorem dPt_take_60 : decode prog_9_method_3_code 60 = .ok (.iload 4, 2) := by decide +kernel
theorem dPt_take_62 : decode prog_9_method_3_code 62 = .ok (.invokevirtual 58, 3) := by decide +kernel
theorem dPt_take_65 : decode prog_9_method_3_code 65 = .ok (.ifCond .ne 5, 3) := by decide +kernel
theorem dPt_take_68 : decode prog_9_method_3_code 68 = .ok (.iconst 0, 1) := by decide +kernel
theorem dPt_take_69 : decode prog_9_method_3_code 69 = .ok (.ireturn, 1) := by decide +kernel
theorem dPt_take_70 : decode prog_9_method_3_code 70 = .ok (.iload_n 3, 1) := by decide +kernel
theorem dPt_take_71 : decode prog_9_method_3_code 71 = .ok (.iconst 1, 1) := by decide +kernel
theorem dPt_take_72 : decode prog_9_method_3_code 72 = .ok (.iadd, 1) := by decide +kernel
theorem dPt_take_73 : decode prog_9_method_3_code 73 = .ok (.istore_n 2, 1) := by decide +kernel
theorem dPt_take_74 : decode prog_9_method_3_code 74 = .ok (.iinc 3 1, 3) := by decide +kernel
theorem dPt_take_77 : decode prog_9_method_3_code 77 = .ok (.goto (-62), 3) := by decide +kernel
theorem dPt_take_80 : decode prog_9_method_3_code 80 = .ok (.aload_n 0, 1) := by decide +kernel
theorem dPt_take_81 : decode prog_9_method_3_code 81 = .ok (.getfield 16, 3) := by decide +kernel
theorem dPt_take_84 : decode prog_9_method_3_code 84 = .ok (.bipush 6, 2) := by decide +kernel
theorem dPt_take_86 : decode prog_9_method_3_code 86 = .ok (.if_icmp .gt 7, 3) := by decide +kernel
theorem dPt_take_89 : decode prog_9_method_3_code 89 = .ok (.iconst 1, 1) := by decide +kernel
theorem dPt_take_90 : decode prog_9_method_3_code 90 = .ok (.goto 4, 3) := by decide +kernel
theorem dPt_take_93 : decode prog_9_method_3_code 93 = .ok (.iconst 0, 1) := by decide +kernel
theorem dPt_take_94 : decode prog_9_method_3_code 94 = .ok (.ireturn, 1) := by decide +kernel
theorem dPt_takeOne_0 : decode prog_9_method_4_code 0 = .ok (.aload_n 1, 1) := by decide +kernel
theorem dPt_takeOne_1 : decode prog_9_method_4_code 1 = .ok (.invokevirtual 45, 3) := by decide +kernel
theorem dPt_takeOne_4 : decode prog_9_method_4_code 4 = .ok (.bipush 12, 2) := by decide +kernel
theorem dPt_takeOne_6 : decode prog_9_method_4_code 6 = .ok (.if_icmp .le 5, 3) := by decide +kernel
theorem dPt_takeOne_9 : decode prog_9_method_4_code 9 = .ok (.iconst 0, 1) := by decide +kernel
theorem dPt_takeOne_10 : decode prog_9_method_4_code 10 = .ok (.ireturn, 1) := by decide +kernel
theorem dPt_takeOne_11 : decode prog_9_method_4_code 11 = .ok (.aload_n 1, 1) := by decide +kernel
theorem dPt_takeOne_12 : decode prog_9_method_4_code 12 = .ok (.ldc 62, 2) := by decide +kernel
theorem dPt_takeOne_14 : decode prog_9_method_4_code 14 = .ok (.invokevirtual 64, 3) := by decide +kernel
theorem dPt_takeOne_17 : decode prog_9_method_4_code 17 = .ok (.istore_n 3, 1) := by decide +kernel
theorem dPt_takeOne_18 : decode prog_9_method_4_code 18 = .ok (.iload_n 3, 1) := by decide +kernel
theorem dPt_takeOne_19 : decode prog_9_method_4_code 19 = .ok (.ifCond .eq 7, 3) := by decide +kernel
theorem dPt_takeOne_22 : decode prog_9_method_4_code 22 = .ok (.aload_n 0, 1) := by decide +kernel
theorem dPt_takeOne_23 : decode prog_9_method_4_code 23 = .ok (.invokevirtual 34, 3) := by decide +kernel
theorem dPt_takeOne_26 : decode prog_9_method_4_code 26 = .ok (.iload_n 3, 1) := by decide +kernel
theorem dPt_takeOne_27 : decode prog_9_method_4_code 27 = .ok (.ifCond .ne 20, 3) := by decide +kernel
theorem dPt_takeOne_30 : decode prog_9_method_4_code 30 = .ok (.aload_n 1, 1) := by decide +kernel
theorem dPt_takeOne_31 : decode prog_9_method_4_code 31 = .ok (.ldc 68, 2) := by decide +kernel
theorem dPt_takeOne_33 : decode prog_9_method_4_code 33 = .ok (.invokevirtual 64, 3) := by decide +kernel
theorem dPt_takeOne_36 : decode prog_9_method_4_code 36 = .ok (.ifCond .ne 11, 3) := by decide +kernel
theorem dPt_takeOne_39 : decode prog_9_method_4_code 39 = .ok (.aload_n 0, 1) := by decide +kernel
theorem dPt_takeOne_40 : decode prog_9_method_4_code 40 = .ok (.aload_n 1, 1) := by decide +kernel
theorem dPt_takeOne_41 : decode prog_9_method_4_code 41 = .ok (.invokevirtual 70, 3) := by decide +kernel
theorem dPt_takeOne_44 : decode prog_9_method_4_code 44 = .ok (.goto 13, 3) := by decide +kernel
theorem dPt_takeOne_47 : decode prog_9_method_4_code 47 = .ok (.iload_n 2, 1) := by decide +kernel
theorem dPt_takeOne_48 : decode prog_9_method_4_code 48 = .ok (.ifCond .eq 9, 3) := by decide +kernel
theorem dPt_takeOne_51 : decode prog_9_method_4_code 51 = .ok (.aload_n 0, 1) := by decide +kernel
theorem dPt_takeOne_52 : decode prog_9_method_4_code 52 = .ok (.ldc 74, 2) := by decide +kernel
theorem dPt_takeOne_54 : decode prog_9_method_4_code 54 = .ok (.invokevirtual 70, 3) := by decide +kernel
theorem dPt_takeOne_57 : decode prog_9_method_4_code 57 = .ok (.iconst 1, 1) := by decide +kernel
theorem dPt_takeOne_58 : decode prog_9_method_4_code 58 = .ok (.ireturn, 1) := by decide +kernel
theorem dPt_push_0 : decode prog_9_method_5_code 0 = .ok (.aload_n 0, 1) := by decide +kernel
theorem dPt_push_1 : decode prog_9_method_5_code 1 = .ok (.getfield 10, 3) := by decide +kernel
theorem dPt_push_4 : decode prog_9_method_5_code 4 = .ok (.bipush 47, 2) := by decide +kernel
theorem dPt_push_6 : decode prog_9_method_5_code 6 = .ok (.invokevirtual 76, 3) := by decide +kernel
theorem dPt_push_9 : decode prog_9_method_5_code 9 = .ok (.pop, 1) := by decide +kernel
theorem dPt_push_10 : decode prog_9_method_5_code 10 = .ok (.aload_n 0, 1) := by decide +kernel
theorem dPt_push_11 : decode prog_9_method_5_code 11 = .ok (.getfield 10, 3) := by decide +kernel
theorem dPt_push_14 : decode prog_9_method_5_code 14 = .ok (.aload_n 1, 1) := by decide +kernel
theorem dPt_push_15 : decode prog_9_method_5_code 15 = .ok (.invokevirtual 26, 3) := by decide +kernel
theorem dPt_push_18 : decode prog_9_method_5_code 18 = .ok (.pop, 1) := by decide +kernel
theorem dPt_push_19 : decode prog_9_method_5_code 19 = .ok (.aload_n 0, 1) := by decide +kernel
theorem dPt_push_20 : decode prog_9_method_5_code 20 = .ok (.dup, 1) := by decide +kernel
theorem dPt_push_21 : decode prog_9_method_5_code 21 = .ok (.getfield 16, 3) := by decide +kernel
theorem dPt_push_24 : decode prog_9_method_5_code 24 = .ok (.iconst 1, 1) := by decide +kernel
theorem dPt_push_25 : decode prog_9_method_5_code 25 = .ok (.iadd, 1) := by decide +kernel
theorem dPt_push_26 : decode prog_9_method_5_code 26 = .ok (.putfield 16, 3) := by decide +kernel
theorem dPt_push_29 : decode prog_9_method_5_code 29 = .ok (.return_, 1) := by decide +kernel
theorem dAd_appendTo_0 : decode prog_2_method_5_code 0 = .ok (.aload_n 1, 1) := by decide +kernel
theorem dAd_appendTo_1 : decode prog_2_method_5_code 1 = .ok (.ldc 60, 2) := by decide +kernel
theorem dAd_appendTo_3 : decode prog_2_method_5_code 3 = .ok (.invokevirtual 99, 3) := by decide +kernel
theorem dAd_appendTo_6 : decode prog_2_method_5_code 6 = .ok (.pop, 1) := by decide +kernel
theorem dAd_appendTo_7 : decode prog_2_method_5_code 7 = .ok (.aload_n 1, 1) := by decide +kernel
theorem dAd_appendTo_8 : decode prog_2_method_5_code 8 = .ok (.aload_n 0, 1) := by decide +kernel
theorem dAd_appendTo_9 : decode prog_2_method_5_code 9 = .ok (.getfield 7, 3) := by decide +kernel
theorem dAd_appendTo_12 : decode prog_2_method_5_code 12 = .ok (.invokevirtual 99, 3) := by decide +kernel
theorem dAd_appendTo_15 : decode prog_2_method_5_code 15 = .ok (.pop, 1) := by decide +kernel
theorem dAd_appendTo_16 : decode prog_2_method_5_code 16 = .ok (.aload_n 1, 1) := by decide +kernel
theorem dAd_appendTo_17 : decode prog_2_method_5_code 17 = .ok (.aload_n 0, 1) := by decide +kernel
theorem dAd_appendTo_18 : decode prog_2_method_5_code 18 = .ok (.getfield 13, 3) := by decide +kernel
theorem dAd_appendTo_21 : decode prog_2_method_5_code 21 = .ok (.invokevirtual 99, 3) := by decide +kernel
theorem dAd_appendTo_24 : decode prog_2_method_5_code 24 = .ok (.pop, 1) := by decide +kernel
theorem dAd_appendTo_25 : decode prog_2_method_5_code 25 = .ok (.aload_n 1, 1) := by decide +kernel
theorem dAd_appendTo_26 : decode prog_2_method_5_code 26 = .ok (.aload_n 0, 1) := by decide +kernel
theorem dAd_appendTo_27 : decode prog_2_method_5_code 27 = .ok (.getfield 16, 3) := by decide +kernel
theorem dAd_appendTo_30 : decode prog_2_method_5_code 30 = .ok (.invokevirtual 99, 3) := by decide +kernel
theorem dAd_appendTo_33 : decode prog_2_method_5_code 33 = .ok (.pop, 1) := by decide +kernel
theorem dAd_appendTo_34 : decode prog_2_method_5_code 34 = .ok (.return_, 1) := by decide +kernel
theorem dTx_isNumber_0 : decode prog_11_method_5_code 0 = .ok (.aload_n 0, 1) := by decide +kernel
theorem dTx_isNumber_1 : decode prog_11_method_5_code 1 = .ok (.invokevirtual 28, 3) := by decide +kernel
theorem dTx_isNumber_4 : decode prog_11_method_5_code 4 = .ok (.ifCond .ne 11, 3) := by decide +kernel
theorem dTx_isNumber_7 : decode prog_11_method_5_code 7 = .ok (.aload_n 0, 1) := by decide +kernel
theorem dTx_isNumber_8 : decode prog_11_method_5_code 8 = .ok (.invokevirtual 9, 3) := by decide +kernel
theorem dTx_isNumber_11 : decode prog_11_method_5_code 11 = .ok (.iconst 4, 1) := by decide +kernel
theorem dTx_isNumber_12 : decode prog_11_method_5_code 12 = .ok (.if_icmp .le 5, 3) := by decide +kernel
theorem dTx_isNumber_15 : decode prog_11_method_5_code 15 = .ok (.iconst 0, 1) := by decide +kernel
theorem dTx_isNumber_16 : decode prog_11_method_5_code 16 = .ok (.ireturn, 1) := by decide +kernel
theorem dTx_isNumber_17 : decode prog_11_method_5_code 17 = .ok (.iconst 0, 1) := by decide +kernel
theorem dTx_isNumber_18 : decode prog_11_method_5_code 18 = .ok (.istore_n 1, 1) := by decide +kernel
theorem dTx_isNumber_19 : decode prog_11_method_5_code 19 = .ok (.iload_n 1, 1) := by decide +kernel
theorem dTx_isNumber_20 : decode prog_11_method_5_code 20 = .ok (.aload_n 0, 1) := by decide +kernel
theorem dTx_isNumber_21 : decode prog_11_method_5_code 21 = .ok (.invokevirtual 9, 3) := by decide +kernel
theorem dTx_isNumber_24 : decode prog_11_method_5_code 24 = .ok (.if_icmp .ge 22, 3) := by decide +kernel
theorem dTx_isNumber_27 : decode prog_11_method_5_code 27 = .ok (.aload_n 0, 1) := by decide +kernel
theorem dTx_isNumber_28 : decode prog_11_method_5_code 28 = .ok (.iload_n 1, 1) := by decide +kernel
theorem dTx_isNumber_29 : decode prog_11_method_5_code 29 = .ok (.invokevirtual 15, 3) := by decide +kernel
theorem dTx_isNumber_32 : decode prog_11_method_5_code 32 = .ok (.invokestatic 25, 3) := by decide +kernel
theorem dTx_isNumber_35 : decode prog_11_method_5_code 35 = .ok (.ifCond .ne 5, 3) := by decide +kernel
theorem dTx_isNumber_38 : decode prog_11_method_5_code 38 = .ok (.iconst 0, 1) := by decide +kernel
theorem dTx_isNumber_39 : decode prog_11_method_5_code 39 = .ok (.ireturn, 1) := by decide +kernel
theorem dTx_isNumber_40 : decode prog_11_method_5_code 40 = .ok (.iinc 1 1, 3) := by decide +kernel
theorem dTx_isNumber_43 : decode prog_11_method_5_code 43 = .ok (.goto (-24), 3) := by decide +kernel
theorem dTx_isNumber_46 : decode prog_11_method_5_code 46 = .ok (.iconst 1, 1) := by decide +kernel
theorem dTx_isNumber_47 : decode prog_11_method_5_code 47 = .ok (.ireturn, 1) := by decide +kernel
theorem dTx_number_0 : decode prog_11_method_6_code 0 = .ok (.iconst 0, 1) := by decide +kernel
theorem dTx_number_1 : decode prog_11_method_6_code 1 = .ok (.istore_n 1, 1) := by decide +kernel
theorem dTx_number_2 : decode prog_11_method_6_code 2 = .ok (.iconst 0, 1) := by decide +kernel
theorem dTx_number_3 : decode prog_11_method_6_code 3 = .ok (.istore_n 2, 1) := by decide +kernel
theorem dTx_number_4 : decode prog_11_method_6_code 4 = .ok (.iload_n 2, 1) := by decide +kernel
theorem dTx_number_5 : decode prog_11_method_6_code 5 = .ok (.aload_n 0, 1) := by decide +kernel
theorem dTx_number_6 : decode prog_11_method_6_code 6 = .ok (.invokevirtual 9, 3) := by decide +kernel
theorem dTx_number_9 : decode prog_11_method_6_code 9 = .ok (.if_icmp .ge 23, 3) := by decide +kernel
theorem dTx_number_12 : decode prog_11_method_6_code 12 = .ok (.iload_n 1, 1) := by decide +kernel
theorem dTx_number_13 : decode prog_11_method_6_code 13 = .ok (.bipush 10, 2) := by decide +kernel
theorem dTx_number_15 : decode prog_11_method_6_code 15 = .ok (.imul, 1) := by decide +kernel
theorem dTx_number_16 : decode prog_11_method_6_code 16 = .ok (.aload_n 0, 1) := by decide +kernel
theorem dTx_number_17 : decode prog_11_method_6_code 17 = .ok (.iload_n 2, 1) := by decide +kernel
theorem dTx_number_18 : decode prog_11_method_6_code 18 = .ok (.invokevirtual 15, 3) := by decide +kernel
theorem dTx_number_21 : decode prog_11_method_6_code 21 = .ok (.bipush 48, 2) := by decide +kernel
theorem dTx_number_23 : decode prog_11_method_6_code 23 = .ok (.isub, 1) := by decide +kernel
theorem dTx_number_24 : decode prog_11_method_6_code 24 = .ok (.iadd, 1) := by decide +kernel
theorem dTx_number_25 : decode prog_11_method_6_code 25 = .ok (.istore_n 1, 1) := by decide +kernel
theorem dTx_number_26 : decode prog_11_method_6_code 26 = .ok (.iinc 2 1, 3) := by decide +kernel
theorem dTx_number_29 : decode prog_11_method_6_code 29 = .ok (.goto (-25), 3) := by decide +kernel
theorem dTx_number_32 : decode prog_11_method_6_code 32 = .ok (.iload_n 1, 1) := by decide +kernel
theorem dTx_number_33 : decode prog_11_method_6_code 33 = .ok (.ireturn, 1) := by decide +kernel
theorem dAd_isSamePlace_0 : decode prog_2_method_3_code 0 = .ok (.aload_n 0, 1) := by decide +kernel
theorem dAd_isSamePlace_1 : decode prog_2_method_3_code 1 = .ok (.getfield 7, 3) := by decide +kernel
theorem dAd_isSamePlace_4 : decode prog_2_method_3_code 4 = .ok (.aload_n 1, 1) := by decide +kernel
theorem dAd_isSamePlace_5 : decode prog_2_method_3_code 5 = .ok (.getfield 7, 3) := by decide +kernel
theorem dAd_isSamePlace_8 : decode prog_2_method_3_code 8 = .ok (.invokevirtual 91, 3) := by decide +kernel
theorem dAd_isSamePlace_11 : decode prog_2_method_3_code 11 = .ok (.ifCond .eq 35, 3) := by decide +kernel
theorem dAd_isSamePlace_14 : decode prog_2_method_3_code 14 = .ok (.aload_n 0, 1) := by decide +kernel
theorem dAd_isSamePlace_15 : decode prog_2_method_3_code 15 = .ok (.getfield 13, 3) := by decide +kernel
theorem dAd_isSamePlace_18 : decode prog_2_method_3_code 18 = .ok (.aload_n 1, 1) := by decide +kernel
theorem dAd_isSamePlace_19 : decode prog_2_method_3_code 19 = .ok (.getfield 13, 3) := by decide +kernel
theorem dAd_isSamePlace_22 : decode prog_2_method_3_code 22 = .ok (.invokevirtual 91, 3) := by decide +kernel
theorem dAd_isSamePlace_25 : decode prog_2_method_3_code 25 = .ok (.ifCond .eq 21, 3) := by decide +kernel
theorem dAd_isSamePlace_28 : decode prog_2_method_3_code 28 = .ok (.aload_n 0, 1) := by decide +kernel
theorem dAd_isSamePlace_29 : decode prog_2_method_3_code 29 = .ok (.getfield 16, 3) := by decide +kernel
theorem dAd_isSamePlace_32 : decode prog_2_method_3_code 32 = .ok (.aload_n 1, 1) := by decide +kernel
theorem dAd_isSamePlace_33 : decode prog_2_method_3_code 33 = .ok (.getfield 16, 3) := by decide +kernel
theorem dAd_isSamePlace_36 : decode prog_2_method_3_code 36 = .ok (.invokevirtual 91, 3) := by decide +kernel
theorem dAd_isSamePlace_39 : decode prog_2_method_3_code 39 = .ok (.ifCond .eq 7, 3) := by decide +kernel
theorem dAd_isSamePlace_42 : decode prog_2_method_3_code 42 = .ok (.iconst 1, 1) := by decide +kernel
theorem dAd_isSamePlace_43 : decode prog_2_method_3_code 43 = .ok (.goto 4, 3) := by decide +kernel
theorem dAd_isSamePlace_46 : decode prog_2_method_3_code 46 = .ok (.iconst 0, 1) := by decide +kernel
theorem dAd_isSamePlace_47 : decode prog_2_method_3_code 47 = .ok (.ireturn, 1) := by decide +kernel
theorem zf_Ad_7 : zFl "NetDesk$Address" 7 2 0 := ⟨_, _, _, "NetDesk$Address", rfl, Nat.le_of_ble_eq_true rfl, in_Ad, Or.inl (zt1 78 rfl), Or.inl rfl⟩
theorem zp_Ad_init_7 : zPf M_Ad_init 7 2 0 (.object "java/lang/String") := ⟨zf_Ad_7, _, _, _, ty_Ad, rfl, tyok_Ad, nm_Ad, rfl, Or.inr ⟨rfl, rfl, rfl⟩⟩
theorem zf_Ad_13 : zFl "NetDesk$Address" 13 2 1 := ⟨_, _, _, "NetDesk$Address", rfl, Nat.le_of_ble_eq_true rfl, in_Ad, Or.inl (zt1 80 rfl), Or.inl rfl⟩
theorem zp_Ad_init_13 : zPf M_Ad_init 13 2 1 (.object "java/lang/String") := ⟨zf_Ad_13, _, _, _, ty_Ad, rfl, tyok_Ad, nm_Ad, rfl, Or.inr ⟨rfl, rfl, rfl⟩⟩
theorem zf_Ad_16 : zFl "NetDesk$Address" 16 2 2 := ⟨_, _, _, "NetDesk$Address", rfl, Nat.le_of_ble_eq_true rfl, in_Ad, Or.inl (zt1 82 rfl), Or.inl rfl⟩
theorem zp_Ad_init_16 : zPf M_Ad_init 16 2 2 (.object "java/lang/String") := ⟨zf_Ad_16, _, _, _, ty_Ad, rfl, tyok_Ad, nm_Ad, rfl, Or.inr ⟨rfl, rfl, rfl⟩⟩
theorem zf_Ad_19 : zFl "NetDesk$Address" 19 2 3 := ⟨_, _, _, "NetDesk$Address", rfl, Nat.le_of_ble_eq_true rfl, in_Ad, Or.inl (zt1 83 rfl), Or.inl rfl⟩
theorem zp_Ad_init_19 : zPf M_Ad_init 19 2 3 (.object "java/lang/String") := ⟨zf_Ad_19, _, _, _, ty_Ad, rfl, tyok_Ad, nm_Ad, rfl, Or.inr ⟨rfl, rfl, rfl⟩⟩
theorem zk_Tx_9 : zLkV "NetDesk$Texts" 9 8 M_St_length 0 := ⟨zc_St_length, ⟨_, _, _, rfl, Or.inl (zt2 239 rfl)⟩, zt2 238 rfl, Or.inl (zt2 237 rfl)⟩
theorem zk_Tx_15 : zLkV "NetDesk$Texts" 15 8 M_St_charAt 1 := ⟨zc_St_charAt, ⟨_, _, _, rfl, Or.inl (zt3 7 rfl)⟩, zt3 6 rfl, Or.inl (zt3 5 rfl)⟩
theorem zk_Ad_22 : zLkS "NetDesk$Address" 22 M_Ad_placeOrLength 2 := ⟨zc_Ad_placeOrLength, zt3 24 rfl, Or.inl (zt3 23 rfl)⟩
theorem zk_Ad_26 : zLkS "NetDesk$Address" 26 M_Ma_min 2 := ⟨zc_Ma_min, zt2 76 rfl, Or.inl (zt3 82 rfl)⟩
theorem zk_Ad_32 : zLkV "NetDesk$Address" 32 8 M_St_substring_0 2 := ⟨zc_St_substring_0, ⟨_, _, _, rfl, Or.inl (zt3 85 rfl)⟩, zt3 84 rfl, Or.inl (zt3 83 rfl)⟩
theorem zk_Ad_38 : zLkV "NetDesk$Address" 38 8 M_St_substring_1 1 := ⟨zc_St_substring_1, ⟨_, _, _, rfl, Or.inl (zt3 108 rfl)⟩, zt3 107 rfl, Or.inl (zt3 106 rfl)⟩
theorem zk_Ad_41 : zLkS "NetDesk$Address" 41 M_Ad_isQuery 1 := ⟨zc_Ad_isQuery, zt3 112 rfl, Or.inl (zt3 111 rfl)⟩
theorem zk_Ad_45 : zLkV "NetDesk$Address" 45 8 M_St_isEmpty 0 := ⟨zc_St_isEmpty, ⟨_, _, _, rfl, Or.inl (zt3 116 rfl)⟩, zt3 115 rfl, Or.inl (zt3 114 rfl)⟩
theorem zk_Ad_49 : zLkS "NetDesk$Address" 49 M_Tx_isName 1 := ⟨zc_Tx_isName, zt3 130 rfl, Or.inl (zt3 129 rfl)⟩
theorem zn_Ad_read_8 : zNf M_Ad_read 8 2 4 [.null, .null, .null, .null] := ⟨_, _, _, ty_Ad, rfl, in_Ad, tyok_Ad, zt3 136 rfl, zt1 70 rfl, zt1 6 rfl, Nat.le_of_ble_eq_true rfl, zDf_Ad⟩
theorem zk_Ad_54 : zLkI "NetDesk$Address" 54 M_Ad_init 4 := ⟨zc_Ad_init, rfl, rfl, zt1 75 rfl, Or.inl (zt3 137 rfl)⟩
theorem zn_Ad_read_57 : zNf M_Ad_read 57 9 2 [.null, .int 0] := ⟨_, _, _, ty_Pt, rfl, in_Pt, tyok_Pt, zt3 138 rfl, zt3 139 rfl, zt1 23 rfl, Nat.le_of_ble_eq_true rfl, zDf_Pt⟩
theorem zk_Ad_59 : zLkI "NetDesk$Address" 59 M_Pt_init 0 := ⟨zc_Pt_init, rfl, rfl, zt3 141 rfl, Or.inr ⟨_, zt3 140 rfl⟩⟩
theorem zk_Ad_62 : zLkS "NetDesk$Address" 62 M_Tx_begins 2 := ⟨zc_Tx_begins, zt3 156 rfl, Or.inl (zt3 155 rfl)⟩
theorem zk_Ad_66 : zLkV "NetDesk$Address" 66 8 M_St_length 0 := ⟨zc_St_length, ⟨_, _, _, rfl, Or.inl (zt2 239 rfl)⟩, zt2 238 rfl, Or.inl (zt3 81 rfl)⟩
theorem zk_Ad_74 : zLkV "NetDesk$Address" 74 9 M_Pt_startBeside 1 := ⟨zc_Pt_startBeside, ⟨_, _, _, rfl, Or.inl (zt3 171 rfl)⟩, zt3 170 rfl, Or.inl (zt3 169 rfl)⟩
theorem zk_Ad_78 : zLkV "NetDesk$Address" 78 9 M_Pt_take 1 := ⟨zc_Pt_take, ⟨_, _, _, rfl, Or.inl (zt3 217 rfl)⟩, zt3 216 rfl, Or.inl (zt3 215 rfl)⟩
theorem zf_Ad_81 : zFl "NetDesk$Address" 81 9 0 := ⟨_, _, _, "NetDesk$Path", rfl, Nat.le_of_ble_eq_true rfl, in_Pt, Or.inl (zt3 147 rfl), Or.inl rfl⟩
theorem zk_Ad_85 : zLkV "NetDesk$Address" 85 1 M_Sb_toString 0 := ⟨zc_Sb_toString, ⟨_, _, _, rfl, Or.inl (zt2 184 rfl)⟩, zt2 183 rfl, Or.inl (zt3 237 rfl)⟩
theorem zk_Ad_103 : zLkV "NetDesk$Address" 103 8 M_St_indexOf_0 1 := ⟨zc_St_indexOf_0, ⟨_, _, _, rfl, Or.inl (zt3 28 rfl)⟩, zt3 27 rfl, Or.inl (zt3 26 rfl)⟩
theorem zk_Ad_109 : zLkS "NetDesk$Address" 109 M_Tx_hasOnly 2 := ⟨zc_Tx_hasOnly, zt3 120 rfl, Or.inl (zt3 119 rfl)⟩
theorem zk_Tx_19 : zLkS "NetDesk$Texts" 19 M_Tx_isSmallLetter 1 := ⟨zc_Tx_isSmallLetter, zt3 123 rfl, Or.inl (zt3 122 rfl)⟩
theorem zk_Tx_25 : zLkS "NetDesk$Texts" 25 M_Tx_isDigit 1 := ⟨zc_Tx_isDigit, zt3 126 rfl, Or.inl (zt3 125 rfl)⟩
theorem zk_Tx_36 : zLkV "NetDesk$Texts" 36 8 M_St_indexOf_0 1 := ⟨zc_St_indexOf_0, ⟨_, _, _, rfl, Or.inl (zt3 28 rfl)⟩, zt3 27 rfl, Or.inl (zt3 128 rfl)⟩
theorem zk_Tx_32 : zLkS "NetDesk$Texts" 32 M_Tx_noNameAt 1 := ⟨zc_Tx_noNameAt, zt3 133 rfl, Or.inl (zt3 132 rfl)⟩
theorem zk_Tx_28 : zLkV "NetDesk$Texts" 28 8 M_St_isEmpty 0 := ⟨zc_St_isEmpty, ⟨_, _, _, rfl, Or.inl (zt3 116 rfl)⟩, zt3 115 rfl, Or.inl (zt3 135 rfl)⟩
theorem zn_Pt_init_7 : zNf M_Pt_init 7 1 4 [.null, .int 0, .int 0, .int 0] := ⟨_, _, _, ty_Sb, rfl, in_Sb, tyok_Sb, zt3 144 rfl, zt1 37 rfl, zt1 3 rfl, Nat.le_of_ble_eq_true rfl, zDf_Sb⟩
theorem zk_Pt_9 : zLkI "NetDesk$Path" 9 M_Sb_init 0 := ⟨zc_Sb_init, rfl, rfl, zt1 39 rfl, Or.inl (zt3 145 rfl)⟩
theorem zf_Pt_10 : zFl "NetDesk$Path" 10 9 0 := ⟨_, _, _, "NetDesk$Path", rfl, Nat.le_of_ble_eq_true rfl, in_Pt, Or.inl (zt3 146 rfl), Or.inl rfl⟩
theorem zp_Pt_init_10 : zPf M_Pt_init 10 9 0 (.object "java/lang/StringBuilder") := ⟨zf_Pt_10, _, _, _, ty_Pt, rfl, tyok_Pt, nm_Pt, rfl, Or.inr ⟨rfl, rfl, rfl⟩⟩
theorem zf_Pt_16 : zFl "NetDesk$Path" 16 9 1 := ⟨_, _, _, "NetDesk$Path", rfl, Nat.le_of_ble_eq_true rfl, in_Pt, Or.inl (zt3 148 rfl), Or.inl rfl⟩
theorem zp_Pt_init_16 : zPf M_Pt_init 16 9 1 .int := ⟨zf_Pt_16, _, _, _, ty_Pt, rfl, tyok_Pt, nm_Pt, rfl, Or.inl rfl⟩
theorem zk_Tx_40 : zLkV "NetDesk$Texts" 40 8 M_St_substring_0 2 := ⟨zc_St_substring_0, ⟨_, _, _, rfl, Or.inl (zt3 85 rfl)⟩, zt3 84 rfl, Or.inl (zt3 158 rfl)⟩
theorem zk_Tx_44 : zLkV "NetDesk$Texts" 44 8 M_St_equals 1 := ⟨zc_St_equals, ⟨_, _, _, rfl, Or.inl (zt3 161 rfl)⟩, zt3 160 rfl, Or.inl (zt3 159 rfl)⟩
theorem zf_Pt_20 : zFl "NetDesk$Path" 20 2 1 := ⟨_, _, _, "NetDesk$Address", rfl, Nat.le_of_ble_eq_true rfl, in_Ad, Or.inl (zt1 81 rfl), Or.inl rfl⟩
theorem zk_Pt_26 : zLkV "NetDesk$Path" 26 1 M_Sb_append_1 1 := ⟨zc_Sb_append_1, ⟨_, _, _, rfl, Or.inl (zt3 175 rfl)⟩, zt3 174 rfl, Or.inl (zt3 173 rfl)⟩
theorem zk_Pt_30 : zLkV "NetDesk$Path" 30 2 M_Ad_segments 0 := ⟨zc_Ad_segments, ⟨_, _, _, rfl, Or.inl (zt3 205 rfl)⟩, zt3 204 rfl, Or.inl (zt3 203 rfl)⟩
theorem zp_Pt_startBeside_16 : zPf M_Pt_startBeside 16 9 1 .int := ⟨zf_Pt_16, _, _, _, ty_Pt, rfl, tyok_Pt, nm_Pt, rfl, Or.inl rfl⟩
theorem zk_Pt_34 : zLkV "NetDesk$Path" 34 9 M_Pt_pop 0 := ⟨zc_Pt_pop, ⟨_, _, _, rfl, Or.inl (zsel 2 rfl)⟩, zt3 210 rfl, Or.inl (zt3 208 rfl)⟩
theorem zk_Ad_95 : zLkV "NetDesk$Address" 95 8 M_St_charAt 1 := ⟨zc_St_charAt, ⟨_, _, _, rfl, Or.inl (zt3 7 rfl)⟩, zt3 6 rfl, Or.inl (zt3 207 rfl)⟩
theorem zk_Pt_79 : zLkV "NetDesk$Path" 79 1 M_Sb_length 0 := ⟨zc_Sb_length, ⟨_, _, _, rfl, Or.inl (zt2 30 rfl)⟩, zt2 29 rfl, Or.inl (zt3 212 rfl)⟩
theorem zk_Pt_80 : zLkV "NetDesk$Path" 80 1 M_Sb_charAt 1 := ⟨zc_Sb_charAt, ⟨_, _, _, rfl, Or.inl (zt2 164 rfl)⟩, zt2 163 rfl, Or.inl (zt3 213 rfl)⟩
theorem zk_Pt_81 : zLkV "NetDesk$Path" 81 1 M_Sb_setLength 1 := ⟨zc_Sb_setLength, ⟨_, _, _, rfl, Or.inl (zt2 140 rfl)⟩, zt2 139 rfl, Or.inl (zt3 214 rfl)⟩
theorem zp_Pt_pop_16 : zPf M_Pt_pop 16 9 1 .int := ⟨zf_Pt_16, _, _, _, ty_Pt, rfl, tyok_Pt, nm_Pt, rfl, Or.inl rfl⟩
theorem zk_Pt_39 : zLkS "NetDesk$Path" 39 M_Tx_hasOnly 2 := ⟨zc_Tx_hasOnly, zt3 120 rfl, Or.inl (zt3 220 rfl)⟩
theorem zk_Pt_45 : zLkV "NetDesk$Path" 45 8 M_St_length 0 := ⟨zc_St_length, ⟨_, _, _, rfl, Or.inl (zt2 239 rfl)⟩, zt2 238 rfl, Or.inl (zt3 221 rfl)⟩
theorem zk_Pt_50 : zLkV "NetDesk$Path" 50 8 M_St_charAt 1 := ⟨zc_St_charAt, ⟨_, _, _, rfl, Or.inl (zt3 7 rfl)⟩, zt3 6 rfl, Or.inl (zt3 222 rfl)⟩
theorem zk_Pt_54 : zLkV "NetDesk$Path" 54 8 M_St_substring_0 2 := ⟨zc_St_substring_0, ⟨_, _, _, rfl, Or.inl (zt3 85 rfl)⟩, zt3 84 rfl, Or.inl (zt3 223 rfl)⟩
theorem zk_Pt_58 : zLkV "NetDesk$Path" 58 9 M_Pt_takeOne 2 := ⟨zc_Pt_takeOne, ⟨_, _, _, rfl, Or.inl (zsel 3 rfl)⟩, zt3 226 rfl, Or.inl (zt3 224 rfl)⟩
theorem zk_Pt_64 : zLkV "NetDesk$Path" 64 8 M_St_equals 1 := ⟨zc_St_equals, ⟨_, _, _, rfl, Or.inl (zt3 161 rfl)⟩, zt3 160 rfl, Or.inl (zt3 229 rfl)⟩
theorem zk_Pt_70 : zLkV "NetDesk$Path" 70 9 M_Pt_push 1 := ⟨zc_Pt_push, ⟨_, _, _, rfl, Or.inl (zsel 4 rfl)⟩, zt3 233 rfl, Or.inl (zt3 231 rfl)⟩
theorem zk_Pt_76 : zLkV "NetDesk$Path" 76 1 M_Sb_append_0 1 := ⟨zc_Sb_append_0, ⟨_, _, _, rfl, Or.inl (zt2 41 rfl)⟩, zt2 40 rfl, Or.inl (zt3 235 rfl)⟩
theorem zp_Pt_push_16 : zPf M_Pt_push 16 9 1 .int := ⟨zf_Pt_16, _, _, _, ty_Pt, rfl, tyok_Pt, nm_Pt, rfl, Or.inl rfl⟩
theorem zk_Ad_99 : zLkV "NetDesk$Address" 99 1 M_Sb_append_1 1 := ⟨zc_Sb_append_1, ⟨_, _, _, rfl, Or.inl (zt3 175 rfl)⟩, zt3 174 rfl, Or.inl (zt4 6 rfl)⟩
theorem zk_Ad_91 : zLkV "NetDesk$Address" 91 8 M_St_equals 1 := ⟨zc_St_equals, ⟨_, _, _, rfl, Or.inl (zt3 161 rfl)⟩, zt3 160 rfl, Or.inl (zt4 113 rfl)⟩
theorem sAd_init_0 {G : zG} {d : Nat} {Q : Option Value → Heap → Prop} {H : Heap} {st : List Value} {o1 : Option Value} {o2 : Option Value} {o3 : Option Value} {o4 : Option Value} {a0 : Nat} (hd : 1 ≤ d) (hl : st.length ≤ 4) (kk : zW G d M_Ad_init 4 [some (.ref a0), o1, o2, o3, o4] st H Q) : zW G d M_Ad_init 0 [some (.ref a0), o1, o2, o3, o4] st H Q :=
  zw_aload_n (i := 0) dAd_init_0 rfl rfl zRf_ref <| zw_objInit dAd_init_1 hd (zt1 77 rfl) zo_inst zo_code hl kk
theorem sAd_init_4 {G : zG} {d : Nat} {Q : Option Value → Heap → Prop} {H : Heap} {st : List Value} {o2 : Option Value} {o3 : Option Value} {o4 : Option Value} {a0 : Nat} {v1 : Value} {b0 : Value} {b1 : Value} {b2 : Value} {b3 : Value} (hr1 : zRf v1 := by first | exact zRf_ref | exact zRf_null | exact zRf_rf _ | assumption) (ho : zObj G H a0 2 [b0, b1, b2, b3]) (hw : zFr G a0) (kk : ∀ H1 : Heap, zObj G H1 a0 2 [v1, b1, b2, b3] → zUp a0 H H1 → zW G d M_Ad_init 9 [some (.ref a0), some v1, o2, o3, o4] st H1 Q) : zW G d M_Ad_init 4 [some (.ref a0), some v1, o2, o3, o4] st H Q :=
  zw_aload_n (i := 0) dAd_init_4 rfl rfl zRf_ref <| zw_aload_n (i := 1) dAd_init_5 rfl rfl hr1 <| zw_putf (k := 0) dAd_init_6 zp_Ad_init_7 ho (Nat.le_of_ble_eq_true rfl) (Nat.le_of_ble_eq_true rfl) hw (zNarO hr1) (zFitO hr1) kk
theorem sAd_init_9 {G : zG} {d : Nat} {Q : Option Value → Heap → Prop} {H : Heap} {st : List Value} {o1 : Option Value} {o3 : Option Value} {o4 : Option Value} {a0 : Nat} {v2 : Value} {b0 : Value} {b1 : Value} {b2 : Value} {b3 : Value} (hr2 : zRf v2 := by first | exact zRf_ref | exact zRf_null | exact zRf_rf _ | assumption) (ho : zObj G H a0 2 [b0, b1, b2, b3]) (hw : zFr G a0) (kk : ∀ H1 : Heap, zObj G H1 a0 2 [b0, v2, b2, b3] → zUp a0 H H1 → zW G d M_Ad_init 14 [some (.ref a0), o1, some v2, o3, o4] st H1 Q) : zW G d M_Ad_init 9 [some (.ref a0), o1, some v2, o3, o4] st H Q :=
  zw_aload_n (i := 0) dAd_init_9 rfl rfl zRf_ref <| zw_aload_n (i := 2) dAd_init_10 rfl rfl hr2 <| zw_putf (k := 1) dAd_init_11 zp_Ad_init_13 ho (Nat.le_of_ble_eq_true rfl) (Nat.le_of_ble_eq_true rfl) hw (zNarO hr2) (zFitO hr2) kk
theorem sAd_init_14 {G : zG} {d : Nat} {Q : Option Value → Heap → Prop} {H : Heap} {st : List Value} {o1 : Option Value} {o2 : Option Value} {o4 : Option Value} {a0 : Nat} {v3 : Value} {b0 : Value} {b1 : Value} {b2 : Value} {b3 : Value} (hr3 : zRf v3 := by first | exact zRf_ref | exact zRf_null | exact zRf_rf _ | assumption) (ho : zObj G H a0 2 [b0, b1, b2, b3]) (hw : zFr G a0) (kk : ∀ H1 : Heap, zObj G H1 a0 2 [b0, b1, v3, b3] → zUp a0 H H1 → zW G d M_Ad_init 19 [some (.ref a0), o1, o2, some v3, o4] st H1 Q) : zW G d M_Ad_init 14 [some (.ref a0), o1, o2, some v3, o4] st H Q :=
  zw_aload_n (i := 0) dAd_init_14 rfl rfl zRf_ref <| zw_aload_n (i := 3) dAd_init_15 rfl rfl hr3 <| zw_putf (k := 2) dAd_init_16 zp_Ad_init_16 ho (Nat.le_of_ble_eq_true rfl) (Nat.le_of_ble_eq_true rfl) hw (zNarO hr3) (zFitO hr3) kk
theorem sAd_init_19 {G : zG} {d : Nat} {Q : Option Value → Heap → Prop} {H : Heap} {st : List Value} {o1 : Option Value} {o2 : Option Value} {o3 : Option Value} {a0 : Nat} {v4 : Value} {b0 : Value} {b1 : Value} {b2 : Value} {b3 : Value} (hr4 : zRf v4 := by first | exact zRf_ref | exact zRf_null | exact zRf_rf _ | assumption) (ho : zObj G H a0 2 [b0, b1, b2, b3]) (hw : zFr G a0) (kk : ∀ H1 : Heap, zObj G H1 a0 2 [b0, b1, b2, v4] → zUp a0 H H1 → zW G d M_Ad_init 25 [some (.ref a0), o1, o2, o3, some v4] st H1 Q) : zW G d M_Ad_init 19 [some (.ref a0), o1, o2, o3, some v4] st H Q :=
  zw_aload_n (i := 0) dAd_init_19 rfl rfl zRf_ref <| zw_aload (i := 4) dAd_init_20 rfl hr4 <| zw_putf (k := 3) dAd_init_22 zp_Ad_init_19 ho (Nat.le_of_ble_eq_true rfl) (Nat.le_of_ble_eq_true rfl) hw (zNarO hr4) (zFitO hr4) kk
theorem sAd_init_25 {G : zG} {d : Nat} {Q : Option Value → Heap → Prop} {H : Heap} {o0 : Option Value} {o1 : Option Value} {o2 : Option Value} {o3 : Option Value} {o4 : Option Value} (hq : Q none H) : zW G d M_Ad_init 25 [o0, o1, o2, o3, o4] [] H Q :=
  zw_vret dAd_init_25 rfl hq
theorem sTx_badByte_0 {G : zG} {d : Nat} {Q : Option Value → Heap → Prop} {H : Heap} {st : List Value} {o0 : Option Value} {o1 : Option Value} {o2 : Option Value} (kk : zW G d M_Tx_badByte 2 [o0, some (.int (0 : Int32)), o2] st H Q) : zW G d M_Tx_badByte 0 [o0, o1, o2] st H Q :=
  zw_iconst (0 : Int32) dTx_badByte_0 zki_0 <| zw_istore_n (i := 1) dTx_badByte_1 rfl (Nat.le_of_ble_eq_true rfl) <| kk
theorem sTx_badByte_2 {G : zG} {d : Nat} {Q : Option Value → Heap → Prop} {H : Heap} {st : List Value} {o2 : Option Value} {x1 : Int32} {a0 : Nat} {P : Int32 → Heap → Prop} (hd : 1 ≤ d) (hl : ((.int x1) :: st).length ≤ 4) (ho : zIs G H a0 8) (hc : zC G (d - 1) M_St_length [(.ref a0)] H (zPi P)) (kk : ∀ (r : Int32) (H1 : Heap), P r H1 → zOk G H1 → H.size ≤ H1.size → zT H ≤ zT H1 → zW G d M_Tx_badByte 7 [some (.ref a0), some (.int x1), o2] ((.int r) :: (.int x1) :: st) H1 Q) : zW G d M_Tx_badByte 2 [some (.ref a0), some (.int x1), o2] st H Q :=
  zw_iload_n (i := 1) dTx_badByte_2 rfl rfl <| zw_aload_n (i := 0) dTx_badByte_3 rfl rfl zRf_ref <| zw_callV [] _ dTx_badByte_4 hd zk_Tx_9 ho rfl rfl hl hc (zPi_k kk)
theorem sTx_badByte_7 {G : zG} {d : Nat} {Q : Option Value → Heap → Prop} {H : Heap} {st : List Value} {o0 : Option Value} {o1 : Option Value} {o2 : Option Value} {xs0 : Int32} {xs1 : Int32} (kt : (xs0 ≤ xs1) → zW G d M_Tx_badByte 42 [o0, o1, o2] st H Q) (kf : (¬ xs0 ≤ xs1) → zW G d M_Tx_badByte 10 [o0, o1, o2] st H Q) : zW G d M_Tx_badByte 7 [o0, o1, o2] ((.int xs0) :: (.int xs1) :: st) H Q :=
  zw_icmp_ge 42 dTx_badByte_7 (by decide) kt kf
theorem sTx_badByte_10 {G : zG} {d : Nat} {Q : Option Value → Heap → Prop} {H : Heap} {st : List Value} {o2 : Option Value} {a0 : Nat} {x1 : Int32} {P : Int32 → Heap → Prop} (hd : 1 ≤ d) (hl : st.length ≤ 4) (ho : zIs G H a0 8) (hc : zC G (d - 1) M_St_charAt [(.ref a0), (.int x1)] H (zPi P)) (kk : ∀ (r : Int32) (H1 : Heap), P r H1 → zOk G H1 → H.size ≤ H1.size → zT H ≤ zT H1 → zW G d M_Tx_badByte 15 [some (.ref a0), some (.int x1), o2] ((.int r) :: st) H1 Q) : zW G d M_Tx_badByte 10 [some (.ref a0), some (.int x1), o2] st H Q :=
  zw_aload_n (i := 0) dTx_badByte_10 rfl rfl zRf_ref <| zw_iload_n (i := 1) dTx_badByte_11 rfl rfl <| zw_callV [(.int x1)] _ dTx_badByte_12 hd zk_Tx_15 ho rfl rfl hl hc (zPi_k kk)
theorem sTx_badByte_15 {G : zG} {d : Nat} {Q : Option Value → Heap → Prop} {H : Heap} {st : List Value} {o0 : Option Value} {o1 : Option Value} {o2 : Option Value} {xs0 : Int32} (kt : (xs0 = (10 : Int32)) → zW G d M_Tx_badByte 36 [o0, o1, some (.int xs0)] st H Q) (kf : (¬ xs0 = (10 : Int32)) → zW G d M_Tx_badByte 22 [o0, o1, some (.int xs0)] st H Q) : zW G d M_Tx_badByte 15 [o0, o1, o2] ((.int xs0) :: st) H Q :=
  zw_istore_n (i := 2) dTx_badByte_15 rfl (Nat.le_of_ble_eq_true rfl) <| zw_iload_n (i := 2) dTx_badByte_16 rfl rfl <| zw_bipush (10 : Int32) dTx_badByte_17 zkb_10 <| zw_icmp_eq 36 dTx_badByte_19 (by decide) kt kf
theorem sTx_badByte_22 {G : zG} {d : Nat} {Q : Option Value → Heap → Prop} {H : Heap} {st : List Value} {o0 : Option Value} {o1 : Option Value} {x2 : Int32} (kt : (x2 < (32 : Int32)) → zW G d M_Tx_badByte 34 [o0, o1, some (.int x2)] st H Q) (kf : (¬ x2 < (32 : Int32)) → zW G d M_Tx_badByte 28 [o0, o1, some (.int x2)] st H Q) : zW G d M_Tx_badByte 22 [o0, o1, some (.int x2)] st H Q :=
  zw_iload_n (i := 2) dTx_badByte_22 rfl rfl <| zw_bipush (32 : Int32) dTx_badByte_23 zkb_32 <| zw_icmp_lt 34 dTx_badByte_25 (by decide) kt kf
theorem sTx_badByte_28 {G : zG} {d : Nat} {Q : Option Value → Heap → Prop} {H : Heap} {st : List Value} {o0 : Option Value} {o1 : Option Value} {x2 : Int32} (kt : (x2 ≤ (126 : Int32)) → zW G d M_Tx_badByte 36 [o0, o1, some (.int x2)] st H Q) (kf : (¬ x2 ≤ (126 : Int32)) → zW G d M_Tx_badByte 34 [o0, o1, some (.int x2)] st H Q) : zW G d M_Tx_badByte 28 [o0, o1, some (.int x2)] st H Q :=
  zw_iload_n (i := 2) dTx_badByte_28 rfl rfl <| zw_bipush (126 : Int32) dTx_badByte_29 zkb_126 <| zw_icmp_le 36 dTx_badByte_31 (by decide) kt kf
theorem sTx_badByte_34 {G : zG} {d : Nat} {Q : Option Value → Heap → Prop} {H : Heap} {o0 : Option Value} {o2 : Option Value} {x1 : Int32} (hq : Q (some (.int x1)) H) : zW G d M_Tx_badByte 34 [o0, some (.int x1), o2] [] H Q :=
  zw_iload_n (i := 1) dTx_badByte_34 rfl rfl <| zw_iret dTx_badByte_35 .int rfl rfl hq
theorem sTx_badByte_36 {G : zG} {d : Nat} {Q : Option Value → Heap → Prop} {H : Heap} {st : List Value} {o0 : Option Value} {o2 : Option Value} {x1 : Int32} (kk : zW G d M_Tx_badByte 2 [o0, some (.int (x1 + (1 : Int32))), o2] st H Q) : zW G d M_Tx_badByte 36 [o0, some (.int x1), o2] st H Q :=
  zw_iinc (i := 1) (x1 + (1 : Int32)) dTx_badByte_36 rfl (by rw [zki_1]) <| zw_goto 2 dTx_badByte_39 (by decide) <| kk
theorem sTx_badByte_42 {G : zG} {d : Nat} {Q : Option Value → Heap → Prop} {H : Heap} {o0 : Option Value} {o1 : Option Value} {o2 : Option Value} (hq : Q (some (.int (-1 : Int32))) H) : zW G d M_Tx_badByte 42 [o0, o1, o2] [] H Q :=
  zw_iconst (-1 : Int32) dTx_badByte_42 zki_m1 <| zw_iret dTx_badByte_43 .int rfl rfl hq
theorem sAd_read_0 {G : zG} {d : Nat} {Q : Option Value → Heap → Prop} {H : Heap} {st : List Value} {o1 : Option Value} {o2 : Option Value} {o3 : Option Value} {o4 : Option Value} {o5 : Option Value} {o6 : Option Value} {o7 : Option Value} {o8 : Option Value} {o9 : Option Value} {o10 : Option Value} {o11 : Option Value} {v0 : Value} {P : Int32 → Heap → Prop} (hr0 : zRf v0 := by first | exact zRf_ref | exact zRf_null | exact zRf_rf _ | assumption) (hd : 1 ≤ d) (hl : st.length ≤ 4) (hc : zC G (d - 1) M_Ad_placeOrLength [v0, (.int (35 : Int32))] H (zPi P)) (kk : ∀ (r : Int32) (H1 : Heap), P r H1 → zOk G H1 → H.size ≤ H1.size → zT H ≤ zT H1 → zW G d M_Ad_read 6 [some v0, o1, o2, o3, o4, o5, o6, o7, o8, o9, o10, o11] ((.int r) :: st) H1 Q) : zW G d M_Ad_read 0 [some v0, o1, o2, o3, o4, o5, o6, o7, o8, o9, o10, o11] st H Q :=
  zw_aload_n (i := 0) dAd_read_0 rfl rfl hr0 <| zw_bipush (35 : Int32) dAd_read_1 zkb_35 <| zw_callS [v0, (.int (35 : Int32))] _ dAd_read_3 hd zk_Ad_22 rfl rfl hl hc (zPi_k kk)
theorem sAd_read_6 {G : zG} {d : Nat} {Q : Option Value → Heap → Prop} {H : Heap} {st : List Value} {o1 : Option Value} {o2 : Option Value} {o3 : Option Value} {o4 : Option Value} {o5 : Option Value} {o6 : Option Value} {o7 : Option Value} {o8 : Option Value} {o9 : Option Value} {o10 : Option Value} {o11 : Option Value} {xs0 : Int32} {v0 : Value} {P : Int32 → Heap → Prop} (hr0 : zRf v0 := by first | exact zRf_ref | exact zRf_null | exact zRf_rf _ | assumption) (hd : 1 ≤ d) (hl : st.length ≤ 4) (hc : zC G (d - 1) M_Ad_placeOrLength [v0, (.int (63 : Int32))] H (zPi P)) (kk : ∀ (r : Int32) (H1 : Heap), P r H1 → zOk G H1 → H.size ≤ H1.size → zT H ≤ zT H1 → zW G d M_Ad_read 13 [some v0, o1, some (.int xs0), o3, o4, o5, o6, o7, o8, o9, o10, o11] ((.int r) :: st) H1 Q) : zW G d M_Ad_read 6 [some v0, o1, o2, o3, o4, o5, o6, o7, o8, o9, o10, o11] ((.int xs0) :: st) H Q :=
  zw_istore_n (i := 2) dAd_read_6 rfl (Nat.le_of_ble_eq_true rfl) <| zw_aload_n (i := 0) dAd_read_7 rfl rfl hr0 <| zw_bipush (63 : Int32) dAd_read_8 zkb_63 <| zw_callS [v0, (.int (63 : Int32))] _ dAd_read_10 hd zk_Ad_22 rfl rfl hl hc (zPi_k kk)
theorem sAd_read_13 {G : zG} {d : Nat} {Q : Option Value → Heap → Prop} {H : Heap} {st : List Value} {o0 : Option Value} {o1 : Option Value} {o3 : Option Value} {o4 : Option Value} {o5 : Option Value} {o6 : Option Value} {o7 : Option Value} {o8 : Option Value} {o9 : Option Value} {o10 : Option Value} {o11 : Option Value} {x2 : Int32} {xs0 : Int32} {P : Int32 → Heap → Prop} (hd : 1 ≤ d) (hl : st.length ≤ 4) (hc : zC G (d - 1) M_Ma_min [(.int xs0), (.int x2)] H (zPi P)) (kk : ∀ (r : Int32) (H1 : Heap), P r H1 → zOk G H1 → H.size ≤ H1.size → zT H ≤ zT H1 → zW G d M_Ad_read 17 [o0, o1, some (.int x2), o3, o4, o5, o6, o7, o8, o9, o10, o11] ((.int r) :: st) H1 Q) : zW G d M_Ad_read 13 [o0, o1, some (.int x2), o3, o4, o5, o6, o7, o8, o9, o10, o11] ((.int xs0) :: st) H Q :=
  zw_iload_n (i := 2) dAd_read_13 rfl rfl <| zw_callS [(.int xs0), (.int x2)] _ dAd_read_14 hd zk_Ad_26 rfl rfl hl hc (zPi_k kk)
theorem sAd_read_17 {G : zG} {d : Nat} {Q : Option Value → Heap → Prop} {H : Heap} {st : List Value} {o1 : Option Value} {o2 : Option Value} {o3 : Option Value} {o4 : Option Value} {o5 : Option Value} {o6 : Option Value} {o7 : Option Value} {o8 : Option Value} {o9 : Option Value} {o10 : Option Value} {o11 : Option Value} {xs0 : Int32} {a0 : Nat} {P : Value → Heap → Prop} (hd : 1 ≤ d) (hl : st.length ≤ 4) (ho : zIs G H a0 8) (hc : zC G (d - 1) M_St_substring_0 [(.ref a0), (.int (0 : Int32)), (.int xs0)] H (zPr P)) (kk : ∀ (r : Value) (H1 : Heap), zRf r → P r H1 → zOk G H1 → H.size ≤ H1.size → zT H ≤ zT H1 → zW G d M_Ad_read 24 [some (.ref a0), o1, o2, some (.int xs0), o4, o5, o6, o7, o8, o9, o10, o11] (r :: st) H1 Q) : zW G d M_Ad_read 17 [some (.ref a0), o1, o2, o3, o4, o5, o6, o7, o8, o9, o10, o11] ((.int xs0) :: st) H Q :=
  zw_istore_n (i := 3) dAd_read_17 rfl (Nat.le_of_ble_eq_true rfl) <| zw_aload_n (i := 0) dAd_read_18 rfl rfl zRf_ref <| zw_iconst (0 : Int32) dAd_read_19 zki_0 <| zw_iload_n (i := 3) dAd_read_20 rfl rfl <| zw_callV [(.int (0 : Int32)), (.int xs0)] _ dAd_read_21 hd zk_Ad_32 ho rfl rfl hl hc (zPr_k kk)
theorem sAd_read_24 {G : zG} {d : Nat} {Q : Option Value → Heap → Prop} {H : Heap} {st : List Value} {o1 : Option Value} {o4 : Option Value} {o5 : Option Value} {o6 : Option Value} {o7 : Option Value} {o8 : Option Value} {o9 : Option Value} {o10 : Option Value} {o11 : Option Value} {vs0 : Value} {a0 : Nat} {x3 : Int32} {x2 : Int32} {P : Value → Heap → Prop} (hrs0 : zRf vs0 := by first | exact zRf_ref | exact zRf_null | exact zRf_rf _ | assumption) (hd : 1 ≤ d) (hl : st.length ≤ 4) (ho : zIs G H a0 8) (hc : zC G (d - 1) M_St_substring_0 [(.ref a0), (.int x3), (.int x2)] H (zPr P)) (kk : ∀ (r : Value) (H1 : Heap), zRf r → P r H1 → zOk G H1 → H.size ≤ H1.size → zT H ≤ zT H1 → zW G d M_Ad_read 32 [some (.ref a0), o1, some (.int x2), some (.int x3), some vs0, o5, o6, o7, o8, o9, o10, o11] (r :: st) H1 Q) : zW G d M_Ad_read 24 [some (.ref a0), o1, some (.int x2), some (.int x3), o4, o5, o6, o7, o8, o9, o10, o11] (vs0 :: st) H Q :=
  zw_astore (i := 4) dAd_read_24 (Nat.le_of_ble_eq_true rfl) hrs0 <| zw_aload_n (i := 0) dAd_read_26 rfl rfl zRf_ref <| zw_iload_n (i := 3) dAd_read_27 rfl rfl <| zw_iload_n (i := 2) dAd_read_28 rfl rfl <| zw_callV [(.int x3), (.int x2)] _ dAd_read_29 hd zk_Ad_32 ho rfl rfl hl hc (zPr_k kk)
theorem sAd_read_32 {G : zG} {d : Nat} {Q : Option Value → Heap → Prop} {H : Heap} {st : List Value} {o1 : Option Value} {o3 : Option Value} {o4 : Option Value} {o5 : Option Value} {o6 : Option Value} {o7 : Option Value} {o8 : Option Value} {o9 : Option Value} {o10 : Option Value} {o11 : Option Value} {vs0 : Value} {a0 : Nat} {x2 : Int32} {P : Value → Heap → Prop} (hrs0 : zRf vs0 := by first | exact zRf_ref | exact zRf_null | exact zRf_rf _ | assumption) (hd : 1 ≤ d) (hl : st.length ≤ 4) (ho : zIs G H a0 8) (hc : zC G (d - 1) M_St_substring_1 [(.ref a0), (.int x2)] H (zPr P)) (kk : ∀ (r : Value) (H1 : Heap), zRf r → P r H1 → zOk G H1 → H.size ≤ H1.size → zT H ≤ zT H1 → zW G d M_Ad_read 39 [some (.ref a0), o1, some (.int x2), o3, o4, some vs0, o6, o7, o8, o9, o10, o11] (r :: st) H1 Q) : zW G d M_Ad_read 32 [some (.ref a0), o1, some (.int x2), o3, o4, o5, o6, o7, o8, o9, o10, o11] (vs0 :: st) H Q :=
  zw_astore (i := 5) dAd_read_32 (Nat.le_of_ble_eq_true rfl) hrs0 <| zw_aload_n (i := 0) dAd_read_34 rfl rfl zRf_ref <| zw_iload_n (i := 2) dAd_read_35 rfl rfl <| zw_callV [(.int x2)] _ dAd_read_36 hd zk_Ad_38 ho rfl rfl hl hc (zPr_k kk)
theorem sAd_read_39 {G : zG} {d : Nat} {Q : Option Value → Heap → Prop} {H : Heap} {st : List Value} {o0 : Option Value} {o1 : Option Value} {o2 : Option Value} {o3 : Option Value} {o4 : Option Value} {o6 : Option Value} {o7 : Option Value} {o8 : Option Value} {o9 : Option Value} {o10 : Option Value} {o11 : Option Value} {vs0 : Value} {v5 : Value} {P : Int32 → Heap → Prop} (hrs0 : zRf vs0 := by first | exact zRf_ref | exact zRf_null | exact zRf_rf _ | assumption) (hr5 : zRf v5 := by first | exact zRf_ref | exact zRf_null | exact zRf_rf _ | assumption) (hd : 1 ≤ d) (hl : st.length ≤ 4) (hc : zC G (d - 1) M_Ad_isQuery [v5] H (zPi P)) (kk : ∀ (r : Int32) (H1 : Heap), P r H1 → zOk G H1 → H.size ≤ H1.size → zT H ≤ zT H1 → zW G d M_Ad_read 46 [o0, o1, o2, o3, o4, some v5, some vs0, o7, o8, o9, o10, o11] ((.int r) :: st) H1 Q) : zW G d M_Ad_read 39 [o0, o1, o2, o3, o4, some v5, o6, o7, o8, o9, o10, o11] (vs0 :: st) H Q :=
  zw_astore (i := 6) dAd_read_39 (Nat.le_of_ble_eq_true rfl) hrs0 <| zw_aload (i := 5) dAd_read_41 rfl hr5 <| zw_callS [v5] _ dAd_read_43 hd zk_Ad_41 rfl rfl hl hc (zPi_k kk)
theorem sAd_read_46 {G : zG} {d : Nat} {Q : Option Value → Heap → Prop} {H : Heap} {st : List Value} {o0 : Option Value} {o1 : Option Value} {o2 : Option Value} {o3 : Option Value} {o4 : Option Value} {o5 : Option Value} {o6 : Option Value} {o7 : Option Value} {o8 : Option Value} {o9 : Option Value} {o10 : Option Value} {o11 : Option Value} {xs0 : Int32} (kt : (xs0 = 0) → zW G d M_Ad_read 69 [o0, o1, o2, o3, o4, o5, o6, o7, o8, o9, o10, o11] st H Q) (kf : (¬ xs0 = 0) → zW G d M_Ad_read 49 [o0, o1, o2, o3, o4, o5, o6, o7, o8, o9, o10, o11] st H Q) : zW G d M_Ad_read 46 [o0, o1, o2, o3, o4, o5, o6, o7, o8, o9, o10, o11] ((.int xs0) :: st) H Q :=
  zw_if_eq 69 dAd_read_46 (by decide) kt kf
theorem sAd_read_49 {G : zG} {d : Nat} {Q : Option Value → Heap → Prop} {H : Heap} {st : List Value} {o0 : Option Value} {o1 : Option Value} {o2 : Option Value} {o3 : Option Value} {o4 : Option Value} {o5 : Option Value} {o7 : Option Value} {o8 : Option Value} {o9 : Option Value} {o10 : Option Value} {o11 : Option Value} {a6 : Nat} {P : Int32 → Heap → Prop} (hd : 1 ≤ d) (hl : st.length ≤ 4) (ho : zIs G H a6 8) (hc : zC G (d - 1) M_St_isEmpty [(.ref a6)] H (zPi P)) (kk : ∀ (r : Int32) (H1 : Heap), P r H1 → zOk G H1 → H.size ≤ H1.size → zT H ≤ zT H1 → zW G d M_Ad_read 54 [o0, o1, o2, o3, o4, o5, some (.ref a6), o7, o8, o9, o10, o11] ((.int r) :: st) H1 Q) : zW G d M_Ad_read 49 [o0, o1, o2, o3, o4, o5, some (.ref a6), o7, o8, o9, o10, o11] st H Q :=
  zw_aload (i := 6) dAd_read_49 rfl zRf_ref <| zw_callV [] _ dAd_read_51 hd zk_Ad_45 ho rfl rfl hl hc (zPi_k kk)
theorem sAd_read_54 {G : zG} {d : Nat} {Q : Option Value → Heap → Prop} {H : Heap} {st : List Value} {o0 : Option Value} {o1 : Option Value} {o2 : Option Value} {o3 : Option Value} {o4 : Option Value} {o5 : Option Value} {o6 : Option Value} {o7 : Option Value} {o8 : Option Value} {o9 : Option Value} {o10 : Option Value} {o11 : Option Value} {xs0 : Int32} (kt : (¬ xs0 = 0) → zW G d M_Ad_read 71 [o0, o1, o2, o3, o4, o5, o6, o7, o8, o9, o10, o11] st H Q) (kf : (xs0 = 0) → zW G d M_Ad_read 57 [o0, o1, o2, o3, o4, o5, o6, o7, o8, o9, o10, o11] st H Q) : zW G d M_Ad_read 54 [o0, o1, o2, o3, o4, o5, o6, o7, o8, o9, o10, o11] ((.int xs0) :: st) H Q :=
  zw_if_ne 71 dAd_read_54 (by decide) kt kf
theorem sAd_read_57 {G : zG} {d : Nat} {Q : Option Value → Heap → Prop} {H : Heap} {st : List Value} {o0 : Option Value} {o1 : Option Value} {o2 : Option Value} {o3 : Option Value} {o4 : Option Value} {o5 : Option Value} {o7 : Option Value} {o8 : Option Value} {o9 : Option Value} {o10 : Option Value} {o11 : Option Value} {a6 : Nat} {P : Value → Heap → Prop} (hd : 1 ≤ d) (hl : st.length ≤ 4) (ho : zIs G H a6 8) (hc : zC G (d - 1) M_St_substring_1 [(.ref a6), (.int (1 : Int32))] H (zPr P)) (kk : ∀ (r : Value) (H1 : Heap), zRf r → P r H1 → zOk G H1 → H.size ≤ H1.size → zT H ≤ zT H1 → zW G d M_Ad_read 63 [o0, o1, o2, o3, o4, o5, some (.ref a6), o7, o8, o9, o10, o11] (r :: st) H1 Q) : zW G d M_Ad_read 57 [o0, o1, o2, o3, o4, o5, some (.ref a6), o7, o8, o9, o10, o11] st H Q :=
  zw_aload (i := 6) dAd_read_57 rfl zRf_ref <| zw_iconst (1 : Int32) dAd_read_59 zki_1 <| zw_callV [(.int (1 : Int32))] _ dAd_read_60 hd zk_Ad_38 ho rfl rfl hl hc (zPr_k kk)
theorem sAd_read_63 {G : zG} {d : Nat} {Q : Option Value → Heap → Prop} {H : Heap} {st : List Value} {o0 : Option Value} {o1 : Option Value} {o2 : Option Value} {o3 : Option Value} {o4 : Option Value} {o5 : Option Value} {o6 : Option Value} {o7 : Option Value} {o8 : Option Value} {o9 : Option Value} {o10 : Option Value} {o11 : Option Value} {vs0 : Value} {P : Int32 → Heap → Prop} (hrs0 : zRf vs0 := by first | exact zRf_ref | exact zRf_null | exact zRf_rf _ | assumption) (hd : 1 ≤ d) (hl : st.length ≤ 4) (hc : zC G (d - 1) M_Tx_isName [vs0] H (zPi P)) (kk : ∀ (r : Int32) (H1 : Heap), P r H1 → zOk G H1 → H.size ≤ H1.size → zT H ≤ zT H1 → zW G d M_Ad_read 66 [o0, o1, o2, o3, o4, o5, o6, o7, o8, o9, o10, o11] ((.int r) :: st) H1 Q) : zW G d M_Ad_read 63 [o0, o1, o2, o3, o4, o5, o6, o7, o8, o9, o10, o11] (vs0 :: st) H Q :=
  zw_callS [vs0] _ dAd_read_63 hd zk_Ad_49 rfl rfl hl hc (zPi_k kk)
theorem sAd_read_66 {G : zG} {d : Nat} {Q : Option Value → Heap → Prop} {H : Heap} {st : List Value} {o0 : Option Value} {o1 : Option Value} {o2 : Option Value} {o3 : Option Value} {o4 : Option Value} {o5 : Option Value} {o6 : Option Value} {o7 : Option Value} {o8 : Option Value} {o9 : Option Value} {o10 : Option Value} {o11 : Option Value} {xs0 : Int32} (kt : (¬ xs0 = 0) → zW G d M_Ad_read 71 [o0, o1, o2, o3, o4, o5, o6, o7, o8, o9, o10, o11] st H Q) (kf : (xs0 = 0) → zW G d M_Ad_read 69 [o0, o1, o2, o3, o4, o5, o6, o7, o8, o9, o10, o11] st H Q) : zW G d M_Ad_read 66 [o0, o1, o2, o3, o4, o5, o6, o7, o8, o9, o10, o11] ((.int xs0) :: st) H Q :=
  zw_if_ne 71 dAd_read_66 (by decide) kt kf
theorem sAd_read_69 {G : zG} {d : Nat} {Q : Option Value → Heap → Prop} {H : Heap} {o0 : Option Value} {o1 : Option Value} {o2 : Option Value} {o3 : Option Value} {o4 : Option Value} {o5 : Option Value} {o6 : Option Value} {o7 : Option Value} {o8 : Option Value} {o9 : Option Value} {o10 : Option Value} {o11 : Option Value} (hq : Q (some .null) H) : zW G d M_Ad_read 69 [o0, o1, o2, o3, o4, o5, o6, o7, o8, o9, o10, o11] [] H Q :=
  zw_null dAd_read_69 <| zw_aret dAd_read_70 (.object "NetDesk$Address") rfl (Or.inl ⟨_, rfl⟩) zRf_null hq
theorem sAd_read_71 {G : zG} {d : Nat} {Q : Option Value → Heap → Prop} {H : Heap} {st : List Value} {o0 : Option Value} {o1 : Option Value} {o2 : Option Value} {o3 : Option Value} {o5 : Option Value} {o6 : Option Value} {o7 : Option Value} {o8 : Option Value} {o9 : Option Value} {o10 : Option Value} {o11 : Option Value} {a4 : Nat} {P : Int32 → Heap → Prop} (hd : 1 ≤ d) (hl : st.length ≤ 4) (ho : zIs G H a4 8) (hc : zC G (d - 1) M_St_isEmpty [(.ref a4)] H (zPi P)) (kk : ∀ (r : Int32) (H1 : Heap), P r H1 → zOk G H1 → H.size ≤ H1.size → zT H ≤ zT H1 → zW G d M_Ad_read 76 [o0, o1, o2, o3, some (.ref a4), o5, o6, o7, o8, o9, o10, o11] ((.int r) :: st) H1 Q) : zW G d M_Ad_read 71 [o0, o1, o2, o3, some (.ref a4), o5, o6, o7, o8, o9, o10, o11] st H Q :=
  zw_aload (i := 4) dAd_read_71 rfl zRf_ref <| zw_callV [] _ dAd_read_73 hd zk_Ad_45 ho rfl rfl hl hc (zPi_k kk)
theorem sAd_read_76 {G : zG} {d : Nat} {Q : Option Value → Heap → Prop} {H : Heap} {st : List Value} {o0 : Option Value} {o1 : Option Value} {o2 : Option Value} {o3 : Option Value} {o4 : Option Value} {o5 : Option Value} {o6 : Option Value} {o7 : Option Value} {o8 : Option Value} {o9 : Option Value} {o10 : Option Value} {o11 : Option Value} {xs0 : Int32} (kt : (xs0 = 0) → zW G d M_Ad_read 114 [o0, o1, o2, o3, o4, o5, o6, o7, o8, o9, o10, o11] st H Q) (kf : (¬ xs0 = 0) → zW G d M_Ad_read 79 [o0, o1, o2, o3, o4, o5, o6, o7, o8, o9, o10, o11] st H Q) : zW G d M_Ad_read 76 [o0, o1, o2, o3, o4, o5, o6, o7, o8, o9, o10, o11] ((.int xs0) :: st) H Q :=
  zw_if_eq 114 dAd_read_76 (by decide) kt kf
theorem sAd_read_79 {G : zG} {d : Nat} {Q : Option Value → Heap → Prop} {H : Heap} {st : List Value} {o0 : Option Value} {o1 : Option Value} {o2 : Option Value} {o3 : Option Value} {o4 : Option Value} {o5 : Option Value} {o6 : Option Value} {o7 : Option Value} {o8 : Option Value} {o9 : Option Value} {o10 : Option Value} {o11 : Option Value} (hc1 : H.size + 1 ≤ zCp G) (hs1 : zT H + 4 ≤ zSp G) (kk : ∀ H1 : Heap, zObj G H1 H.size 2 [.null, .null, .null, .null] → zNw 4 H H1 → zW G d M_Ad_read 82 [o0, o1, o2, o3, o4, o5, o6, o7, o8, o9, o10, o11] ((.ref H.size) :: st) H1 Q) : zW G d M_Ad_read 79 [o0, o1, o2, o3, o4, o5, o6, o7, o8, o9, o10, o11] st H Q :=
  zw_new dAd_read_79 zn_Ad_read_8 hc1 hs1 kk
theorem sAd_read_82 {G : zG} {d : Nat} {Q : Option Value → Heap → Prop} {H : Heap} {st : List Value} {o0 : Option Value} {o2 : Option Value} {o3 : Option Value} {o4 : Option Value} {o6 : Option Value} {o7 : Option Value} {o8 : Option Value} {o9 : Option Value} {o10 : Option Value} {o11 : Option Value} {ws0 : Value} {a1 : Nat} {vf1 : Value} {vf2 : Value} {a5 : Nat} {P : Int32 → Heap → Prop} (hcs0 : ws0.category = 1 := by first | rfl | exact zRf.cat (by assumption)) (hrf1 : zRf vf1 := by first | exact zRf_ref | exact zRf_null | exact zRf_rf _ | assumption) (hrf2 : zRf vf2 := by first | exact zRf_ref | exact zRf_null | exact zRf_rf _ | assumption) (hf1 : zFd G H a1 2 0 vf1) (hf2 : zFd G H a1 2 1 vf2) (hd : 1 ≤ d) (hl : (vf2 :: vf1 :: ws0 :: ws0 :: st).length ≤ 4) (ho : zIs G H a5 8) (hc : zC G (d - 1) M_St_isEmpty [(.ref a5)] H (zPi P)) (kk : ∀ (r : Int32) (H1 : Heap), P r H1 → zOk G H1 → H.size ≤ H1.size → zT H ≤ zT H1 → zW G d M_Ad_read 96 [o0, some (.ref a1), o2, o3, o4, some (.ref a5), o6, o7, o8, o9, o10, o11] ((.int r) :: vf2 :: vf1 :: ws0 :: ws0 :: st) H1 Q) : zW G d M_Ad_read 82 [o0, some (.ref a1), o2, o3, o4, some (.ref a5), o6, o7, o8, o9, o10, o11] (ws0 :: st) H Q :=
  zw_dup dAd_read_82 hcs0 <| zw_aload_n (i := 1) dAd_read_83 rfl rfl zRf_ref <| zw_getf dAd_read_84 zf_Ad_7 hf1 <| zw_aload_n (i := 1) dAd_read_87 rfl rfl zRf_ref <| zw_getf dAd_read_88 zf_Ad_13 hf2 <| zw_aload (i := 5) dAd_read_91 rfl zRf_ref <| zw_callV [] _ dAd_read_93 hd zk_Ad_45 ho rfl rfl hl hc (zPi_k kk)
theorem sAd_read_96 {G : zG} {d : Nat} {Q : Option Value → Heap → Prop} {H : Heap} {st : List Value} {o0 : Option Value} {o1 : Option Value} {o2 : Option Value} {o3 : Option Value} {o4 : Option Value} {o5 : Option Value} {o6 : Option Value} {o7 : Option Value} {o8 : Option Value} {o9 : Option Value} {o10 : Option Value} {o11 : Option Value} {xs0 : Int32} (kt : (xs0 = 0) → zW G d M_Ad_read 106 [o0, o1, o2, o3, o4, o5, o6, o7, o8, o9, o10, o11] st H Q) (kf : (¬ xs0 = 0) → zW G d M_Ad_read 99 [o0, o1, o2, o3, o4, o5, o6, o7, o8, o9, o10, o11] st H Q) : zW G d M_Ad_read 96 [o0, o1, o2, o3, o4, o5, o6, o7, o8, o9, o10, o11] ((.int xs0) :: st) H Q :=
  zw_if_eq 106 dAd_read_96 (by decide) kt kf
theorem sAd_read_99 {G : zG} {d : Nat} {Q : Option Value → Heap → Prop} {H : Heap} {st : List Value} {o0 : Option Value} {o2 : Option Value} {o3 : Option Value} {o4 : Option Value} {o5 : Option Value} {o7 : Option Value} {o8 : Option Value} {o9 : Option Value} {o10 : Option Value} {o11 : Option Value} {a1 : Nat} {vf1 : Value} {v6 : Value} {vs0 : Value} {vs1 : Value} {as2 : Nat} {P : Heap → Prop} (hrf1 : zRf vf1 := by first | exact zRf_ref | exact zRf_null | exact zRf_rf _ | assumption) (hr6 : zRf v6 := by first | exact zRf_ref | exact zRf_null | exact zRf_rf _ | assumption) (hrs0 : zRf vs0 := by first | exact zRf_ref | exact zRf_null | exact zRf_rf _ | assumption) (hrs1 : zRf vs1 := by first | exact zRf_ref | exact zRf_null | exact zRf_rf _ | assumption) (hf1 : zFd G H a1 2 2 vf1) (hd : 1 ≤ d) (hl : st.length ≤ 4) (hc : zC G (d - 1) M_Ad_init [(.ref as2), vs1, vs0, vf1, v6] H (zPv P)) (kk : ∀ H1 : Heap, P H1 → zOk G H1 → H.size ≤ H1.size → zT H ≤ zT H1 → zW G d M_Ad_read 113 [o0, some (.ref a1), o2, o3, o4, o5, some v6, o7, o8, o9, o10, o11] st H1 Q) : zW G d M_Ad_read 99 [o0, some (.ref a1), o2, o3, o4, o5, some v6, o7, o8, o9, o10, o11] (vs0 :: vs1 :: (.ref as2) :: st) H Q :=
  zw_aload_n (i := 1) dAd_read_99 rfl rfl zRf_ref <| zw_getf dAd_read_100 zf_Ad_16 hf1 <| zw_goto 108 dAd_read_103 (by decide) <| zw_aload (i := 6) dAd_read_108 rfl hr6 <| zw_callI [vs1, vs0, vf1, v6] _ dAd_read_110 hd zk_Ad_54 rfl rfl hl hc (zPv_k kk)
theorem sAd_read_106 {G : zG} {d : Nat} {Q : Option Value → Heap → Prop} {H : Heap} {st : List Value} {o0 : Option Value} {o1 : Option Value} {o2 : Option Value} {o3 : Option Value} {o4 : Option Value} {o7 : Option Value} {o8 : Option Value} {o9 : Option Value} {o10 : Option Value} {o11 : Option Value} {v5 : Value} {v6 : Value} {vs0 : Value} {vs1 : Value} {as2 : Nat} {P : Heap → Prop} (hr5 : zRf v5 := by first | exact zRf_ref | exact zRf_null | exact zRf_rf _ | assumption) (hr6 : zRf v6 := by first | exact zRf_ref | exact zRf_null | exact zRf_rf _ | assumption) (hrs0 : zRf vs0 := by first | exact zRf_ref | exact zRf_null | exact zRf_rf _ | assumption) (hrs1 : zRf vs1 := by first | exact zRf_ref | exact zRf_null | exact zRf_rf _ | assumption) (hd : 1 ≤ d) (hl : st.length ≤ 4) (hc : zC G (d - 1) M_Ad_init [(.ref as2), vs1, vs0, v5, v6] H (zPv P)) (kk : ∀ H1 : Heap, P H1 → zOk G H1 → H.size ≤ H1.size → zT H ≤ zT H1 → zW G d M_Ad_read 113 [o0, o1, o2, o3, o4, some v5, some v6, o7, o8, o9, o10, o11] st H1 Q) : zW G d M_Ad_read 106 [o0, o1, o2, o3, o4, some v5, some v6, o7, o8, o9, o10, o11] (vs0 :: vs1 :: (.ref as2) :: st) H Q :=
  zw_aload (i := 5) dAd_read_106 rfl hr5 <| zw_aload (i := 6) dAd_read_108 rfl hr6 <| zw_callI [vs1, vs0, v5, v6] _ dAd_read_110 hd zk_Ad_54 rfl rfl hl hc (zPv_k kk)
theorem sAd_read_108 {G : zG} {d : Nat} {Q : Option Value → Heap → Prop} {H : Heap} {st : List Value} {o0 : Option Value} {o1 : Option Value} {o2 : Option Value} {o3 : Option Value} {o4 : Option Value} {o5 : Option Value} {o7 : Option Value} {o8 : Option Value} {o9 : Option Value} {o10 : Option Value} {o11 : Option Value} {v6 : Value} {vs0 : Value} {vs1 : Value} {vs2 : Value} {as3 : Nat} {P : Heap → Prop} (hr6 : zRf v6 := by first | exact zRf_ref | exact zRf_null | exact zRf_rf _ | assumption) (hrs0 : zRf vs0 := by first | exact zRf_ref | exact zRf_null | exact zRf_rf _ | assumption) (hrs1 : zRf vs1 := by first | exact zRf_ref | exact zRf_null | exact zRf_rf _ | assumption) (hrs2 : zRf vs2 := by first | exact zRf_ref | exact zRf_null | exact zRf_rf _ | assumption) (hd : 1 ≤ d) (hl : st.length ≤ 4) (hc : zC G (d - 1) M_Ad_init [(.ref as3), vs2, vs1, vs0, v6] H (zPv P)) (kk : ∀ H1 : Heap, P H1 → zOk G H1 → H.size ≤ H1.size → zT H ≤ zT H1 → zW G d M_Ad_read 113 [o0, o1, o2, o3, o4, o5, some v6, o7, o8, o9, o10, o11] st H1 Q) : zW G d M_Ad_read 108 [o0, o1, o2, o3, o4, o5, some v6, o7, o8, o9, o10, o11] (vs0 :: vs1 :: vs2 :: (.ref as3) :: st) H Q :=
  zw_aload (i := 6) dAd_read_108 rfl hr6 <| zw_callI [vs2, vs1, vs0, v6] _ dAd_read_110 hd zk_Ad_54 rfl rfl hl hc (zPv_k kk)
theorem sAd_read_113 {G : zG} {d : Nat} {Q : Option Value → Heap → Prop} {H : Heap} {o0 : Option Value} {o1 : Option Value} {o2 : Option Value} {o3 : Option Value} {o4 : Option Value} {o5 : Option Value} {o6 : Option Value} {o7 : Option Value} {o8 : Option Value} {o9 : Option Value} {o10 : Option Value} {o11 : Option Value} {vs0 : Value} (hrs0 : zRf vs0 := by first | exact zRf_ref | exact zRf_null | exact zRf_rf _ | assumption) (hq : Q (some vs0) H) : zW G d M_Ad_read 113 [o0, o1, o2, o3, o4, o5, o6, o7, o8, o9, o10, o11] (vs0 :: []) H Q :=
  zw_aret dAd_read_113 (.object "NetDesk$Address") rfl (Or.inl ⟨_, rfl⟩) hrs0 hq
theorem sAd_read_114 {G : zG} {d : Nat} {Q : Option Value → Heap → Prop} {H : Heap} {st : List Value} {o0 : Option Value} {o2 : Option Value} {o3 : Option Value} {o5 : Option Value} {o6 : Option Value} {o7 : Option Value} {o8 : Option Value} {o9 : Option Value} {o10 : Option Value} {o11 : Option Value} {a1 : Nat} {vf1 : Value} {v4 : Value} (hrf1 : zRf vf1 := by first | exact zRf_ref | exact zRf_null | exact zRf_rf _ | assumption) (hr4 : zRf v4 := by first | exact zRf_ref | exact zRf_null | exact zRf_rf _ | assumption) (hf1 : zFd G H a1 2 0 vf1) (hc1 : H.size + 1 ≤ zCp G) (hs1 : zT H + 2 ≤ zSp G) (kk : ∀ H1 : Heap, zObj G H1 H.size 9 [.null, .int 0] → zNw 2 H H1 → zW G d M_Ad_read 127 [o0, some (.ref a1), o2, o3, some v4, o5, o6, some vf1, some v4, o9, o10, o11] ((.ref H.size) :: st) H1 Q) : zW G d M_Ad_read 114 [o0, some (.ref a1), o2, o3, some v4, o5, o6, o7, o8, o9, o10, o11] st H Q :=
  zw_aload_n (i := 1) dAd_read_114 rfl rfl zRf_ref <| zw_getf dAd_read_115 zf_Ad_7 hf1 <| zw_astore (i := 7) dAd_read_118 (Nat.le_of_ble_eq_true rfl) hrf1 <| zw_aload (i := 4) dAd_read_120 rfl hr4 <| zw_astore (i := 8) dAd_read_122 (Nat.le_of_ble_eq_true rfl) hr4 <| zw_new dAd_read_124 zn_Ad_read_57 hc1 hs1 kk
theorem sAd_read_127 {G : zG} {d : Nat} {Q : Option Value → Heap → Prop} {H : Heap} {st : List Value} {o0 : Option Value} {o1 : Option Value} {o2 : Option Value} {o3 : Option Value} {o4 : Option Value} {o5 : Option Value} {o6 : Option Value} {o7 : Option Value} {o8 : Option Value} {o9 : Option Value} {o10 : Option Value} {o11 : Option Value} {as0 : Nat} {P : Heap → Prop} (hd : 1 ≤ d) (hl : ((.ref as0) :: st).length ≤ 4) (hc : zC G (d - 1) M_Pt_init [(.ref as0)] H (zPv P)) (kk : ∀ H1 : Heap, P H1 → zOk G H1 → H.size ≤ H1.size → zT H ≤ zT H1 → zW G d M_Ad_read 131 [o0, o1, o2, o3, o4, o5, o6, o7, o8, o9, o10, o11] ((.ref as0) :: st) H1 Q) : zW G d M_Ad_read 127 [o0, o1, o2, o3, o4, o5, o6, o7, o8, o9, o10, o11] ((.ref as0) :: st) H Q :=
  zw_dup dAd_read_127 rfl <| zw_callI [] _ dAd_read_128 hd zk_Ad_59 rfl rfl hl hc (zPv_k kk)
theorem sAd_read_131 {G : zG} {d : Nat} {Q : Option Value → Heap → Prop} {H : Heap} {st : List Value} {o0 : Option Value} {o1 : Option Value} {o2 : Option Value} {o3 : Option Value} {o5 : Option Value} {o6 : Option Value} {o7 : Option Value} {o8 : Option Value} {o9 : Option Value} {o10 : Option Value} {o11 : Option Value} {vs0 : Value} {v4 : Value} {ak1 : Nat} {P : Int32 → Heap → Prop} (hrs0 : zRf vs0 := by first | exact zRf_ref | exact zRf_null | exact zRf_rf _ | assumption) (hr4 : zRf v4 := by first | exact zRf_ref | exact zRf_null | exact zRf_rf _ | assumption) (hk1 : vk_R "NetDesk$Address" 60 "//" ak1 (zS G)) (hd : 1 ≤ d) (hl : st.length ≤ 4) (hc : zC G (d - 1) M_Tx_begins [v4, (.ref ak1)] H (zPi P)) (kk : ∀ (r : Int32) (H1 : Heap), P r H1 → zOk G H1 → H.size ≤ H1.size → zT H ≤ zT H1 → zW G d M_Ad_read 140 [o0, o1, o2, o3, some v4, o5, o6, o7, o8, some vs0, o10, o11] ((.int r) :: st) H1 Q) : zW G d M_Ad_read 131 [o0, o1, o2, o3, some v4, o5, o6, o7, o8, o9, o10, o11] (vs0 :: st) H Q :=
  zw_astore (i := 9) dAd_read_131 (Nat.le_of_ble_eq_true rfl) hrs0 <| zw_aload (i := 4) dAd_read_133 rfl hr4 <| zw_ldcS dAd_read_135 rfl hk1 <| zw_callS [v4, (.ref ak1)] _ dAd_read_137 hd zk_Ad_62 rfl rfl hl hc (zPi_k kk)
theorem sAd_read_140 {G : zG} {d : Nat} {Q : Option Value → Heap → Prop} {H : Heap} {st : List Value} {o0 : Option Value} {o1 : Option Value} {o2 : Option Value} {o3 : Option Value} {o4 : Option Value} {o5 : Option Value} {o6 : Option Value} {o7 : Option Value} {o8 : Option Value} {o9 : Option Value} {o10 : Option Value} {o11 : Option Value} {xs0 : Int32} (kt : (xs0 = 0) → zW G d M_Ad_read 199 [o0, o1, o2, o3, o4, o5, o6, o7, o8, o9, o10, o11] st H Q) (kf : (¬ xs0 = 0) → zW G d M_Ad_read 143 [o0, o1, o2, o3, o4, o5, o6, o7, o8, o9, o10, o11] st H Q) : zW G d M_Ad_read 140 [o0, o1, o2, o3, o4, o5, o6, o7, o8, o9, o10, o11] ((.int xs0) :: st) H Q :=
  zw_if_eq 199 dAd_read_140 (by decide) kt kf
theorem sAd_read_143 {G : zG} {d : Nat} {Q : Option Value → Heap → Prop} {H : Heap} {st : List Value} {o0 : Option Value} {o1 : Option Value} {o2 : Option Value} {o3 : Option Value} {o5 : Option Value} {o6 : Option Value} {o7 : Option Value} {o8 : Option Value} {o9 : Option Value} {o10 : Option Value} {o11 : Option Value} {a4 : Nat} {P : Value → Heap → Prop} (hd : 1 ≤ d) (hl : st.length ≤ 4) (ho : zIs G H a4 8) (hc : zC G (d - 1) M_St_substring_1 [(.ref a4), (.int (2 : Int32))] H (zPr P)) (kk : ∀ (r : Value) (H1 : Heap), zRf r → P r H1 → zOk G H1 → H.size ≤ H1.size → zT H ≤ zT H1 → zW G d M_Ad_read 149 [o0, o1, o2, o3, some (.ref a4), o5, o6, o7, o8, o9, o10, o11] (r :: st) H1 Q) : zW G d M_Ad_read 143 [o0, o1, o2, o3, some (.ref a4), o5, o6, o7, o8, o9, o10, o11] st H Q :=
  zw_aload (i := 4) dAd_read_143 rfl zRf_ref <| zw_iconst (2 : Int32) dAd_read_145 zki_2 <| zw_callV [(.int (2 : Int32))] _ dAd_read_146 hd zk_Ad_38 ho rfl rfl hl hc (zPr_k kk)
theorem sAd_read_149 {G : zG} {d : Nat} {Q : Option Value → Heap → Prop} {H : Heap} {st : List Value} {o0 : Option Value} {o1 : Option Value} {o2 : Option Value} {o3 : Option Value} {o4 : Option Value} {o5 : Option Value} {o6 : Option Value} {o7 : Option Value} {o8 : Option Value} {o9 : Option Value} {o10 : Option Value} {o11 : Option Value} {vs0 : Value} {P : Int32 → Heap → Prop} (hrs0 : zRf vs0 := by first | exact zRf_ref | exact zRf_null | exact zRf_rf _ | assumption) (hd : 1 ≤ d) (hl : st.length ≤ 4) (hc : zC G (d - 1) M_Ad_placeOrLength [vs0, (.int (47 : Int32))] H (zPi P)) (kk : ∀ (r : Int32) (H1 : Heap), P r H1 → zOk G H1 → H.size ≤ H1.size → zT H ≤ zT H1 → zW G d M_Ad_read 158 [o0, o1, o2, o3, o4, o5, o6, o7, o8, o9, some vs0, o11] ((.int r) :: st) H1 Q) : zW G d M_Ad_read 149 [o0, o1, o2, o3, o4, o5, o6, o7, o8, o9, o10, o11] (vs0 :: st) H Q :=
  zw_astore (i := 10) dAd_read_149 (Nat.le_of_ble_eq_true rfl) hrs0 <| zw_aload (i := 10) dAd_read_151 rfl hrs0 <| zw_bipush (47 : Int32) dAd_read_153 zkb_47 <| zw_callS [vs0, (.int (47 : Int32))] _ dAd_read_155 hd zk_Ad_22 rfl rfl hl hc (zPi_k kk)
theorem sAd_read_158 {G : zG} {d : Nat} {Q : Option Value → Heap → Prop} {H : Heap} {st : List Value} {o0 : Option Value} {o1 : Option Value} {o2 : Option Value} {o3 : Option Value} {o4 : Option Value} {o5 : Option Value} {o6 : Option Value} {o7 : Option Value} {o8 : Option Value} {o9 : Option Value} {o11 : Option Value} {xs0 : Int32} {a10 : Nat} {P : Value → Heap → Prop} (hd : 1 ≤ d) (hl : st.length ≤ 4) (ho : zIs G H a10 8) (hc : zC G (d - 1) M_St_substring_0 [(.ref a10), (.int (0 : Int32)), (.int xs0)] H (zPr P)) (kk : ∀ (r : Value) (H1 : Heap), zRf r → P r H1 → zOk G H1 → H.size ≤ H1.size → zT H ≤ zT H1 → zW G d M_Ad_read 168 [o0, o1, o2, o3, o4, o5, o6, o7, o8, o9, some (.ref a10), some (.int xs0)] (r :: st) H1 Q) : zW G d M_Ad_read 158 [o0, o1, o2, o3, o4, o5, o6, o7, o8, o9, some (.ref a10), o11] ((.int xs0) :: st) H Q :=
  zw_istore (i := 11) dAd_read_158 (Nat.le_of_ble_eq_true rfl) <| zw_aload (i := 10) dAd_read_160 rfl zRf_ref <| zw_iconst (0 : Int32) dAd_read_162 zki_0 <| zw_iload (i := 11) dAd_read_163 rfl <| zw_callV [(.int (0 : Int32)), (.int xs0)] _ dAd_read_165 hd zk_Ad_32 ho rfl rfl hl hc (zPr_k kk)
theorem sAd_read_168 {G : zG} {d : Nat} {Q : Option Value → Heap → Prop} {H : Heap} {st : List Value} {o0 : Option Value} {o1 : Option Value} {o2 : Option Value} {o3 : Option Value} {o4 : Option Value} {o5 : Option Value} {o6 : Option Value} {o7 : Option Value} {o8 : Option Value} {o9 : Option Value} {vs0 : Value} {x11 : Int32} {a10 : Nat} {P : Int32 → Heap → Prop} (hrs0 : zRf vs0 := by first | exact zRf_ref | exact zRf_null | exact zRf_rf _ | assumption) (hd : 1 ≤ d) (hl : ((.int x11) :: st).length ≤ 4) (ho : zIs G H a10 8) (hc : zC G (d - 1) M_St_length [(.ref a10)] H (zPi P)) (kk : ∀ (r : Int32) (H1 : Heap), P r H1 → zOk G H1 → H.size ≤ H1.size → zT H ≤ zT H1 → zW G d M_Ad_read 177 [o0, o1, o2, o3, o4, o5, o6, some vs0, o8, o9, some (.ref a10), some (.int x11)] ((.int r) :: (.int x11) :: st) H1 Q) : zW G d M_Ad_read 168 [o0, o1, o2, o3, o4, o5, o6, o7, o8, o9, some (.ref a10), some (.int x11)] (vs0 :: st) H Q :=
  zw_astore (i := 7) dAd_read_168 (Nat.le_of_ble_eq_true rfl) hrs0 <| zw_iload (i := 11) dAd_read_170 rfl <| zw_aload (i := 10) dAd_read_172 rfl zRf_ref <| zw_callV [] _ dAd_read_174 hd zk_Ad_66 ho rfl rfl hl hc (zPi_k kk)
theorem sAd_read_177 {G : zG} {d : Nat} {Q : Option Value → Heap → Prop} {H : Heap} {st : List Value} {o0 : Option Value} {o1 : Option Value} {o2 : Option Value} {o3 : Option Value} {o4 : Option Value} {o5 : Option Value} {o6 : Option Value} {o7 : Option Value} {o8 : Option Value} {o9 : Option Value} {o10 : Option Value} {o11 : Option Value} {xs0 : Int32} {xs1 : Int32} (kt : (xs0 ≤ xs1) → zW G d M_Ad_read 192 [o0, o1, o2, o3, o4, o5, o6, o7, o8, o9, o10, o11] st H Q) (kf : (¬ xs0 ≤ xs1) → zW G d M_Ad_read 180 [o0, o1, o2, o3, o4, o5, o6, o7, o8, o9, o10, o11] st H Q) : zW G d M_Ad_read 177 [o0, o1, o2, o3, o4, o5, o6, o7, o8, o9, o10, o11] ((.int xs0) :: (.int xs1) :: st) H Q :=
  zw_icmp_ge 192 dAd_read_177 (by decide) kt kf
theorem sAd_read_180 {G : zG} {d : Nat} {Q : Option Value → Heap → Prop} {H : Heap} {st : List Value} {o0 : Option Value} {o1 : Option Value} {o2 : Option Value} {o3 : Option Value} {o4 : Option Value} {o5 : Option Value} {o6 : Option Value} {o7 : Option Value} {o8 : Option Value} {o9 : Option Value} {a10 : Nat} {x11 : Int32} {P : Value → Heap → Prop} (hd : 1 ≤ d) (hl : st.length ≤ 4) (ho : zIs G H a10 8) (hc : zC G (d - 1) M_St_substring_1 [(.ref a10), (.int (x11 + (1 : Int32)))] H (zPr P)) (kk : ∀ (r : Value) (H1 : Heap), zRf r → P r H1 → zOk G H1 → H.size ≤ H1.size → zT H ≤ zT H1 → zW G d M_Ad_read 189 [o0, o1, o2, o3, o4, o5, o6, o7, o8, o9, some (.ref a10), some (.int x11)] (r :: st) H1 Q) : zW G d M_Ad_read 180 [o0, o1, o2, o3, o4, o5, o6, o7, o8, o9, some (.ref a10), some (.int x11)] st H Q :=
  zw_aload (i := 10) dAd_read_180 rfl zRf_ref <| zw_iload (i := 11) dAd_read_182 rfl <| zw_iconst (1 : Int32) dAd_read_184 zki_1 <| zw_iadd dAd_read_185 <| zw_callV [(.int (x11 + (1 : Int32)))] _ dAd_read_186 hd zk_Ad_38 ho rfl rfl hl hc (zPr_k kk)
theorem sAd_read_189 {G : zG} {d : Nat} {Q : Option Value → Heap → Prop} {H : Heap} {st : List Value} {o0 : Option Value} {o1 : Option Value} {o2 : Option Value} {o3 : Option Value} {o4 : Option Value} {o5 : Option Value} {o6 : Option Value} {o8 : Option Value} {o9 : Option Value} {o10 : Option Value} {o11 : Option Value} {vs0 : Value} {v7 : Value} {P : Int32 → Heap → Prop} (hrs0 : zRf vs0 := by first | exact zRf_ref | exact zRf_null | exact zRf_rf _ | assumption) (hr7 : zRf v7 := by first | exact zRf_ref | exact zRf_null | exact zRf_rf _ | assumption) (hd : 1 ≤ d) (hl : st.length ≤ 4) (hc : zC G (d - 1) M_Tx_isName [v7] H (zPi P)) (kk : ∀ (r : Int32) (H1 : Heap), P r H1 → zOk G H1 → H.size ≤ H1.size → zT H ≤ zT H1 → zW G d M_Ad_read 231 [o0, o1, o2, o3, o4, o5, o6, some v7, some vs0, o9, o10, o11] ((.int r) :: st) H1 Q) : zW G d M_Ad_read 189 [o0, o1, o2, o3, o4, o5, o6, some v7, o8, o9, o10, o11] (vs0 :: st) H Q :=
  zw_goto 194 dAd_read_189 (by decide) <| zw_astore (i := 8) dAd_read_194 (Nat.le_of_ble_eq_true rfl) hrs0 <| zw_goto 226 dAd_read_196 (by decide) <| zw_aload (i := 7) dAd_read_226 rfl hr7 <| zw_callS [v7] _ dAd_read_228 hd zk_Ad_49 rfl rfl hl hc (zPi_k kk)
theorem sAd_read_192 {G : zG} {d : Nat} {Q : Option Value → Heap → Prop} {H : Heap} {st : List Value} {o0 : Option Value} {o1 : Option Value} {o2 : Option Value} {o3 : Option Value} {o4 : Option Value} {o5 : Option Value} {o6 : Option Value} {o8 : Option Value} {o9 : Option Value} {o10 : Option Value} {o11 : Option Value} {ak1 : Nat} {v7 : Value} {P : Int32 → Heap → Prop} (hr7 : zRf v7 := by first | exact zRf_ref | exact zRf_null | exact zRf_rf _ | assumption) (hk1 : vk_R "NetDesk$Address" 70 "" ak1 (zS G)) (hd : 1 ≤ d) (hl : st.length ≤ 4) (hc : zC G (d - 1) M_Tx_isName [v7] H (zPi P)) (kk : ∀ (r : Int32) (H1 : Heap), P r H1 → zOk G H1 → H.size ≤ H1.size → zT H ≤ zT H1 → zW G d M_Ad_read 231 [o0, o1, o2, o3, o4, o5, o6, some v7, some (.ref ak1), o9, o10, o11] ((.int r) :: st) H1 Q) : zW G d M_Ad_read 192 [o0, o1, o2, o3, o4, o5, o6, some v7, o8, o9, o10, o11] st H Q :=
  zw_ldcS dAd_read_192 rfl hk1 <| zw_astore (i := 8) dAd_read_194 (Nat.le_of_ble_eq_true rfl) zRf_ref <| zw_goto 226 dAd_read_196 (by decide) <| zw_aload (i := 7) dAd_read_226 rfl hr7 <| zw_callS [v7] _ dAd_read_228 hd zk_Ad_49 rfl rfl hl hc (zPi_k kk)
theorem sAd_read_194 {G : zG} {d : Nat} {Q : Option Value → Heap → Prop} {H : Heap} {st : List Value} {o0 : Option Value} {o1 : Option Value} {o2 : Option Value} {o3 : Option Value} {o4 : Option Value} {o5 : Option Value} {o6 : Option Value} {o8 : Option Value} {o9 : Option Value} {o10 : Option Value} {o11 : Option Value} {vs0 : Value} {v7 : Value} {P : Int32 → Heap → Prop} (hrs0 : zRf vs0 := by first | exact zRf_ref | exact zRf_null | exact zRf_rf _ | assumption) (hr7 : zRf v7 := by first | exact zRf_ref | exact zRf_null | exact zRf_rf _ | assumption) (hd : 1 ≤ d) (hl : st.length ≤ 4) (hc : zC G (d - 1) M_Tx_isName [v7] H (zPi P)) (kk : ∀ (r : Int32) (H1 : Heap), P r H1 → zOk G H1 → H.size ≤ H1.size → zT H ≤ zT H1 → zW G d M_Ad_read 231 [o0, o1, o2, o3, o4, o5, o6, some v7, some vs0, o9, o10, o11] ((.int r) :: st) H1 Q) : zW G d M_Ad_read 194 [o0, o1, o2, o3, o4, o5, o6, some v7, o8, o9, o10, o11] (vs0 :: st) H Q :=
  zw_astore (i := 8) dAd_read_194 (Nat.le_of_ble_eq_true rfl) hrs0 <| zw_goto 226 dAd_read_196 (by decide) <| zw_aload (i := 7) dAd_read_226 rfl hr7 <| zw_callS [v7] _ dAd_read_228 hd zk_Ad_49 rfl rfl hl hc (zPi_k kk)
theorem sAd_read_199 {G : zG} {d : Nat} {Q : Option Value → Heap → Prop} {H : Heap} {st : List Value} {o0 : Option Value} {o1 : Option Value} {o2 : Option Value} {o3 : Option Value} {o5 : Option Value} {o6 : Option Value} {o7 : Option Value} {o8 : Option Value} {o9 : Option Value} {o10 : Option Value} {o11 : Option Value} {v4 : Value} {ak1 : Nat} {P : Int32 → Heap → Prop} (hr4 : zRf v4 := by first | exact zRf_ref | exact zRf_null | exact zRf_rf _ | assumption) (hk1 : vk_R "NetDesk$Address" 72 "/" ak1 (zS G)) (hd : 1 ≤ d) (hl : st.length ≤ 4) (hc : zC G (d - 1) M_Tx_begins [v4, (.ref ak1)] H (zPi P)) (kk : ∀ (r : Int32) (H1 : Heap), P r H1 → zOk G H1 → H.size ≤ H1.size → zT H ≤ zT H1 → zW G d M_Ad_read 206 [o0, o1, o2, o3, some v4, o5, o6, o7, o8, o9, o10, o11] ((.int r) :: st) H1 Q) : zW G d M_Ad_read 199 [o0, o1, o2, o3, some v4, o5, o6, o7, o8, o9, o10, o11] st H Q :=
  zw_aload (i := 4) dAd_read_199 rfl hr4 <| zw_ldcS dAd_read_201 rfl hk1 <| zw_callS [v4, (.ref ak1)] _ dAd_read_203 hd zk_Ad_62 rfl rfl hl hc (zPi_k kk)
theorem sAd_read_206 {G : zG} {d : Nat} {Q : Option Value → Heap → Prop} {H : Heap} {st : List Value} {o0 : Option Value} {o1 : Option Value} {o2 : Option Value} {o3 : Option Value} {o4 : Option Value} {o5 : Option Value} {o6 : Option Value} {o7 : Option Value} {o8 : Option Value} {o9 : Option Value} {o10 : Option Value} {o11 : Option Value} {xs0 : Int32} (kt : (xs0 = 0) → zW G d M_Ad_read 220 [o0, o1, o2, o3, o4, o5, o6, o7, o8, o9, o10, o11] st H Q) (kf : (¬ xs0 = 0) → zW G d M_Ad_read 209 [o0, o1, o2, o3, o4, o5, o6, o7, o8, o9, o10, o11] st H Q) : zW G d M_Ad_read 206 [o0, o1, o2, o3, o4, o5, o6, o7, o8, o9, o10, o11] ((.int xs0) :: st) H Q :=
  zw_if_eq 220 dAd_read_206 (by decide) kt kf
theorem sAd_read_209 {G : zG} {d : Nat} {Q : Option Value → Heap → Prop} {H : Heap} {st : List Value} {o0 : Option Value} {o1 : Option Value} {o2 : Option Value} {o3 : Option Value} {o5 : Option Value} {o6 : Option Value} {o7 : Option Value} {o8 : Option Value} {o9 : Option Value} {o10 : Option Value} {o11 : Option Value} {a4 : Nat} {P : Value → Heap → Prop} (hd : 1 ≤ d) (hl : st.length ≤ 4) (ho : zIs G H a4 8) (hc : zC G (d - 1) M_St_substring_1 [(.ref a4), (.int (1 : Int32))] H (zPr P)) (kk : ∀ (r : Value) (H1 : Heap), zRf r → P r H1 → zOk G H1 → H.size ≤ H1.size → zT H ≤ zT H1 → zW G d M_Ad_read 215 [o0, o1, o2, o3, some (.ref a4), o5, o6, o7, o8, o9, o10, o11] (r :: st) H1 Q) : zW G d M_Ad_read 209 [o0, o1, o2, o3, some (.ref a4), o5, o6, o7, o8, o9, o10, o11] st H Q :=
  zw_aload (i := 4) dAd_read_209 rfl zRf_ref <| zw_iconst (1 : Int32) dAd_read_211 zki_1 <| zw_callV [(.int (1 : Int32))] _ dAd_read_212 hd zk_Ad_38 ho rfl rfl hl hc (zPr_k kk)
theorem sAd_read_215 {G : zG} {d : Nat} {Q : Option Value → Heap → Prop} {H : Heap} {st : List Value} {o0 : Option Value} {o1 : Option Value} {o2 : Option Value} {o3 : Option Value} {o4 : Option Value} {o5 : Option Value} {o6 : Option Value} {o8 : Option Value} {o9 : Option Value} {o10 : Option Value} {o11 : Option Value} {vs0 : Value} {v7 : Value} {P : Int32 → Heap → Prop} (hrs0 : zRf vs0 := by first | exact zRf_ref | exact zRf_null | exact zRf_rf _ | assumption) (hr7 : zRf v7 := by first | exact zRf_ref | exact zRf_null | exact zRf_rf _ | assumption) (hd : 1 ≤ d) (hl : st.length ≤ 4) (hc : zC G (d - 1) M_Tx_isName [v7] H (zPi P)) (kk : ∀ (r : Int32) (H1 : Heap), P r H1 → zOk G H1 → H.size ≤ H1.size → zT H ≤ zT H1 → zW G d M_Ad_read 231 [o0, o1, o2, o3, o4, o5, o6, some v7, some vs0, o9, o10, o11] ((.int r) :: st) H1 Q) : zW G d M_Ad_read 215 [o0, o1, o2, o3, o4, o5, o6, some v7, o8, o9, o10, o11] (vs0 :: st) H Q :=
  zw_astore (i := 8) dAd_read_215 (Nat.le_of_ble_eq_true rfl) hrs0 <| zw_goto 226 dAd_read_217 (by decide) <| zw_aload (i := 7) dAd_read_226 rfl hr7 <| zw_callS [v7] _ dAd_read_228 hd zk_Ad_49 rfl rfl hl hc (zPi_k kk)
theorem sAd_read_220 {G : zG} {d : Nat} {Q : Option Value → Heap → Prop} {H : Heap} {st : List Value} {o0 : Option Value} {o2 : Option Value} {o3 : Option Value} {o4 : Option Value} {o5 : Option Value} {o6 : Option Value} {o7 : Option Value} {o8 : Option Value} {o10 : Option Value} {o11 : Option Value} {a9 : Nat} {v1 : Value} {P : Heap → Prop} (hr1 : zRf v1 := by first | exact zRf_ref | exact zRf_null | exact zRf_rf _ | assumption) (hd : 1 ≤ d) (hl : st.length ≤ 4) (ho : zIs G H a9 9) (hc : zC G (d - 1) M_Pt_startBeside [(.ref a9), v1] H (zPv P)) (kk : ∀ H1 : Heap, P H1 → zOk G H1 → H.size ≤ H1.size → zT H ≤ zT H1 → zW G d M_Ad_read 226 [o0, some v1, o2, o3, o4, o5, o6, o7, o8, some (.ref a9), o10, o11] st H1 Q) : zW G d M_Ad_read 220 [o0, some v1, o2, o3, o4, o5, o6, o7, o8, some (.ref a9), o10, o11] st H Q :=
  zw_aload (i := 9) dAd_read_220 rfl zRf_ref <| zw_aload_n (i := 1) dAd_read_222 rfl rfl hr1 <| zw_callV [v1] _ dAd_read_223 hd zk_Ad_74 ho rfl rfl hl hc (zPv_k kk)
theorem sAd_read_226 {G : zG} {d : Nat} {Q : Option Value → Heap → Prop} {H : Heap} {st : List Value} {o0 : Option Value} {o1 : Option Value} {o2 : Option Value} {o3 : Option Value} {o4 : Option Value} {o5 : Option Value} {o6 : Option Value} {o8 : Option Value} {o9 : Option Value} {o10 : Option Value} {o11 : Option Value} {v7 : Value} {P : Int32 → Heap → Prop} (hr7 : zRf v7 := by first | exact zRf_ref | exact zRf_null | exact zRf_rf _ | assumption) (hd : 1 ≤ d) (hl : st.length ≤ 4) (hc : zC G (d - 1) M_Tx_isName [v7] H (zPi P)) (kk : ∀ (r : Int32) (H1 : Heap), P r H1 → zOk G H1 → H.size ≤ H1.size → zT H ≤ zT H1 → zW G d M_Ad_read 231 [o0, o1, o2, o3, o4, o5, o6, some v7, o8, o9, o10, o11] ((.int r) :: st) H1 Q) : zW G d M_Ad_read 226 [o0, o1, o2, o3, o4, o5, o6, some v7, o8, o9, o10, o11] st H Q :=
  zw_aload (i := 7) dAd_read_226 rfl hr7 <| zw_callS [v7] _ dAd_read_228 hd zk_Ad_49 rfl rfl hl hc (zPi_k kk)
theorem sAd_read_231 {G : zG} {d : Nat} {Q : Option Value → Heap → Prop} {H : Heap} {st : List Value} {o0 : Option Value} {o1 : Option Value} {o2 : Option Value} {o3 : Option Value} {o4 : Option Value} {o5 : Option Value} {o6 : Option Value} {o7 : Option Value} {o8 : Option Value} {o9 : Option Value} {o10 : Option Value} {o11 : Option Value} {xs0 : Int32} (kt : (xs0 = 0) → zW G d M_Ad_read 244 [o0, o1, o2, o3, o4, o5, o6, o7, o8, o9, o10, o11] st H Q) (kf : (¬ xs0 = 0) → zW G d M_Ad_read 234 [o0, o1, o2, o3, o4, o5, o6, o7, o8, o9, o10, o11] st H Q) : zW G d M_Ad_read 231 [o0, o1, o2, o3, o4, o5, o6, o7, o8, o9, o10, o11] ((.int xs0) :: st) H Q :=
  zw_if_eq 244 dAd_read_231 (by decide) kt kf
theorem sAd_read_234 {G : zG} {d : Nat} {Q : Option Value → Heap → Prop} {H : Heap} {st : List Value} {o0 : Option Value} {o1 : Option Value} {o2 : Option Value} {o3 : Option Value} {o4 : Option Value} {o5 : Option Value} {o6 : Option Value} {o7 : Option Value} {o10 : Option Value} {o11 : Option Value} {a9 : Nat} {v8 : Value} {P : Int32 → Heap → Prop} (hr8 : zRf v8 := by first | exact zRf_ref | exact zRf_null | exact zRf_rf _ | assumption) (hd : 1 ≤ d) (hl : st.length ≤ 4) (ho : zIs G H a9 9) (hc : zC G (d - 1) M_Pt_take [(.ref a9), v8] H (zPi P)) (kk : ∀ (r : Int32) (H1 : Heap), P r H1 → zOk G H1 → H.size ≤ H1.size → zT H ≤ zT H1 → zW G d M_Ad_read 241 [o0, o1, o2, o3, o4, o5, o6, o7, some v8, some (.ref a9), o10, o11] ((.int r) :: st) H1 Q) : zW G d M_Ad_read 234 [o0, o1, o2, o3, o4, o5, o6, o7, some v8, some (.ref a9), o10, o11] st H Q :=
  zw_aload (i := 9) dAd_read_234 rfl zRf_ref <| zw_aload (i := 8) dAd_read_236 rfl hr8 <| zw_callV [v8] _ dAd_read_238 hd zk_Ad_78 ho rfl rfl hl hc (zPi_k kk)
theorem sAd_read_241 {G : zG} {d : Nat} {Q : Option Value → Heap → Prop} {H : Heap} {st : List Value} {o0 : Option Value} {o1 : Option Value} {o2 : Option Value} {o3 : Option Value} {o4 : Option Value} {o5 : Option Value} {o6 : Option Value} {o7 : Option Value} {o8 : Option Value} {o9 : Option Value} {o10 : Option Value} {o11 : Option Value} {xs0 : Int32} (kt : (¬ xs0 = 0) → zW G d M_Ad_read 246 [o0, o1, o2, o3, o4, o5, o6, o7, o8, o9, o10, o11] st H Q) (kf : (xs0 = 0) → zW G d M_Ad_read 244 [o0, o1, o2, o3, o4, o5, o6, o7, o8, o9, o10, o11] st H Q) : zW G d M_Ad_read 241 [o0, o1, o2, o3, o4, o5, o6, o7, o8, o9, o10, o11] ((.int xs0) :: st) H Q :=
  zw_if_ne 246 dAd_read_241 (by decide) kt kf
theorem sAd_read_244 {G : zG} {d : Nat} {Q : Option Value → Heap → Prop} {H : Heap} {o0 : Option Value} {o1 : Option Value} {o2 : Option Value} {o3 : Option Value} {o4 : Option Value} {o5 : Option Value} {o6 : Option Value} {o7 : Option Value} {o8 : Option Value} {o9 : Option Value} {o10 : Option Value} {o11 : Option Value} (hq : Q (some .null) H) : zW G d M_Ad_read 244 [o0, o1, o2, o3, o4, o5, o6, o7, o8, o9, o10, o11] [] H Q :=
  zw_null dAd_read_244 <| zw_aret dAd_read_245 (.object "NetDesk$Address") rfl (Or.inl ⟨_, rfl⟩) zRf_null hq
theorem sAd_read_246 {G : zG} {d : Nat} {Q : Option Value → Heap → Prop} {H : Heap} {st : List Value} {o0 : Option Value} {o1 : Option Value} {o2 : Option Value} {o3 : Option Value} {o4 : Option Value} {o5 : Option Value} {o6 : Option Value} {o7 : Option Value} {o8 : Option Value} {o9 : Option Value} {o10 : Option Value} {o11 : Option Value} (hc1 : H.size + 1 ≤ zCp G) (hs1 : zT H + 4 ≤ zSp G) (kk : ∀ H1 : Heap, zObj G H1 H.size 2 [.null, .null, .null, .null] → zNw 4 H H1 → zW G d M_Ad_read 249 [o0, o1, o2, o3, o4, o5, o6, o7, o8, o9, o10, o11] ((.ref H.size) :: st) H1 Q) : zW G d M_Ad_read 246 [o0, o1, o2, o3, o4, o5, o6, o7, o8, o9, o10, o11] st H Q :=
  zw_new dAd_read_246 zn_Ad_read_8 hc1 hs1 kk
theorem sAd_read_249 {G : zG} {d : Nat} {Q : Option Value → Heap → Prop} {H : Heap} {st : List Value} {o0 : Option Value} {o1 : Option Value} {o2 : Option Value} {o3 : Option Value} {o4 : Option Value} {o5 : Option Value} {o6 : Option Value} {o8 : Option Value} {o10 : Option Value} {o11 : Option Value} {ws0 : Value} {v7 : Value} {a9 : Nat} {af1 : Nat} {P : Value → Heap → Prop} (hcs0 : ws0.category = 1 := by first | rfl | exact zRf.cat (by assumption)) (hr7 : zRf v7 := by first | exact zRf_ref | exact zRf_null | exact zRf_rf _ | assumption) (hf1 : zFd G H a9 9 0 (.ref af1)) (hd : 1 ≤ d) (hl : (v7 :: ws0 :: ws0 :: st).length ≤ 4) (ho : zIs G H af1 1) (hc : zC G (d - 1) M_Sb_toString [(.ref af1)] H (zPr P)) (kk : ∀ (r : Value) (H1 : Heap), zRf r → P r H1 → zOk G H1 → H.size ≤ H1.size → zT H ≤ zT H1 → zW G d M_Ad_read 260 [o0, o1, o2, o3, o4, o5, o6, some v7, o8, some (.ref a9), o10, o11] (r :: v7 :: ws0 :: ws0 :: st) H1 Q) : zW G d M_Ad_read 249 [o0, o1, o2, o3, o4, o5, o6, some v7, o8, some (.ref a9), o10, o11] (ws0 :: st) H Q :=
  zw_dup dAd_read_249 hcs0 <| zw_aload (i := 7) dAd_read_250 rfl hr7 <| zw_aload (i := 9) dAd_read_252 rfl zRf_ref <| zw_getf dAd_read_254 zf_Ad_81 hf1 <| zw_callV [] _ dAd_read_257 hd zk_Ad_85 ho rfl rfl hl hc (zPr_k kk)
theorem sAd_read_260 {G : zG} {d : Nat} {Q : Option Value → Heap → Prop} {H : Heap} {st : List Value} {o0 : Option Value} {o1 : Option Value} {o2 : Option Value} {o3 : Option Value} {o4 : Option Value} {o7 : Option Value} {o8 : Option Value} {o9 : Option Value} {o10 : Option Value} {o11 : Option Value} {v5 : Value} {v6 : Value} {vs0 : Value} {vs1 : Value} {as2 : Nat} {P : Heap → Prop} (hr5 : zRf v5 := by first | exact zRf_ref | exact zRf_null | exact zRf_rf _ | assumption) (hr6 : zRf v6 := by first | exact zRf_ref | exact zRf_null | exact zRf_rf _ | assumption) (hrs0 : zRf vs0 := by first | exact zRf_ref | exact zRf_null | exact zRf_rf _ | assumption) (hrs1 : zRf vs1 := by first | exact zRf_ref | exact zRf_null | exact zRf_rf _ | assumption) (hd : 1 ≤ d) (hl : st.length ≤ 4) (hc : zC G (d - 1) M_Ad_init [(.ref as2), vs1, vs0, v5, v6] H (zPv P)) (kk : ∀ H1 : Heap, P H1 → zOk G H1 → H.size ≤ H1.size → zT H ≤ zT H1 → zW G d M_Ad_read 267 [o0, o1, o2, o3, o4, some v5, some v6, o7, o8, o9, o10, o11] st H1 Q) : zW G d M_Ad_read 260 [o0, o1, o2, o3, o4, some v5, some v6, o7, o8, o9, o10, o11] (vs0 :: vs1 :: (.ref as2) :: st) H Q :=
  zw_aload (i := 5) dAd_read_260 rfl hr5 <| zw_aload (i := 6) dAd_read_262 rfl hr6 <| zw_callI [vs1, vs0, v5, v6] _ dAd_read_264 hd zk_Ad_54 rfl rfl hl hc (zPv_k kk)
theorem sAd_read_267 {G : zG} {d : Nat} {Q : Option Value → Heap → Prop} {H : Heap} {o0 : Option Value} {o1 : Option Value} {o2 : Option Value} {o3 : Option Value} {o4 : Option Value} {o5 : Option Value} {o6 : Option Value} {o7 : Option Value} {o8 : Option Value} {o9 : Option Value} {o10 : Option Value} {o11 : Option Value} {vs0 : Value} (hrs0 : zRf vs0 := by first | exact zRf_ref | exact zRf_null | exact zRf_rf _ | assumption) (hq : Q (some vs0) H) : zW G d M_Ad_read 267 [o0, o1, o2, o3, o4, o5, o6, o7, o8, o9, o10, o11] (vs0 :: []) H Q :=
  zw_aret dAd_read_267 (.object "NetDesk$Address") rfl (Or.inl ⟨_, rfl⟩) hrs0 hq
theorem sAd_placeOrLength_0 {G : zG} {d : Nat} {Q : Option Value → Heap → Prop} {H : Heap} {st : List Value} {o2 : Option Value} {a0 : Nat} {x1 : Int32} {P : Int32 → Heap → Prop} (hd : 1 ≤ d) (hl : st.length ≤ 4) (ho : zIs G H a0 8) (hc : zC G (d - 1) M_St_indexOf_0 [(.ref a0), (.int x1)] H (zPi P)) (kk : ∀ (r : Int32) (H1 : Heap), P r H1 → zOk G H1 → H.size ≤ H1.size → zT H ≤ zT H1 → zW G d M_Ad_placeOrLength 5 [some (.ref a0), some (.int x1), o2] ((.int r) :: st) H1 Q) : zW G d M_Ad_placeOrLength 0 [some (.ref a0), some (.int x1), o2] st H Q :=
  zw_aload_n (i := 0) dAd_placeOrLength_0 rfl rfl zRf_ref <| zw_iload_n (i := 1) dAd_placeOrLength_1 rfl rfl <| zw_callV [(.int x1)] _ dAd_placeOrLength_2 hd zk_Ad_103 ho rfl rfl hl hc (zPi_k kk)
theorem sAd_placeOrLength_5 {G : zG} {d : Nat} {Q : Option Value → Heap → Prop} {H : Heap} {st : List Value} {o0 : Option Value} {o1 : Option Value} {o2 : Option Value} {xs0 : Int32} (kt : (0 ≤ xs0) → zW G d M_Ad_placeOrLength 17 [o0, o1, some (.int xs0)] st H Q) (kf : (¬ 0 ≤ xs0) → zW G d M_Ad_placeOrLength 10 [o0, o1, some (.int xs0)] st H Q) : zW G d M_Ad_placeOrLength 5 [o0, o1, o2] ((.int xs0) :: st) H Q :=
  zw_istore_n (i := 2) dAd_placeOrLength_5 rfl (Nat.le_of_ble_eq_true rfl) <| zw_iload_n (i := 2) dAd_placeOrLength_6 rfl rfl <| zw_if_ge 17 dAd_placeOrLength_7 (by decide) kt kf
theorem sAd_placeOrLength_10 {G : zG} {d : Nat} {Q : Option Value → Heap → Prop} {H : Heap} {st : List Value} {o1 : Option Value} {o2 : Option Value} {a0 : Nat} {P : Int32 → Heap → Prop} (hd : 1 ≤ d) (hl : st.length ≤ 4) (ho : zIs G H a0 8) (hc : zC G (d - 1) M_St_length [(.ref a0)] H (zPi P)) (kk : ∀ (r : Int32) (H1 : Heap), P r H1 → zOk G H1 → H.size ≤ H1.size → zT H ≤ zT H1 → zW G d M_Ad_placeOrLength 14 [some (.ref a0), o1, o2] ((.int r) :: st) H1 Q) : zW G d M_Ad_placeOrLength 10 [some (.ref a0), o1, o2] st H Q :=
  zw_aload_n (i := 0) dAd_placeOrLength_10 rfl rfl zRf_ref <| zw_callV [] _ dAd_placeOrLength_11 hd zk_Ad_66 ho rfl rfl hl hc (zPi_k kk)
theorem sAd_placeOrLength_14 {G : zG} {d : Nat} {Q : Option Value → Heap → Prop} {H : Heap} {o0 : Option Value} {o1 : Option Value} {o2 : Option Value} {xs0 : Int32} (hq : Q (some (.int xs0)) H) : zW G d M_Ad_placeOrLength 14 [o0, o1, o2] ((.int xs0) :: []) H Q :=
  zw_goto 18 dAd_placeOrLength_14 (by decide) <| zw_iret dAd_placeOrLength_18 .int rfl rfl hq
theorem sAd_placeOrLength_17 {G : zG} {d : Nat} {Q : Option Value → Heap → Prop} {H : Heap} {o0 : Option Value} {o1 : Option Value} {x2 : Int32} (hq : Q (some (.int x2)) H) : zW G d M_Ad_placeOrLength 17 [o0, o1, some (.int x2)] [] H Q :=
  zw_iload_n (i := 2) dAd_placeOrLength_17 rfl rfl <| zw_iret dAd_placeOrLength_18 .int rfl rfl hq
theorem sAd_placeOrLength_18 {G : zG} {d : Nat} {Q : Option Value → Heap → Prop} {H : Heap} {o0 : Option Value} {o1 : Option Value} {o2 : Option Value} {xs0 : Int32} (hq : Q (some (.int xs0)) H) : zW G d M_Ad_placeOrLength 18 [o0, o1, o2] ((.int xs0) :: []) H Q :=
  zw_iret dAd_placeOrLength_18 .int rfl rfl hq
theorem sAd_isQuery_0 {G : zG} {d : Nat} {Q : Option Value → Heap → Prop} {H : Heap} {st : List Value} {a0 : Nat} {P : Int32 → Heap → Prop} (hd : 1 ≤ d) (hl : st.length ≤ 4) (ho : zIs G H a0 8) (hc : zC G (d - 1) M_St_isEmpty [(.ref a0)] H (zPi P)) (kk : ∀ (r : Int32) (H1 : Heap), P r H1 → zOk G H1 → H.size ≤ H1.size → zT H ≤ zT H1 → zW G d M_Ad_isQuery 4 [some (.ref a0)] ((.int r) :: st) H1 Q) : zW G d M_Ad_isQuery 0 [some (.ref a0)] st H Q :=
  zw_aload_n (i := 0) dAd_isQuery_0 rfl rfl zRf_ref <| zw_callV [] _ dAd_isQuery_1 hd zk_Ad_45 ho rfl rfl hl hc (zPi_k kk)
theorem sAd_isQuery_4 {G : zG} {d : Nat} {Q : Option Value → Heap → Prop} {H : Heap} {st : List Value} {o0 : Option Value} {xs0 : Int32} (kt : (¬ xs0 = 0) → zW G d M_Ad_isQuery 29 [o0] st H Q) (kf : (xs0 = 0) → zW G d M_Ad_isQuery 7 [o0] st H Q) : zW G d M_Ad_isQuery 4 [o0] ((.int xs0) :: st) H Q :=
  zw_if_ne 29 dAd_isQuery_4 (by decide) kt kf
theorem sAd_isQuery_7 {G : zG} {d : Nat} {Q : Option Value → Heap → Prop} {H : Heap} {st : List Value} {a0 : Nat} {P : Int32 → Heap → Prop} (hd : 1 ≤ d) (hl : st.length ≤ 4) (ho : zIs G H a0 8) (hc : zC G (d - 1) M_St_length [(.ref a0)] H (zPi P)) (kk : ∀ (r : Int32) (H1 : Heap), P r H1 → zOk G H1 → H.size ≤ H1.size → zT H ≤ zT H1 → zW G d M_Ad_isQuery 11 [some (.ref a0)] ((.int r) :: st) H1 Q) : zW G d M_Ad_isQuery 7 [some (.ref a0)] st H Q :=
  zw_aload_n (i := 0) dAd_isQuery_7 rfl rfl zRf_ref <| zw_callV [] _ dAd_isQuery_8 hd zk_Ad_66 ho rfl rfl hl hc (zPi_k kk)
theorem sAd_isQuery_11 {G : zG} {d : Nat} {Q : Option Value → Heap → Prop} {H : Heap} {st : List Value} {o0 : Option Value} {xs0 : Int32} (kt : ((41 : Int32) < xs0) → zW G d M_Ad_isQuery 33 [o0] st H Q) (kf : (¬ (41 : Int32) < xs0) → zW G d M_Ad_isQuery 16 [o0] st H Q) : zW G d M_Ad_isQuery 11 [o0] ((.int xs0) :: st) H Q :=
  zw_bipush (41 : Int32) dAd_isQuery_11 zkb_41 <| zw_icmp_gt 33 dAd_isQuery_13 (by decide) kt kf
theorem sAd_isQuery_16 {G : zG} {d : Nat} {Q : Option Value → Heap → Prop} {H : Heap} {st : List Value} {a0 : Nat} {P : Value → Heap → Prop} (hd : 1 ≤ d) (hl : st.length ≤ 4) (ho : zIs G H a0 8) (hc : zC G (d - 1) M_St_substring_1 [(.ref a0), (.int (1 : Int32))] H (zPr P)) (kk : ∀ (r : Value) (H1 : Heap), zRf r → P r H1 → zOk G H1 → H.size ≤ H1.size → zT H ≤ zT H1 → zW G d M_Ad_isQuery 21 [some (.ref a0)] (r :: st) H1 Q) : zW G d M_Ad_isQuery 16 [some (.ref a0)] st H Q :=
  zw_aload_n (i := 0) dAd_isQuery_16 rfl rfl zRf_ref <| zw_iconst (1 : Int32) dAd_isQuery_17 zki_1 <| zw_callV [(.int (1 : Int32))] _ dAd_isQuery_18 hd zk_Ad_38 ho rfl rfl hl hc (zPr_k kk)
theorem sAd_isQuery_21 {G : zG} {d : Nat} {Q : Option Value → Heap → Prop} {H : Heap} {st : List Value} {o0 : Option Value} {ak1 : Nat} {vs0 : Value} {P : Int32 → Heap → Prop} (hrs0 : zRf vs0 := by first | exact zRf_ref | exact zRf_null | exact zRf_rf _ | assumption) (hk1 : vk_R "NetDesk$Address" 107 ".-_=&+" ak1 (zS G)) (hd : 1 ≤ d) (hl : st.length ≤ 4) (hc : zC G (d - 1) M_Tx_hasOnly [vs0, (.ref ak1)] H (zPi P)) (kk : ∀ (r : Int32) (H1 : Heap), P r H1 → zOk G H1 → H.size ≤ H1.size → zT H ≤ zT H1 → zW G d M_Ad_isQuery 26 [o0] ((.int r) :: st) H1 Q) : zW G d M_Ad_isQuery 21 [o0] (vs0 :: st) H Q :=
  zw_ldcS dAd_isQuery_21 rfl hk1 <| zw_callS [vs0, (.ref ak1)] _ dAd_isQuery_23 hd zk_Ad_109 rfl rfl hl hc (zPi_k kk)
theorem sAd_isQuery_26 {G : zG} {d : Nat} {Q : Option Value → Heap → Prop} {H : Heap} {st : List Value} {o0 : Option Value} {xs0 : Int32} (kt : (xs0 = 0) → zW G d M_Ad_isQuery 33 [o0] st H Q) (kf : (¬ xs0 = 0) → zW G d M_Ad_isQuery 29 [o0] st H Q) : zW G d M_Ad_isQuery 26 [o0] ((.int xs0) :: st) H Q :=
  zw_if_eq 33 dAd_isQuery_26 (by decide) kt kf
theorem sAd_isQuery_29 {G : zG} {d : Nat} {Q : Option Value → Heap → Prop} {H : Heap} {o0 : Option Value} (hn : narrow .boolean (.int (1 : Int32)) = .int (1 : Int32)) (hq : Q (some (.int (1 : Int32))) H) : zW G d M_Ad_isQuery 29 [o0] [] H Q :=
  zw_iconst (1 : Int32) dAd_isQuery_29 zki_1 <| zw_goto 34 dAd_isQuery_30 (by decide) <| zw_iret dAd_isQuery_34 .boolean rfl hn hq
theorem sAd_isQuery_33 {G : zG} {d : Nat} {Q : Option Value → Heap → Prop} {H : Heap} {o0 : Option Value} (hn : narrow .boolean (.int (0 : Int32)) = .int (0 : Int32)) (hq : Q (some (.int (0 : Int32))) H) : zW G d M_Ad_isQuery 33 [o0] [] H Q :=
  zw_iconst (0 : Int32) dAd_isQuery_33 zki_0 <| zw_iret dAd_isQuery_34 .boolean rfl hn hq
theorem sAd_isQuery_34 {G : zG} {d : Nat} {Q : Option Value → Heap → Prop} {H : Heap} {o0 : Option Value} {xs0 : Int32} (hn : narrow .boolean (.int xs0) = .int xs0) (hq : Q (some (.int xs0)) H) : zW G d M_Ad_isQuery 34 [o0] ((.int xs0) :: []) H Q :=
  zw_iret dAd_isQuery_34 .boolean rfl hn hq
theorem sTx_hasOnly_0 {G : zG} {d : Nat} {Q : Option Value → Heap → Prop} {H : Heap} {st : List Value} {o0 : Option Value} {o1 : Option Value} {o2 : Option Value} {o3 : Option Value} (kk : zW G d M_Tx_hasOnly 2 [o0, o1, some (.int (0 : Int32)), o3] st H Q) : zW G d M_Tx_hasOnly 0 [o0, o1, o2, o3] st H Q :=
  zw_iconst (0 : Int32) dTx_hasOnly_0 zki_0 <| zw_istore_n (i := 2) dTx_hasOnly_1 rfl (Nat.le_of_ble_eq_true rfl) <| kk
theorem sTx_hasOnly_2 {G : zG} {d : Nat} {Q : Option Value → Heap → Prop} {H : Heap} {st : List Value} {o1 : Option Value} {o3 : Option Value} {x2 : Int32} {a0 : Nat} {P : Int32 → Heap → Prop} (hd : 1 ≤ d) (hl : ((.int x2) :: st).length ≤ 4) (ho : zIs G H a0 8) (hc : zC G (d - 1) M_St_length [(.ref a0)] H (zPi P)) (kk : ∀ (r : Int32) (H1 : Heap), P r H1 → zOk G H1 → H.size ≤ H1.size → zT H ≤ zT H1 → zW G d M_Tx_hasOnly 7 [some (.ref a0), o1, some (.int x2), o3] ((.int r) :: (.int x2) :: st) H1 Q) : zW G d M_Tx_hasOnly 2 [some (.ref a0), o1, some (.int x2), o3] st H Q :=
  zw_iload_n (i := 2) dTx_hasOnly_2 rfl rfl <| zw_aload_n (i := 0) dTx_hasOnly_3 rfl rfl zRf_ref <| zw_callV [] _ dTx_hasOnly_4 hd zk_Tx_9 ho rfl rfl hl hc (zPi_k kk)
theorem sTx_hasOnly_7 {G : zG} {d : Nat} {Q : Option Value → Heap → Prop} {H : Heap} {st : List Value} {o0 : Option Value} {o1 : Option Value} {o2 : Option Value} {o3 : Option Value} {xs0 : Int32} {xs1 : Int32} (kt : (xs0 ≤ xs1) → zW G d M_Tx_hasOnly 46 [o0, o1, o2, o3] st H Q) (kf : (¬ xs0 ≤ xs1) → zW G d M_Tx_hasOnly 10 [o0, o1, o2, o3] st H Q) : zW G d M_Tx_hasOnly 7 [o0, o1, o2, o3] ((.int xs0) :: (.int xs1) :: st) H Q :=
  zw_icmp_ge 46 dTx_hasOnly_7 (by decide) kt kf
theorem sTx_hasOnly_10 {G : zG} {d : Nat} {Q : Option Value → Heap → Prop} {H : Heap} {st : List Value} {o1 : Option Value} {o3 : Option Value} {a0 : Nat} {x2 : Int32} {P : Int32 → Heap → Prop} (hd : 1 ≤ d) (hl : st.length ≤ 4) (ho : zIs G H a0 8) (hc : zC G (d - 1) M_St_charAt [(.ref a0), (.int x2)] H (zPi P)) (kk : ∀ (r : Int32) (H1 : Heap), P r H1 → zOk G H1 → H.size ≤ H1.size → zT H ≤ zT H1 → zW G d M_Tx_hasOnly 15 [some (.ref a0), o1, some (.int x2), o3] ((.int r) :: st) H1 Q) : zW G d M_Tx_hasOnly 10 [some (.ref a0), o1, some (.int x2), o3] st H Q :=
  zw_aload_n (i := 0) dTx_hasOnly_10 rfl rfl zRf_ref <| zw_iload_n (i := 2) dTx_hasOnly_11 rfl rfl <| zw_callV [(.int x2)] _ dTx_hasOnly_12 hd zk_Tx_15 ho rfl rfl hl hc (zPi_k kk)
theorem sTx_hasOnly_15 {G : zG} {d : Nat} {Q : Option Value → Heap → Prop} {H : Heap} {st : List Value} {o0 : Option Value} {o1 : Option Value} {o2 : Option Value} {o3 : Option Value} {xs0 : Int32} {P : Int32 → Heap → Prop} (hd : 1 ≤ d) (hl : st.length ≤ 4) (hc : zC G (d - 1) M_Tx_isSmallLetter [(.int xs0)] H (zPi P)) (kk : ∀ (r : Int32) (H1 : Heap), P r H1 → zOk G H1 → H.size ≤ H1.size → zT H ≤ zT H1 → zW G d M_Tx_hasOnly 20 [o0, o1, o2, some (.int xs0)] ((.int r) :: st) H1 Q) : zW G d M_Tx_hasOnly 15 [o0, o1, o2, o3] ((.int xs0) :: st) H Q :=
  zw_istore_n (i := 3) dTx_hasOnly_15 rfl (Nat.le_of_ble_eq_true rfl) <| zw_iload_n (i := 3) dTx_hasOnly_16 rfl rfl <| zw_callS [(.int xs0)] _ dTx_hasOnly_17 hd zk_Tx_19 rfl rfl hl hc (zPi_k kk)
theorem sTx_hasOnly_20 {G : zG} {d : Nat} {Q : Option Value → Heap → Prop} {H : Heap} {st : List Value} {o0 : Option Value} {o1 : Option Value} {o2 : Option Value} {o3 : Option Value} {xs0 : Int32} (kt : (¬ xs0 = 0) → zW G d M_Tx_hasOnly 40 [o0, o1, o2, o3] st H Q) (kf : (xs0 = 0) → zW G d M_Tx_hasOnly 23 [o0, o1, o2, o3] st H Q) : zW G d M_Tx_hasOnly 20 [o0, o1, o2, o3] ((.int xs0) :: st) H Q :=
  zw_if_ne 40 dTx_hasOnly_20 (by decide) kt kf
theorem sTx_hasOnly_23 {G : zG} {d : Nat} {Q : Option Value → Heap → Prop} {H : Heap} {st : List Value} {o0 : Option Value} {o1 : Option Value} {o2 : Option Value} {x3 : Int32} {P : Int32 → Heap → Prop} (hd : 1 ≤ d) (hl : st.length ≤ 4) (hc : zC G (d - 1) M_Tx_isDigit [(.int x3)] H (zPi P)) (kk : ∀ (r : Int32) (H1 : Heap), P r H1 → zOk G H1 → H.size ≤ H1.size → zT H ≤ zT H1 → zW G d M_Tx_hasOnly 27 [o0, o1, o2, some (.int x3)] ((.int r) :: st) H1 Q) : zW G d M_Tx_hasOnly 23 [o0, o1, o2, some (.int x3)] st H Q :=
  zw_iload_n (i := 3) dTx_hasOnly_23 rfl rfl <| zw_callS [(.int x3)] _ dTx_hasOnly_24 hd zk_Tx_25 rfl rfl hl hc (zPi_k kk)
theorem sTx_hasOnly_27 {G : zG} {d : Nat} {Q : Option Value → Heap → Prop} {H : Heap} {st : List Value} {o0 : Option Value} {o1 : Option Value} {o2 : Option Value} {o3 : Option Value} {xs0 : Int32} (kt : (¬ xs0 = 0) → zW G d M_Tx_hasOnly 40 [o0, o1, o2, o3] st H Q) (kf : (xs0 = 0) → zW G d M_Tx_hasOnly 30 [o0, o1, o2, o3] st H Q) : zW G d M_Tx_hasOnly 27 [o0, o1, o2, o3] ((.int xs0) :: st) H Q :=
  zw_if_ne 40 dTx_hasOnly_27 (by decide) kt kf
theorem sTx_hasOnly_30 {G : zG} {d : Nat} {Q : Option Value → Heap → Prop} {H : Heap} {st : List Value} {o0 : Option Value} {o2 : Option Value} {a1 : Nat} {x3 : Int32} {P : Int32 → Heap → Prop} (hd : 1 ≤ d) (hl : st.length ≤ 4) (ho : zIs G H a1 8) (hc : zC G (d - 1) M_St_indexOf_0 [(.ref a1), (.int x3)] H (zPi P)) (kk : ∀ (r : Int32) (H1 : Heap), P r H1 → zOk G H1 → H.size ≤ H1.size → zT H ≤ zT H1 → zW G d M_Tx_hasOnly 35 [o0, some (.ref a1), o2, some (.int x3)] ((.int r) :: st) H1 Q) : zW G d M_Tx_hasOnly 30 [o0, some (.ref a1), o2, some (.int x3)] st H Q :=
  zw_aload_n (i := 1) dTx_hasOnly_30 rfl rfl zRf_ref <| zw_iload_n (i := 3) dTx_hasOnly_31 rfl rfl <| zw_callV [(.int x3)] _ dTx_hasOnly_32 hd zk_Tx_36 ho rfl rfl hl hc (zPi_k kk)
theorem sTx_hasOnly_35 {G : zG} {d : Nat} {Q : Option Value → Heap → Prop} {H : Heap} {st : List Value} {o0 : Option Value} {o1 : Option Value} {o2 : Option Value} {o3 : Option Value} {xs0 : Int32} (kt : (0 ≤ xs0) → zW G d M_Tx_hasOnly 40 [o0, o1, o2, o3] st H Q) (kf : (¬ 0 ≤ xs0) → zW G d M_Tx_hasOnly 38 [o0, o1, o2, o3] st H Q) : zW G d M_Tx_hasOnly 35 [o0, o1, o2, o3] ((.int xs0) :: st) H Q :=
  zw_if_ge 40 dTx_hasOnly_35 (by decide) kt kf
theorem sTx_hasOnly_38 {G : zG} {d : Nat} {Q : Option Value → Heap → Prop} {H : Heap} {o0 : Option Value} {o1 : Option Value} {o2 : Option Value} {o3 : Option Value} (hn : narrow .boolean (.int (0 : Int32)) = .int (0 : Int32)) (hq : Q (some (.int (0 : Int32))) H) : zW G d M_Tx_hasOnly 38 [o0, o1, o2, o3] [] H Q :=
  zw_iconst (0 : Int32) dTx_hasOnly_38 zki_0 <| zw_iret dTx_hasOnly_39 .boolean rfl hn hq
theorem sTx_hasOnly_40 {G : zG} {d : Nat} {Q : Option Value → Heap → Prop} {H : Heap} {st : List Value} {o0 : Option Value} {o1 : Option Value} {o3 : Option Value} {x2 : Int32} (kk : zW G d M_Tx_hasOnly 2 [o0, o1, some (.int (x2 + (1 : Int32))), o3] st H Q) : zW G d M_Tx_hasOnly 40 [o0, o1, some (.int x2), o3] st H Q :=
  zw_iinc (i := 2) (x2 + (1 : Int32)) dTx_hasOnly_40 rfl (by rw [zki_1]) <| zw_goto 2 dTx_hasOnly_43 (by decide) <| kk
theorem sTx_hasOnly_46 {G : zG} {d : Nat} {Q : Option Value → Heap → Prop} {H : Heap} {o0 : Option Value} {o1 : Option Value} {o2 : Option Value} {o3 : Option Value} (hn : narrow .boolean (.int (1 : Int32)) = .int (1 : Int32)) (hq : Q (some (.int (1 : Int32))) H) : zW G d M_Tx_hasOnly 46 [o0, o1, o2, o3] [] H Q :=
  zw_iconst (1 : Int32) dTx_hasOnly_46 zki_1 <| zw_iret dTx_hasOnly_47 .boolean rfl hn hq
theorem sTx_isSmallLetter_0 {G : zG} {d : Nat} {Q : Option Value → Heap → Prop} {H : Heap} {st : List Value} {x0 : Int32} (kt : (x0 < (97 : Int32)) → zW G d M_Tx_isSmallLetter 16 [some (.int x0)] st H Q) (kf : (¬ x0 < (97 : Int32)) → zW G d M_Tx_isSmallLetter 6 [some (.int x0)] st H Q) : zW G d M_Tx_isSmallLetter 0 [some (.int x0)] st H Q :=
  zw_iload_n (i := 0) dTx_isSmallLetter_0 rfl rfl <| zw_bipush (97 : Int32) dTx_isSmallLetter_1 zkb_97 <| zw_icmp_lt 16 dTx_isSmallLetter_3 (by decide) kt kf
theorem sTx_isSmallLetter_6 {G : zG} {d : Nat} {Q : Option Value → Heap → Prop} {H : Heap} {st : List Value} {x0 : Int32} (kt : ((122 : Int32) < x0) → zW G d M_Tx_isSmallLetter 16 [some (.int x0)] st H Q) (kf : (¬ (122 : Int32) < x0) → zW G d M_Tx_isSmallLetter 12 [some (.int x0)] st H Q) : zW G d M_Tx_isSmallLetter 6 [some (.int x0)] st H Q :=
  zw_iload_n (i := 0) dTx_isSmallLetter_6 rfl rfl <| zw_bipush (122 : Int32) dTx_isSmallLetter_7 zkb_122 <| zw_icmp_gt 16 dTx_isSmallLetter_9 (by decide) kt kf
theorem sTx_isSmallLetter_12 {G : zG} {d : Nat} {Q : Option Value → Heap → Prop} {H : Heap} {o0 : Option Value} (hn : narrow .boolean (.int (1 : Int32)) = .int (1 : Int32)) (hq : Q (some (.int (1 : Int32))) H) : zW G d M_Tx_isSmallLetter 12 [o0] [] H Q :=
  zw_iconst (1 : Int32) dTx_isSmallLetter_12 zki_1 <| zw_goto 17 dTx_isSmallLetter_13 (by decide) <| zw_iret dTx_isSmallLetter_17 .boolean rfl hn hq
theorem sTx_isSmallLetter_16 {G : zG} {d : Nat} {Q : Option Value → Heap → Prop} {H : Heap} {o0 : Option Value} (hn : narrow .boolean (.int (0 : Int32)) = .int (0 : Int32)) (hq : Q (some (.int (0 : Int32))) H) : zW G d M_Tx_isSmallLetter 16 [o0] [] H Q :=
  zw_iconst (0 : Int32) dTx_isSmallLetter_16 zki_0 <| zw_iret dTx_isSmallLetter_17 .boolean rfl hn hq
theorem sTx_isSmallLetter_17 {G : zG} {d : Nat} {Q : Option Value → Heap → Prop} {H : Heap} {o0 : Option Value} {xs0 : Int32} (hn : narrow .boolean (.int xs0) = .int xs0) (hq : Q (some (.int xs0)) H) : zW G d M_Tx_isSmallLetter 17 [o0] ((.int xs0) :: []) H Q :=
  zw_iret dTx_isSmallLetter_17 .boolean rfl hn hq
theorem sTx_isDigit_0 {G : zG} {d : Nat} {Q : Option Value → Heap → Prop} {H : Heap} {st : List Value} {x0 : Int32} (kt : (x0 < (48 : Int32)) → zW G d M_Tx_isDigit 16 [some (.int x0)] st H Q) (kf : (¬ x0 < (48 : Int32)) → zW G d M_Tx_isDigit 6 [some (.int x0)] st H Q) : zW G d M_Tx_isDigit 0 [some (.int x0)] st H Q :=
  zw_iload_n (i := 0) dTx_isDigit_0 rfl rfl <| zw_bipush (48 : Int32) dTx_isDigit_1 zkb_48 <| zw_icmp_lt 16 dTx_isDigit_3 (by decide) kt kf
theorem sTx_isDigit_6 {G : zG} {d : Nat} {Q : Option Value → Heap → Prop} {H : Heap} {st : List Value} {x0 : Int32} (kt : ((57 : Int32) < x0) → zW G d M_Tx_isDigit 16 [some (.int x0)] st H Q) (kf : (¬ (57 : Int32) < x0) → zW G d M_Tx_isDigit 12 [some (.int x0)] st H Q) : zW G d M_Tx_isDigit 6 [some (.int x0)] st H Q :=
  zw_iload_n (i := 0) dTx_isDigit_6 rfl rfl <| zw_bipush (57 : Int32) dTx_isDigit_7 zkb_57 <| zw_icmp_gt 16 dTx_isDigit_9 (by decide) kt kf
theorem sTx_isDigit_12 {G : zG} {d : Nat} {Q : Option Value → Heap → Prop} {H : Heap} {o0 : Option Value} (hn : narrow .boolean (.int (1 : Int32)) = .int (1 : Int32)) (hq : Q (some (.int (1 : Int32))) H) : zW G d M_Tx_isDigit 12 [o0] [] H Q :=
  zw_iconst (1 : Int32) dTx_isDigit_12 zki_1 <| zw_goto 17 dTx_isDigit_13 (by decide) <| zw_iret dTx_isDigit_17 .boolean rfl hn hq
theorem sTx_isDigit_16 {G : zG} {d : Nat} {Q : Option Value → Heap → Prop} {H : Heap} {o0 : Option Value} (hn : narrow .boolean (.int (0 : Int32)) = .int (0 : Int32)) (hq : Q (some (.int (0 : Int32))) H) : zW G d M_Tx_isDigit 16 [o0] [] H Q :=
  zw_iconst (0 : Int32) dTx_isDigit_16 zki_0 <| zw_iret dTx_isDigit_17 .boolean rfl hn hq
theorem sTx_isDigit_17 {G : zG} {d : Nat} {Q : Option Value → Heap → Prop} {H : Heap} {o0 : Option Value} {xs0 : Int32} (hn : narrow .boolean (.int xs0) = .int xs0) (hq : Q (some (.int xs0)) H) : zW G d M_Tx_isDigit 17 [o0] ((.int xs0) :: []) H Q :=
  zw_iret dTx_isDigit_17 .boolean rfl hn hq
theorem sTx_isName_0 {G : zG} {d : Nat} {Q : Option Value → Heap → Prop} {H : Heap} {st : List Value} {v0 : Value} {P : Int32 → Heap → Prop} (hr0 : zRf v0 := by first | exact zRf_ref | exact zRf_null | exact zRf_rf _ | assumption) (hd : 1 ≤ d) (hl : st.length ≤ 4) (hc : zC G (d - 1) M_Tx_noNameAt [v0] H (zPi P)) (kk : ∀ (r : Int32) (H1 : Heap), P r H1 → zOk G H1 → H.size ≤ H1.size → zT H ≤ zT H1 → zW G d M_Tx_isName 4 [some v0] ((.int r) :: st) H1 Q) : zW G d M_Tx_isName 0 [some v0] st H Q :=
  zw_aload_n (i := 0) dTx_isName_0 rfl rfl hr0 <| zw_callS [v0] _ dTx_isName_1 hd zk_Tx_32 rfl rfl hl hc (zPi_k kk)
theorem sTx_isName_4 {G : zG} {d : Nat} {Q : Option Value → Heap → Prop} {H : Heap} {st : List Value} {o0 : Option Value} {xs0 : Int32} (kt : (¬ xs0 = (-1 : Int32)) → zW G d M_Tx_isName 12 [o0] st H Q) (kf : (xs0 = (-1 : Int32)) → zW G d M_Tx_isName 8 [o0] st H Q) : zW G d M_Tx_isName 4 [o0] ((.int xs0) :: st) H Q :=
  zw_iconst (-1 : Int32) dTx_isName_4 zki_m1 <| zw_icmp_ne 12 dTx_isName_5 (by decide) kt kf
theorem sTx_isName_8 {G : zG} {d : Nat} {Q : Option Value → Heap → Prop} {H : Heap} {o0 : Option Value} (hn : narrow .boolean (.int (1 : Int32)) = .int (1 : Int32)) (hq : Q (some (.int (1 : Int32))) H) : zW G d M_Tx_isName 8 [o0] [] H Q :=
  zw_iconst (1 : Int32) dTx_isName_8 zki_1 <| zw_goto 13 dTx_isName_9 (by decide) <| zw_iret dTx_isName_13 .boolean rfl hn hq
theorem sTx_isName_12 {G : zG} {d : Nat} {Q : Option Value → Heap → Prop} {H : Heap} {o0 : Option Value} (hn : narrow .boolean (.int (0 : Int32)) = .int (0 : Int32)) (hq : Q (some (.int (0 : Int32))) H) : zW G d M_Tx_isName 12 [o0] [] H Q :=
  zw_iconst (0 : Int32) dTx_isName_12 zki_0 <| zw_iret dTx_isName_13 .boolean rfl hn hq
theorem sTx_isName_13 {G : zG} {d : Nat} {Q : Option Value → Heap → Prop} {H : Heap} {o0 : Option Value} {xs0 : Int32} (hn : narrow .boolean (.int xs0) = .int xs0) (hq : Q (some (.int xs0)) H) : zW G d M_Tx_isName 13 [o0] ((.int xs0) :: []) H Q :=
  zw_iret dTx_isName_13 .boolean rfl hn hq
theorem sTx_noNameAt_0 {G : zG} {d : Nat} {Q : Option Value → Heap → Prop} {H : Heap} {st : List Value} {o0 : Option Value} {o1 : Option Value} {o2 : Option Value} {o3 : Option Value} (kk : zW G d M_Tx_noNameAt 2 [o0, some (.int (0 : Int32)), o2, o3] st H Q) : zW G d M_Tx_noNameAt 0 [o0, o1, o2, o3] st H Q :=
  zw_iconst (0 : Int32) dTx_noNameAt_0 zki_0 <| zw_istore_n (i := 1) dTx_noNameAt_1 rfl (Nat.le_of_ble_eq_true rfl) <| kk
theorem sTx_noNameAt_2 {G : zG} {d : Nat} {Q : Option Value → Heap → Prop} {H : Heap} {st : List Value} {o2 : Option Value} {o3 : Option Value} {x1 : Int32} {a0 : Nat} {P : Int32 → Heap → Prop} (hd : 1 ≤ d) (hl : ((.int x1) :: st).length ≤ 4) (ho : zIs G H a0 8) (hc : zC G (d - 1) M_St_length [(.ref a0)] H (zPi P)) (kk : ∀ (r : Int32) (H1 : Heap), P r H1 → zOk G H1 → H.size ≤ H1.size → zT H ≤ zT H1 → zW G d M_Tx_noNameAt 7 [some (.ref a0), some (.int x1), o2, o3] ((.int r) :: (.int x1) :: st) H1 Q) : zW G d M_Tx_noNameAt 2 [some (.ref a0), some (.int x1), o2, o3] st H Q :=
  zw_iload_n (i := 1) dTx_noNameAt_2 rfl rfl <| zw_aload_n (i := 0) dTx_noNameAt_3 rfl rfl zRf_ref <| zw_callV [] _ dTx_noNameAt_4 hd zk_Tx_9 ho rfl rfl hl hc (zPi_k kk)
theorem sTx_noNameAt_7 {G : zG} {d : Nat} {Q : Option Value → Heap → Prop} {H : Heap} {st : List Value} {o0 : Option Value} {o1 : Option Value} {o2 : Option Value} {o3 : Option Value} {xs0 : Int32} {xs1 : Int32} (kt : (xs0 ≤ xs1) → zW G d M_Tx_noNameAt 58 [o0, o1, o2, o3] st H Q) (kf : (¬ xs0 ≤ xs1) → zW G d M_Tx_noNameAt 10 [o0, o1, o2, o3] st H Q) : zW G d M_Tx_noNameAt 7 [o0, o1, o2, o3] ((.int xs0) :: (.int xs1) :: st) H Q :=
  zw_icmp_ge 58 dTx_noNameAt_7 (by decide) kt kf
theorem sTx_noNameAt_10 {G : zG} {d : Nat} {Q : Option Value → Heap → Prop} {H : Heap} {st : List Value} {o2 : Option Value} {o3 : Option Value} {a0 : Nat} {x1 : Int32} {P : Int32 → Heap → Prop} (hd : 1 ≤ d) (hl : st.length ≤ 4) (ho : zIs G H a0 8) (hc : zC G (d - 1) M_St_charAt [(.ref a0), (.int x1)] H (zPi P)) (kk : ∀ (r : Int32) (H1 : Heap), P r H1 → zOk G H1 → H.size ≤ H1.size → zT H ≤ zT H1 → zW G d M_Tx_noNameAt 15 [some (.ref a0), some (.int x1), o2, o3] ((.int r) :: st) H1 Q) : zW G d M_Tx_noNameAt 10 [some (.ref a0), some (.int x1), o2, o3] st H Q :=
  zw_aload_n (i := 0) dTx_noNameAt_10 rfl rfl zRf_ref <| zw_iload_n (i := 1) dTx_noNameAt_11 rfl rfl <| zw_callV [(.int x1)] _ dTx_noNameAt_12 hd zk_Tx_15 ho rfl rfl hl hc (zPi_k kk)
theorem sTx_noNameAt_15 {G : zG} {d : Nat} {Q : Option Value → Heap → Prop} {H : Heap} {st : List Value} {o0 : Option Value} {o1 : Option Value} {o2 : Option Value} {o3 : Option Value} {xs0 : Int32} {P : Int32 → Heap → Prop} (hd : 1 ≤ d) (hl : st.length ≤ 4) (hc : zC G (d - 1) M_Tx_isSmallLetter [(.int xs0)] H (zPi P)) (kk : ∀ (r : Int32) (H1 : Heap), P r H1 → zOk G H1 → H.size ≤ H1.size → zT H ≤ zT H1 → zW G d M_Tx_noNameAt 20 [o0, o1, some (.int xs0), o3] ((.int r) :: st) H1 Q) : zW G d M_Tx_noNameAt 15 [o0, o1, o2, o3] ((.int xs0) :: st) H Q :=
  zw_istore_n (i := 2) dTx_noNameAt_15 rfl (Nat.le_of_ble_eq_true rfl) <| zw_iload_n (i := 2) dTx_noNameAt_16 rfl rfl <| zw_callS [(.int xs0)] _ dTx_noNameAt_17 hd zk_Tx_19 rfl rfl hl hc (zPi_k kk)
theorem sTx_noNameAt_20 {G : zG} {d : Nat} {Q : Option Value → Heap → Prop} {H : Heap} {st : List Value} {o0 : Option Value} {o1 : Option Value} {o2 : Option Value} {o3 : Option Value} {xs0 : Int32} (kt : (¬ xs0 = 0) → zW G d M_Tx_noNameAt 34 [o0, o1, o2, o3] st H Q) (kf : (xs0 = 0) → zW G d M_Tx_noNameAt 23 [o0, o1, o2, o3] st H Q) : zW G d M_Tx_noNameAt 20 [o0, o1, o2, o3] ((.int xs0) :: st) H Q :=
  zw_if_ne 34 dTx_noNameAt_20 (by decide) kt kf
theorem sTx_noNameAt_23 {G : zG} {d : Nat} {Q : Option Value → Heap → Prop} {H : Heap} {st : List Value} {o0 : Option Value} {o2 : Option Value} {o3 : Option Value} {x1 : Int32} (kt : (x1 ≤ 0) → zW G d M_Tx_noNameAt 38 [o0, some (.int x1), o2, o3] st H Q) (kf : (¬ x1 ≤ 0) → zW G d M_Tx_noNameAt 27 [o0, some (.int x1), o2, o3] st H Q) : zW G d M_Tx_noNameAt 23 [o0, some (.int x1), o2, o3] st H Q :=
  zw_iload_n (i := 1) dTx_noNameAt_23 rfl rfl <| zw_if_le 38 dTx_noNameAt_24 (by decide) kt kf
theorem sTx_noNameAt_27 {G : zG} {d : Nat} {Q : Option Value → Heap → Prop} {H : Heap} {st : List Value} {o0 : Option Value} {o1 : Option Value} {o3 : Option Value} {x2 : Int32} {P : Int32 → Heap → Prop} (hd : 1 ≤ d) (hl : st.length ≤ 4) (hc : zC G (d - 1) M_Tx_isDigit [(.int x2)] H (zPi P)) (kk : ∀ (r : Int32) (H1 : Heap), P r H1 → zOk G H1 → H.size ≤ H1.size → zT H ≤ zT H1 → zW G d M_Tx_noNameAt 31 [o0, o1, some (.int x2), o3] ((.int r) :: st) H1 Q) : zW G d M_Tx_noNameAt 27 [o0, o1, some (.int x2), o3] st H Q :=
  zw_iload_n (i := 2) dTx_noNameAt_27 rfl rfl <| zw_callS [(.int x2)] _ dTx_noNameAt_28 hd zk_Tx_25 rfl rfl hl hc (zPi_k kk)
theorem sTx_noNameAt_31 {G : zG} {d : Nat} {Q : Option Value → Heap → Prop} {H : Heap} {st : List Value} {o0 : Option Value} {o1 : Option Value} {o2 : Option Value} {o3 : Option Value} {xs0 : Int32} (kt : (xs0 = 0) → zW G d M_Tx_noNameAt 38 [o0, o1, o2, o3] st H Q) (kf : (¬ xs0 = 0) → zW G d M_Tx_noNameAt 34 [o0, o1, o2, o3] st H Q) : zW G d M_Tx_noNameAt 31 [o0, o1, o2, o3] ((.int xs0) :: st) H Q :=
  zw_if_eq 38 dTx_noNameAt_31 (by decide) kt kf
theorem sTx_noNameAt_34 {G : zG} {d : Nat} {Q : Option Value → Heap → Prop} {H : Heap} {st : List Value} {o0 : Option Value} {o1 : Option Value} {o2 : Option Value} {o3 : Option Value} (kt : ((1 : Int32) = 0) → zW G d M_Tx_noNameAt 50 [o0, o1, o2, some (.int (1 : Int32))] st H Q) (kf : (¬ (1 : Int32) = 0) → zW G d M_Tx_noNameAt 44 [o0, o1, o2, some (.int (1 : Int32))] st H Q) : zW G d M_Tx_noNameAt 34 [o0, o1, o2, o3] st H Q :=
  zw_iconst (1 : Int32) dTx_noNameAt_34 zki_1 <| zw_goto 39 dTx_noNameAt_35 (by decide) <| zw_istore_n (i := 3) dTx_noNameAt_39 rfl (Nat.le_of_ble_eq_true rfl) <| zw_iload_n (i := 3) dTx_noNameAt_40 rfl rfl <| zw_if_eq 50 dTx_noNameAt_41 (by decide) kt kf
theorem sTx_noNameAt_38 {G : zG} {d : Nat} {Q : Option Value → Heap → Prop} {H : Heap} {st : List Value} {o0 : Option Value} {o1 : Option Value} {o2 : Option Value} {o3 : Option Value} (kt : ((0 : Int32) = 0) → zW G d M_Tx_noNameAt 50 [o0, o1, o2, some (.int (0 : Int32))] st H Q) (kf : (¬ (0 : Int32) = 0) → zW G d M_Tx_noNameAt 44 [o0, o1, o2, some (.int (0 : Int32))] st H Q) : zW G d M_Tx_noNameAt 38 [o0, o1, o2, o3] st H Q :=
  zw_iconst (0 : Int32) dTx_noNameAt_38 zki_0 <| zw_istore_n (i := 3) dTx_noNameAt_39 rfl (Nat.le_of_ble_eq_true rfl) <| zw_iload_n (i := 3) dTx_noNameAt_40 rfl rfl <| zw_if_eq 50 dTx_noNameAt_41 (by decide) kt kf
theorem sTx_noNameAt_39 {G : zG} {d : Nat} {Q : Option Value → Heap → Prop} {H : Heap} {st : List Value} {o0 : Option Value} {o1 : Option Value} {o2 : Option Value} {o3 : Option Value} {xs0 : Int32} (kt : (xs0 = 0) → zW G d M_Tx_noNameAt 50 [o0, o1, o2, some (.int xs0)] st H Q) (kf : (¬ xs0 = 0) → zW G d M_Tx_noNameAt 44 [o0, o1, o2, some (.int xs0)] st H Q) : zW G d M_Tx_noNameAt 39 [o0, o1, o2, o3] ((.int xs0) :: st) H Q :=
  zw_istore_n (i := 3) dTx_noNameAt_39 rfl (Nat.le_of_ble_eq_true rfl) <| zw_iload_n (i := 3) dTx_noNameAt_40 rfl rfl <| zw_if_eq 50 dTx_noNameAt_41 (by decide) kt kf
theorem sTx_noNameAt_44 {G : zG} {d : Nat} {Q : Option Value → Heap → Prop} {H : Heap} {st : List Value} {o0 : Option Value} {o2 : Option Value} {o3 : Option Value} {x1 : Int32} (kt : (x1 < (8 : Int32)) → zW G d M_Tx_noNameAt 52 [o0, some (.int x1), o2, o3] st H Q) (kf : (¬ x1 < (8 : Int32)) → zW G d M_Tx_noNameAt 50 [o0, some (.int x1), o2, o3] st H Q) : zW G d M_Tx_noNameAt 44 [o0, some (.int x1), o2, o3] st H Q :=
  zw_iload_n (i := 1) dTx_noNameAt_44 rfl rfl <| zw_bipush (8 : Int32) dTx_noNameAt_45 zkb_8 <| zw_icmp_lt 52 dTx_noNameAt_47 (by decide) kt kf
theorem sTx_noNameAt_50 {G : zG} {d : Nat} {Q : Option Value → Heap → Prop} {H : Heap} {o0 : Option Value} {o2 : Option Value} {o3 : Option Value} {x1 : Int32} (hq : Q (some (.int x1)) H) : zW G d M_Tx_noNameAt 50 [o0, some (.int x1), o2, o3] [] H Q :=
  zw_iload_n (i := 1) dTx_noNameAt_50 rfl rfl <| zw_iret dTx_noNameAt_51 .int rfl rfl hq
theorem sTx_noNameAt_52 {G : zG} {d : Nat} {Q : Option Value → Heap → Prop} {H : Heap} {st : List Value} {o0 : Option Value} {o2 : Option Value} {o3 : Option Value} {x1 : Int32} (kk : zW G d M_Tx_noNameAt 2 [o0, some (.int (x1 + (1 : Int32))), o2, o3] st H Q) : zW G d M_Tx_noNameAt 52 [o0, some (.int x1), o2, o3] st H Q :=
  zw_iinc (i := 1) (x1 + (1 : Int32)) dTx_noNameAt_52 rfl (by rw [zki_1]) <| zw_goto 2 dTx_noNameAt_55 (by decide) <| kk
theorem sTx_noNameAt_58 {G : zG} {d : Nat} {Q : Option Value → Heap → Prop} {H : Heap} {st : List Value} {o1 : Option Value} {o2 : Option Value} {o3 : Option Value} {a0 : Nat} {P : Int32 → Heap → Prop} (hd : 1 ≤ d) (hl : st.length ≤ 4) (ho : zIs G H a0 8) (hc : zC G (d - 1) M_St_isEmpty [(.ref a0)] H (zPi P)) (kk : ∀ (r : Int32) (H1 : Heap), P r H1 → zOk G H1 → H.size ≤ H1.size → zT H ≤ zT H1 → zW G d M_Tx_noNameAt 62 [some (.ref a0), o1, o2, o3] ((.int r) :: st) H1 Q) : zW G d M_Tx_noNameAt 58 [some (.ref a0), o1, o2, o3] st H Q :=
  zw_aload_n (i := 0) dTx_noNameAt_58 rfl rfl zRf_ref <| zw_callV [] _ dTx_noNameAt_59 hd zk_Tx_28 ho rfl rfl hl hc (zPi_k kk)
theorem sTx_noNameAt_62 {G : zG} {d : Nat} {Q : Option Value → Heap → Prop} {H : Heap} {st : List Value} {o0 : Option Value} {o1 : Option Value} {o2 : Option Value} {o3 : Option Value} {xs0 : Int32} (kt : (xs0 = 0) → zW G d M_Tx_noNameAt 69 [o0, o1, o2, o3] st H Q) (kf : (¬ xs0 = 0) → zW G d M_Tx_noNameAt 65 [o0, o1, o2, o3] st H Q) : zW G d M_Tx_noNameAt 62 [o0, o1, o2, o3] ((.int xs0) :: st) H Q :=
  zw_if_eq 69 dTx_noNameAt_62 (by decide) kt kf
theorem sTx_noNameAt_65 {G : zG} {d : Nat} {Q : Option Value → Heap → Prop} {H : Heap} {o0 : Option Value} {o1 : Option Value} {o2 : Option Value} {o3 : Option Value} (hq : Q (some (.int (0 : Int32))) H) : zW G d M_Tx_noNameAt 65 [o0, o1, o2, o3] [] H Q :=
  zw_iconst (0 : Int32) dTx_noNameAt_65 zki_0 <| zw_goto 70 dTx_noNameAt_66 (by decide) <| zw_iret dTx_noNameAt_70 .int rfl rfl hq
theorem sTx_noNameAt_69 {G : zG} {d : Nat} {Q : Option Value → Heap → Prop} {H : Heap} {o0 : Option Value} {o1 : Option Value} {o2 : Option Value} {o3 : Option Value} (hq : Q (some (.int (-1 : Int32))) H) : zW G d M_Tx_noNameAt 69 [o0, o1, o2, o3] [] H Q :=
  zw_iconst (-1 : Int32) dTx_noNameAt_69 zki_m1 <| zw_iret dTx_noNameAt_70 .int rfl rfl hq
theorem sTx_noNameAt_70 {G : zG} {d : Nat} {Q : Option Value → Heap → Prop} {H : Heap} {o0 : Option Value} {o1 : Option Value} {o2 : Option Value} {o3 : Option Value} {xs0 : Int32} (hq : Q (some (.int xs0)) H) : zW G d M_Tx_noNameAt 70 [o0, o1, o2, o3] ((.int xs0) :: []) H Q :=
  zw_iret dTx_noNameAt_70 .int rfl rfl hq
theorem sPt_init_0 {G : zG} {d : Nat} {Q : Option Value → Heap → Prop} {H : Heap} {st : List Value} {a0 : Nat} (hd : 1 ≤ d) (hl : st.length ≤ 4) (kk : zW G d M_Pt_init 4 [some (.ref a0)] st H Q) : zW G d M_Pt_init 0 [some (.ref a0)] st H Q :=
  zw_aload_n (i := 0) dPt_init_0 rfl rfl zRf_ref <| zw_objInit dPt_init_1 hd (zt3 143 rfl) zo_inst zo_code hl kk
theorem sPt_init_4 {G : zG} {d : Nat} {Q : Option Value → Heap → Prop} {H : Heap} {st : List Value} {v0 : Value} (hr0 : zRf v0 := by first | exact zRf_ref | exact zRf_null | exact zRf_rf _ | assumption) (hc1 : H.size + 1 ≤ zCp G) (hs1 : zT H + 4 ≤ zSp G) (kk : ∀ H1 : Heap, zObj G H1 H.size 1 [.null, .int 0, .int 0, .int 0] → zNw 4 H H1 → zW G d M_Pt_init 8 [some v0] ((.ref H.size) :: v0 :: st) H1 Q) : zW G d M_Pt_init 4 [some v0] st H Q :=
  zw_aload_n (i := 0) dPt_init_4 rfl rfl hr0 <| zw_new dPt_init_5 zn_Pt_init_7 hc1 hs1 kk
theorem sPt_init_8 {G : zG} {d : Nat} {Q : Option Value → Heap → Prop} {H : Heap} {st : List Value} {o0 : Option Value} {as0 : Nat} {P : Heap → Prop} (hd : 1 ≤ d) (hl : ((.ref as0) :: st).length ≤ 4) (hc : zC G (d - 1) M_Sb_init [(.ref as0)] H (zPv P)) (kk : ∀ H1 : Heap, P H1 → zOk G H1 → H.size ≤ H1.size → zT H ≤ zT H1 → zW G d M_Pt_init 12 [o0] ((.ref as0) :: st) H1 Q) : zW G d M_Pt_init 8 [o0] ((.ref as0) :: st) H Q :=
  zw_dup dPt_init_8 rfl <| zw_callI [] _ dPt_init_9 hd zk_Pt_9 rfl rfl hl hc (zPv_k kk)
theorem sPt_init_12 {G : zG} {d : Nat} {Q : Option Value → Heap → Prop} {H : Heap} {st : List Value} {o0 : Option Value} {vs0 : Value} {as1 : Nat} {b0 : Value} {b1 : Value} (hrs0 : zRf vs0 := by first | exact zRf_ref | exact zRf_null | exact zRf_rf _ | assumption) (ho : zObj G H as1 9 [b0, b1]) (hw : zFr G as1) (kk : ∀ H1 : Heap, zObj G H1 as1 9 [vs0, b1] → zUp as1 H H1 → zW G d M_Pt_init 15 [o0] st H1 Q) : zW G d M_Pt_init 12 [o0] (vs0 :: (.ref as1) :: st) H Q :=
  zw_putf (k := 0) dPt_init_12 zp_Pt_init_10 ho (Nat.le_of_ble_eq_true rfl) (Nat.le_of_ble_eq_true rfl) hw (zNarO hrs0) (zFitO hrs0) kk
theorem sPt_init_15 {G : zG} {d : Nat} {Q : Option Value → Heap → Prop} {H : Heap} {st : List Value} {a0 : Nat} {b0 : Value} {b1 : Value} (ho : zObj G H a0 9 [b0, b1]) (hw : zFr G a0) (kk : ∀ H1 : Heap, zObj G H1 a0 9 [b0, (.int (0 : Int32))] → zUp a0 H H1 → zW G d M_Pt_init 20 [some (.ref a0)] st H1 Q) : zW G d M_Pt_init 15 [some (.ref a0)] st H Q :=
  zw_aload_n (i := 0) dPt_init_15 rfl rfl zRf_ref <| zw_iconst (0 : Int32) dPt_init_16 zki_0 <| zw_putf (k := 1) dPt_init_17 zp_Pt_init_16 ho (Nat.le_of_ble_eq_true rfl) (Nat.le_of_ble_eq_true rfl) hw rfl rfl kk
theorem sPt_init_20 {G : zG} {d : Nat} {Q : Option Value → Heap → Prop} {H : Heap} {o0 : Option Value} (hq : Q none H) : zW G d M_Pt_init 20 [o0] [] H Q :=
  zw_vret dPt_init_20 rfl hq
theorem sTx_begins_0 {G : zG} {d : Nat} {Q : Option Value → Heap → Prop} {H : Heap} {st : List Value} {o1 : Option Value} {a0 : Nat} {P : Int32 → Heap → Prop} (hd : 1 ≤ d) (hl : st.length ≤ 4) (ho : zIs G H a0 8) (hc : zC G (d - 1) M_St_length [(.ref a0)] H (zPi P)) (kk : ∀ (r : Int32) (H1 : Heap), P r H1 → zOk G H1 → H.size ≤ H1.size → zT H ≤ zT H1 → zW G d M_Tx_begins 4 [some (.ref a0), o1] ((.int r) :: st) H1 Q) : zW G d M_Tx_begins 0 [some (.ref a0), o1] st H Q :=
  zw_aload_n (i := 0) dTx_begins_0 rfl rfl zRf_ref <| zw_callV [] _ dTx_begins_1 hd zk_Tx_9 ho rfl rfl hl hc (zPi_k kk)
theorem sTx_begins_4 {G : zG} {d : Nat} {Q : Option Value → Heap → Prop} {H : Heap} {st : List Value} {o0 : Option Value} {a1 : Nat} {P : Int32 → Heap → Prop} (hd : 1 ≤ d) (hl : st.length ≤ 4) (ho : zIs G H a1 8) (hc : zC G (d - 1) M_St_length [(.ref a1)] H (zPi P)) (kk : ∀ (r : Int32) (H1 : Heap), P r H1 → zOk G H1 → H.size ≤ H1.size → zT H ≤ zT H1 → zW G d M_Tx_begins 8 [o0, some (.ref a1)] ((.int r) :: st) H1 Q) : zW G d M_Tx_begins 4 [o0, some (.ref a1)] st H Q :=
  zw_aload_n (i := 1) dTx_begins_4 rfl rfl zRf_ref <| zw_callV [] _ dTx_begins_5 hd zk_Tx_9 ho rfl rfl hl hc (zPi_k kk)
theorem sTx_begins_8 {G : zG} {d : Nat} {Q : Option Value → Heap → Prop} {H : Heap} {st : List Value} {o0 : Option Value} {o1 : Option Value} {xs0 : Int32} {xs1 : Int32} (kt : (xs1 < xs0) → zW G d M_Tx_begins 31 [o0, o1] st H Q) (kf : (¬ xs1 < xs0) → zW G d M_Tx_begins 11 [o0, o1] st H Q) : zW G d M_Tx_begins 8 [o0, o1] ((.int xs0) :: (.int xs1) :: st) H Q :=
  zw_icmp_lt 31 dTx_begins_8 (by decide) kt kf
theorem sTx_begins_11 {G : zG} {d : Nat} {Q : Option Value → Heap → Prop} {H : Heap} {st : List Value} {v0 : Value} {a1 : Nat} {P : Int32 → Heap → Prop} (hr0 : zRf v0 := by first | exact zRf_ref | exact zRf_null | exact zRf_rf _ | assumption) (hd : 1 ≤ d) (hl : ((.int (0 : Int32)) :: v0 :: st).length ≤ 4) (ho : zIs G H a1 8) (hc : zC G (d - 1) M_St_length [(.ref a1)] H (zPi P)) (kk : ∀ (r : Int32) (H1 : Heap), P r H1 → zOk G H1 → H.size ≤ H1.size → zT H ≤ zT H1 → zW G d M_Tx_begins 17 [some v0, some (.ref a1)] ((.int r) :: (.int (0 : Int32)) :: v0 :: st) H1 Q) : zW G d M_Tx_begins 11 [some v0, some (.ref a1)] st H Q :=
  zw_aload_n (i := 0) dTx_begins_11 rfl rfl hr0 <| zw_iconst (0 : Int32) dTx_begins_12 zki_0 <| zw_aload_n (i := 1) dTx_begins_13 rfl rfl zRf_ref <| zw_callV [] _ dTx_begins_14 hd zk_Tx_9 ho rfl rfl hl hc (zPi_k kk)
theorem sTx_begins_17 {G : zG} {d : Nat} {Q : Option Value → Heap → Prop} {H : Heap} {st : List Value} {o0 : Option Value} {o1 : Option Value} {xs0 : Int32} {xs1 : Int32} {as2 : Nat} {P : Value → Heap → Prop} (hd : 1 ≤ d) (hl : st.length ≤ 4) (ho : zIs G H as2 8) (hc : zC G (d - 1) M_St_substring_0 [(.ref as2), (.int xs1), (.int xs0)] H (zPr P)) (kk : ∀ (r : Value) (H1 : Heap), zRf r → P r H1 → zOk G H1 → H.size ≤ H1.size → zT H ≤ zT H1 → zW G d M_Tx_begins 20 [o0, o1] (r :: st) H1 Q) : zW G d M_Tx_begins 17 [o0, o1] ((.int xs0) :: (.int xs1) :: (.ref as2) :: st) H Q :=
  zw_callV [(.int xs1), (.int xs0)] _ dTx_begins_17 hd zk_Tx_40 ho rfl rfl hl hc (zPr_k kk)
theorem sTx_begins_20 {G : zG} {d : Nat} {Q : Option Value → Heap → Prop} {H : Heap} {st : List Value} {o0 : Option Value} {v1 : Value} {as0 : Nat} {P : Int32 → Heap → Prop} (hr1 : zRf v1 := by first | exact zRf_ref | exact zRf_null | exact zRf_rf _ | assumption) (hd : 1 ≤ d) (hl : st.length ≤ 4) (ho : zIs G H as0 8) (hc : zC G (d - 1) M_St_equals [(.ref as0), v1] H (zPi P)) (kk : ∀ (r : Int32) (H1 : Heap), P r H1 → zOk G H1 → H.size ≤ H1.size → zT H ≤ zT H1 → zW G d M_Tx_begins 24 [o0, some v1] ((.int r) :: st) H1 Q) : zW G d M_Tx_begins 20 [o0, some v1] ((.ref as0) :: st) H Q :=
  zw_aload_n (i := 1) dTx_begins_20 rfl rfl hr1 <| zw_callV [v1] _ dTx_begins_21 hd zk_Tx_44 ho rfl rfl hl hc (zPi_k kk)
theorem sTx_begins_24 {G : zG} {d : Nat} {Q : Option Value → Heap → Prop} {H : Heap} {st : List Value} {o0 : Option Value} {o1 : Option Value} {xs0 : Int32} (kt : (xs0 = 0) → zW G d M_Tx_begins 31 [o0, o1] st H Q) (kf : (¬ xs0 = 0) → zW G d M_Tx_begins 27 [o0, o1] st H Q) : zW G d M_Tx_begins 24 [o0, o1] ((.int xs0) :: st) H Q :=
  zw_if_eq 31 dTx_begins_24 (by decide) kt kf
theorem sTx_begins_27 {G : zG} {d : Nat} {Q : Option Value → Heap → Prop} {H : Heap} {o0 : Option Value} {o1 : Option Value} (hn : narrow .boolean (.int (1 : Int32)) = .int (1 : Int32)) (hq : Q (some (.int (1 : Int32))) H) : zW G d M_Tx_begins 27 [o0, o1] [] H Q :=
  zw_iconst (1 : Int32) dTx_begins_27 zki_1 <| zw_goto 32 dTx_begins_28 (by decide) <| zw_iret dTx_begins_32 .boolean rfl hn hq
theorem sTx_begins_31 {G : zG} {d : Nat} {Q : Option Value → Heap → Prop} {H : Heap} {o0 : Option Value} {o1 : Option Value} (hn : narrow .boolean (.int (0 : Int32)) = .int (0 : Int32)) (hq : Q (some (.int (0 : Int32))) H) : zW G d M_Tx_begins 31 [o0, o1] [] H Q :=
  zw_iconst (0 : Int32) dTx_begins_31 zki_0 <| zw_iret dTx_begins_32 .boolean rfl hn hq
theorem sTx_begins_32 {G : zG} {d : Nat} {Q : Option Value → Heap → Prop} {H : Heap} {o0 : Option Value} {o1 : Option Value} {xs0 : Int32} (hn : narrow .boolean (.int xs0) = .int xs0) (hq : Q (some (.int xs0)) H) : zW G d M_Tx_begins 32 [o0, o1] ((.int xs0) :: []) H Q :=
  zw_iret dTx_begins_32 .boolean rfl hn hq
theorem sPt_startBeside_0 {G : zG} {d : Nat} {Q : Option Value → Heap → Prop} {H : Heap} {st : List Value} {a0 : Nat} {af1 : Nat} {a1 : Nat} {vf2 : Value} {P : Value → Heap → Prop} (hrf2 : zRf vf2 := by first | exact zRf_ref | exact zRf_null | exact zRf_rf _ | assumption) (hf1 : zFd G H a0 9 0 (.ref af1)) (hf2 : zFd G H a1 2 1 vf2) (hd : 1 ≤ d) (hl : st.length ≤ 4) (ho : zIs G H af1 1) (hc : zC G (d - 1) M_Sb_append_1 [(.ref af1), vf2] H (zPr P)) (kk : ∀ (r : Value) (H1 : Heap), zRf r → P r H1 → zOk G H1 → H.size ≤ H1.size → zT H ≤ zT H1 → zW G d M_Pt_startBeside 11 [some (.ref a0), some (.ref a1)] (r :: st) H1 Q) : zW G d M_Pt_startBeside 0 [some (.ref a0), some (.ref a1)] st H Q :=
  zw_aload_n (i := 0) dPt_startBeside_0 rfl rfl zRf_ref <| zw_getf dPt_startBeside_1 zf_Pt_10 hf1 <| zw_aload_n (i := 1) dPt_startBeside_4 rfl rfl zRf_ref <| zw_getf dPt_startBeside_5 zf_Pt_20 hf2 <| zw_callV [vf2] _ dPt_startBeside_8 hd zk_Pt_26 ho rfl rfl hl hc (zPr_k kk)
theorem sPt_startBeside_11 {G : zG} {d : Nat} {Q : Option Value → Heap → Prop} {H : Heap} {st : List Value} {ws0 : Value} {v0 : Value} {a1 : Nat} {P : Int32 → Heap → Prop} (hcs0 : ws0.category = 1 := by first | rfl | exact zRf.cat (by assumption)) (hr0 : zRf v0 := by first | exact zRf_ref | exact zRf_null | exact zRf_rf _ | assumption) (hd : 1 ≤ d) (hl : (v0 :: st).length ≤ 4) (ho : zIs G H a1 2) (hc : zC G (d - 1) M_Ad_segments [(.ref a1)] H (zPi P)) (kk : ∀ (r : Int32) (H1 : Heap), P r H1 → zOk G H1 → H.size ≤ H1.size → zT H ≤ zT H1 → zW G d M_Pt_startBeside 17 [some v0, some (.ref a1)] ((.int r) :: v0 :: st) H1 Q) : zW G d M_Pt_startBeside 11 [some v0, some (.ref a1)] (ws0 :: st) H Q :=
  zw_pop dPt_startBeside_11 hcs0 <| zw_aload_n (i := 0) dPt_startBeside_12 rfl rfl hr0 <| zw_aload_n (i := 1) dPt_startBeside_13 rfl rfl zRf_ref <| zw_callV [] _ dPt_startBeside_14 hd zk_Pt_30 ho rfl rfl hl hc (zPi_k kk)
theorem sPt_startBeside_17 {G : zG} {d : Nat} {Q : Option Value → Heap → Prop} {H : Heap} {st : List Value} {o0 : Option Value} {o1 : Option Value} {xs0 : Int32} {as1 : Nat} {b0 : Value} {b1 : Value} (ho : zObj G H as1 9 [b0, b1]) (hw : zFr G as1) (kk : ∀ H1 : Heap, zObj G H1 as1 9 [b0, (.int xs0)] → zUp as1 H H1 → zW G d M_Pt_startBeside 20 [o0, o1] st H1 Q) : zW G d M_Pt_startBeside 17 [o0, o1] ((.int xs0) :: (.ref as1) :: st) H Q :=
  zw_putf (k := 1) dPt_startBeside_17 zp_Pt_startBeside_16 ho (Nat.le_of_ble_eq_true rfl) (Nat.le_of_ble_eq_true rfl) hw rfl rfl kk
theorem sPt_startBeside_20 {G : zG} {d : Nat} {Q : Option Value → Heap → Prop} {H : Heap} {st : List Value} {o1 : Option Value} {a0 : Nat} {P : Heap → Prop} (hd : 1 ≤ d) (hl : st.length ≤ 4) (ho : zIs G H a0 9) (hc : zC G (d - 1) M_Pt_pop [(.ref a0)] H (zPv P)) (kk : ∀ H1 : Heap, P H1 → zOk G H1 → H.size ≤ H1.size → zT H ≤ zT H1 → zW G d M_Pt_startBeside 24 [some (.ref a0), o1] st H1 Q) : zW G d M_Pt_startBeside 20 [some (.ref a0), o1] st H Q :=
  zw_aload_n (i := 0) dPt_startBeside_20 rfl rfl zRf_ref <| zw_callV [] _ dPt_startBeside_21 hd zk_Pt_34 ho rfl rfl hl hc (zPv_k kk)
theorem sPt_startBeside_24 {G : zG} {d : Nat} {Q : Option Value → Heap → Prop} {H : Heap} {o0 : Option Value} {o1 : Option Value} (hq : Q none H) : zW G d M_Pt_startBeside 24 [o0, o1] [] H Q :=
  zw_vret dPt_startBeside_24 rfl hq
theorem sAd_segments_0 {G : zG} {d : Nat} {Q : Option Value → Heap → Prop} {H : Heap} {st : List Value} {o0 : Option Value} {o1 : Option Value} {o2 : Option Value} (kk : zW G d M_Ad_segments 4 [o0, some (.int (0 : Int32)), some (.int (0 : Int32))] st H Q) : zW G d M_Ad_segments 0 [o0, o1, o2] st H Q :=
  zw_iconst (0 : Int32) dAd_segments_0 zki_0 <| zw_istore_n (i := 1) dAd_segments_1 rfl (Nat.le_of_ble_eq_true rfl) <| zw_iconst (0 : Int32) dAd_segments_2 zki_0 <| zw_istore_n (i := 2) dAd_segments_3 rfl (Nat.le_of_ble_eq_true rfl) <| kk
theorem sAd_segments_4 {G : zG} {d : Nat} {Q : Option Value → Heap → Prop} {H : Heap} {st : List Value} {o1 : Option Value} {x2 : Int32} {a0 : Nat} {af1 : Nat} {P : Int32 → Heap → Prop} (hf1 : zFd G H a0 2 1 (.ref af1)) (hd : 1 ≤ d) (hl : ((.int x2) :: st).length ≤ 4) (ho : zIs G H af1 8) (hc : zC G (d - 1) M_St_length [(.ref af1)] H (zPi P)) (kk : ∀ (r : Int32) (H1 : Heap), P r H1 → zOk G H1 → H.size ≤ H1.size → zT H ≤ zT H1 → zW G d M_Ad_segments 12 [some (.ref a0), o1, some (.int x2)] ((.int r) :: (.int x2) :: st) H1 Q) : zW G d M_Ad_segments 4 [some (.ref a0), o1, some (.int x2)] st H Q :=
  zw_iload_n (i := 2) dAd_segments_4 rfl rfl <| zw_aload_n (i := 0) dAd_segments_5 rfl rfl zRf_ref <| zw_getf dAd_segments_6 zf_Ad_13 hf1 <| zw_callV [] _ dAd_segments_9 hd zk_Ad_66 ho rfl rfl hl hc (zPi_k kk)
theorem sAd_segments_12 {G : zG} {d : Nat} {Q : Option Value → Heap → Prop} {H : Heap} {st : List Value} {o0 : Option Value} {o1 : Option Value} {o2 : Option Value} {xs0 : Int32} {xs1 : Int32} (kt : (xs0 ≤ xs1) → zW G d M_Ad_segments 37 [o0, o1, o2] st H Q) (kf : (¬ xs0 ≤ xs1) → zW G d M_Ad_segments 15 [o0, o1, o2] st H Q) : zW G d M_Ad_segments 12 [o0, o1, o2] ((.int xs0) :: (.int xs1) :: st) H Q :=
  zw_icmp_ge 37 dAd_segments_12 (by decide) kt kf
theorem sAd_segments_15 {G : zG} {d : Nat} {Q : Option Value → Heap → Prop} {H : Heap} {st : List Value} {o1 : Option Value} {a0 : Nat} {af1 : Nat} {x2 : Int32} {P : Int32 → Heap → Prop} (hf1 : zFd G H a0 2 1 (.ref af1)) (hd : 1 ≤ d) (hl : st.length ≤ 4) (ho : zIs G H af1 8) (hc : zC G (d - 1) M_St_charAt [(.ref af1), (.int x2)] H (zPi P)) (kk : ∀ (r : Int32) (H1 : Heap), P r H1 → zOk G H1 → H.size ≤ H1.size → zT H ≤ zT H1 → zW G d M_Ad_segments 23 [some (.ref a0), o1, some (.int x2)] ((.int r) :: st) H1 Q) : zW G d M_Ad_segments 15 [some (.ref a0), o1, some (.int x2)] st H Q :=
  zw_aload_n (i := 0) dAd_segments_15 rfl rfl zRf_ref <| zw_getf dAd_segments_16 zf_Ad_13 hf1 <| zw_iload_n (i := 2) dAd_segments_19 rfl rfl <| zw_callV [(.int x2)] _ dAd_segments_20 hd zk_Ad_95 ho rfl rfl hl hc (zPi_k kk)
theorem sAd_segments_23 {G : zG} {d : Nat} {Q : Option Value → Heap → Prop} {H : Heap} {st : List Value} {o0 : Option Value} {o1 : Option Value} {o2 : Option Value} {xs0 : Int32} (kt : (¬ xs0 = (47 : Int32)) → zW G d M_Ad_segments 31 [o0, o1, o2] st H Q) (kf : (xs0 = (47 : Int32)) → zW G d M_Ad_segments 28 [o0, o1, o2] st H Q) : zW G d M_Ad_segments 23 [o0, o1, o2] ((.int xs0) :: st) H Q :=
  zw_bipush (47 : Int32) dAd_segments_23 zkb_47 <| zw_icmp_ne 31 dAd_segments_25 (by decide) kt kf
theorem sAd_segments_28 {G : zG} {d : Nat} {Q : Option Value → Heap → Prop} {H : Heap} {st : List Value} {o0 : Option Value} {x1 : Int32} {x2 : Int32} (kk : zW G d M_Ad_segments 4 [o0, some (.int (x1 + (1 : Int32))), some (.int (x2 + (1 : Int32)))] st H Q) : zW G d M_Ad_segments 28 [o0, some (.int x1), some (.int x2)] st H Q :=
  zw_iinc (i := 1) (x1 + (1 : Int32)) dAd_segments_28 rfl (by rw [zki_1]) <| zw_iinc (i := 2) (x2 + (1 : Int32)) dAd_segments_31 rfl (by rw [zki_1]) <| zw_goto 4 dAd_segments_34 (by decide) <| kk
theorem sAd_segments_31 {G : zG} {d : Nat} {Q : Option Value → Heap → Prop} {H : Heap} {st : List Value} {o0 : Option Value} {o1 : Option Value} {x2 : Int32} (kk : zW G d M_Ad_segments 4 [o0, o1, some (.int (x2 + (1 : Int32)))] st H Q) : zW G d M_Ad_segments 31 [o0, o1, some (.int x2)] st H Q :=
  zw_iinc (i := 2) (x2 + (1 : Int32)) dAd_segments_31 rfl (by rw [zki_1]) <| zw_goto 4 dAd_segments_34 (by decide) <| kk
theorem sAd_segments_37 {G : zG} {d : Nat} {Q : Option Value → Heap → Prop} {H : Heap} {o0 : Option Value} {o2 : Option Value} {x1 : Int32} (hq : Q (some (.int x1)) H) : zW G d M_Ad_segments 37 [o0, some (.int x1), o2] [] H Q :=
  zw_iload_n (i := 1) dAd_segments_37 rfl rfl <| zw_iret dAd_segments_38 .int rfl rfl hq
theorem sPt_pop_0 {G : zG} {d : Nat} {Q : Option Value → Heap → Prop} {H : Heap} {st : List Value} {o1 : Option Value} {a0 : Nat} {af1 : Nat} {P : Int32 → Heap → Prop} (hf1 : zFd G H a0 9 0 (.ref af1)) (hd : 1 ≤ d) (hl : st.length ≤ 4) (ho : zIs G H af1 1) (hc : zC G (d - 1) M_Sb_length [(.ref af1)] H (zPi P)) (kk : ∀ (r : Int32) (H1 : Heap), P r H1 → zOk G H1 → H.size ≤ H1.size → zT H ≤ zT H1 → zW G d M_Pt_pop 7 [some (.ref a0), o1] ((.int r) :: st) H1 Q) : zW G d M_Pt_pop 0 [some (.ref a0), o1] st H Q :=
  zw_aload_n (i := 0) dPt_pop_0 rfl rfl zRf_ref <| zw_getf dPt_pop_1 zf_Pt_10 hf1 <| zw_callV [] _ dPt_pop_4 hd zk_Pt_79 ho rfl rfl hl hc (zPi_k kk)
theorem sPt_pop_7 {G : zG} {d : Nat} {Q : Option Value → Heap → Prop} {H : Heap} {st : List Value} {o0 : Option Value} {o1 : Option Value} {xs0 : Int32} (kt : (¬ xs0 = 0) → zW G d M_Pt_pop 11 [o0, o1] st H Q) (kf : (xs0 = 0) → zW G d M_Pt_pop 10 [o0, o1] st H Q) : zW G d M_Pt_pop 7 [o0, o1] ((.int xs0) :: st) H Q :=
  zw_if_ne 11 dPt_pop_7 (by decide) kt kf
theorem sPt_pop_10 {G : zG} {d : Nat} {Q : Option Value → Heap → Prop} {H : Heap} {o0 : Option Value} {o1 : Option Value} (hq : Q none H) : zW G d M_Pt_pop 10 [o0, o1] [] H Q :=
  zw_vret dPt_pop_10 rfl hq
theorem sPt_pop_11 {G : zG} {d : Nat} {Q : Option Value → Heap → Prop} {H : Heap} {st : List Value} {o1 : Option Value} {a0 : Nat} {af1 : Nat} {P : Int32 → Heap → Prop} (hf1 : zFd G H a0 9 0 (.ref af1)) (hd : 1 ≤ d) (hl : st.length ≤ 4) (ho : zIs G H af1 1) (hc : zC G (d - 1) M_Sb_length [(.ref af1)] H (zPi P)) (kk : ∀ (r : Int32) (H1 : Heap), P r H1 → zOk G H1 → H.size ≤ H1.size → zT H ≤ zT H1 → zW G d M_Pt_pop 18 [some (.ref a0), o1] ((.int r) :: st) H1 Q) : zW G d M_Pt_pop 11 [some (.ref a0), o1] st H Q :=
  zw_aload_n (i := 0) dPt_pop_11 rfl rfl zRf_ref <| zw_getf dPt_pop_12 zf_Pt_10 hf1 <| zw_callV [] _ dPt_pop_15 hd zk_Pt_79 ho rfl rfl hl hc (zPi_k kk)
theorem sPt_pop_18 {G : zG} {d : Nat} {Q : Option Value → Heap → Prop} {H : Heap} {st : List Value} {o0 : Option Value} {o1 : Option Value} {xs0 : Int32} (kk : zW G d M_Pt_pop 21 [o0, some (.int (xs0 - (1 : Int32)))] st H Q) : zW G d M_Pt_pop 18 [o0, o1] ((.int xs0) :: st) H Q :=
  zw_iconst (1 : Int32) dPt_pop_18 zki_1 <| zw_isub dPt_pop_19 <| zw_istore_n (i := 1) dPt_pop_20 rfl (Nat.le_of_ble_eq_true rfl) <| kk
theorem sPt_pop_21 {G : zG} {d : Nat} {Q : Option Value → Heap → Prop} {H : Heap} {st : List Value} {o0 : Option Value} {x1 : Int32} (kt : (x1 ≤ 0) → zW G d M_Pt_pop 44 [o0, some (.int x1)] st H Q) (kf : (¬ x1 ≤ 0) → zW G d M_Pt_pop 25 [o0, some (.int x1)] st H Q) : zW G d M_Pt_pop 21 [o0, some (.int x1)] st H Q :=
  zw_iload_n (i := 1) dPt_pop_21 rfl rfl <| zw_if_le 44 dPt_pop_22 (by decide) kt kf
theorem sPt_pop_25 {G : zG} {d : Nat} {Q : Option Value → Heap → Prop} {H : Heap} {st : List Value} {a0 : Nat} {af1 : Nat} {x1 : Int32} {P : Int32 → Heap → Prop} (hf1 : zFd G H a0 9 0 (.ref af1)) (hd : 1 ≤ d) (hl : st.length ≤ 4) (ho : zIs G H af1 1) (hc : zC G (d - 1) M_Sb_charAt [(.ref af1), (.int x1)] H (zPi P)) (kk : ∀ (r : Int32) (H1 : Heap), P r H1 → zOk G H1 → H.size ≤ H1.size → zT H ≤ zT H1 → zW G d M_Pt_pop 33 [some (.ref a0), some (.int x1)] ((.int r) :: st) H1 Q) : zW G d M_Pt_pop 25 [some (.ref a0), some (.int x1)] st H Q :=
  zw_aload_n (i := 0) dPt_pop_25 rfl rfl zRf_ref <| zw_getf dPt_pop_26 zf_Pt_10 hf1 <| zw_iload_n (i := 1) dPt_pop_29 rfl rfl <| zw_callV [(.int x1)] _ dPt_pop_30 hd zk_Pt_80 ho rfl rfl hl hc (zPi_k kk)
theorem sPt_pop_33 {G : zG} {d : Nat} {Q : Option Value → Heap → Prop} {H : Heap} {st : List Value} {o0 : Option Value} {o1 : Option Value} {xs0 : Int32} (kt : (xs0 = (47 : Int32)) → zW G d M_Pt_pop 44 [o0, o1] st H Q) (kf : (¬ xs0 = (47 : Int32)) → zW G d M_Pt_pop 38 [o0, o1] st H Q) : zW G d M_Pt_pop 33 [o0, o1] ((.int xs0) :: st) H Q :=
  zw_bipush (47 : Int32) dPt_pop_33 zkb_47 <| zw_icmp_eq 44 dPt_pop_35 (by decide) kt kf
theorem sPt_pop_38 {G : zG} {d : Nat} {Q : Option Value → Heap → Prop} {H : Heap} {st : List Value} {o0 : Option Value} {x1 : Int32} (kk : zW G d M_Pt_pop 21 [o0, some (.int (x1 + (-1 : Int32)))] st H Q) : zW G d M_Pt_pop 38 [o0, some (.int x1)] st H Q :=
  zw_iinc (i := 1) (x1 + (-1 : Int32)) dPt_pop_38 rfl (by rw [zki_m1]) <| zw_goto 21 dPt_pop_41 (by decide) <| kk
theorem sPt_pop_44 {G : zG} {d : Nat} {Q : Option Value → Heap → Prop} {H : Heap} {st : List Value} {a0 : Nat} {af1 : Nat} {x1 : Int32} {P : Heap → Prop} (hf1 : zFd G H a0 9 0 (.ref af1)) (hd : 1 ≤ d) (hl : st.length ≤ 4) (ho : zIs G H af1 1) (hc : zC G (d - 1) M_Sb_setLength [(.ref af1), (.int x1)] H (zPv P)) (kk : ∀ H1 : Heap, P H1 → zOk G H1 → H.size ≤ H1.size → zT H ≤ zT H1 → zW G d M_Pt_pop 52 [some (.ref a0), some (.int x1)] st H1 Q) : zW G d M_Pt_pop 44 [some (.ref a0), some (.int x1)] st H Q :=
  zw_aload_n (i := 0) dPt_pop_44 rfl rfl zRf_ref <| zw_getf dPt_pop_45 zf_Pt_10 hf1 <| zw_iload_n (i := 1) dPt_pop_48 rfl rfl <| zw_callV [(.int x1)] _ dPt_pop_49 hd zk_Pt_81 ho rfl rfl hl hc (zPv_k kk)
theorem sPt_pop_52 {G : zG} {d : Nat} {Q : Option Value → Heap → Prop} {H : Heap} {st : List Value} {o1 : Option Value} {a0 : Nat} {xf1 : Int32} {b0 : Value} {b1 : Value} (hf1 : zFd G H a0 9 1 (.int xf1)) (ho : zObj G H a0 9 [b0, b1]) (hw : zFr G a0) (kk : ∀ H1 : Heap, zObj G H1 a0 9 [b0, (.int (xf1 - (1 : Int32)))] → zUp a0 H H1 → zW G d M_Pt_pop 62 [some (.ref a0), o1] st H1 Q) : zW G d M_Pt_pop 52 [some (.ref a0), o1] st H Q :=
  zw_aload_n (i := 0) dPt_pop_52 rfl rfl zRf_ref <| zw_dup dPt_pop_53 rfl <| zw_getf dPt_pop_54 zf_Pt_16 hf1 <| zw_iconst (1 : Int32) dPt_pop_57 zki_1 <| zw_isub dPt_pop_58 <| zw_putf (k := 1) dPt_pop_59 zp_Pt_pop_16 ho (Nat.le_of_ble_eq_true rfl) (Nat.le_of_ble_eq_true rfl) hw rfl rfl kk
theorem sPt_pop_62 {G : zG} {d : Nat} {Q : Option Value → Heap → Prop} {H : Heap} {o0 : Option Value} {o1 : Option Value} (hq : Q none H) : zW G d M_Pt_pop 62 [o0, o1] [] H Q :=
  zw_vret dPt_pop_62 rfl hq
theorem sPt_take_0 {G : zG} {d : Nat} {Q : Option Value → Heap → Prop} {H : Heap} {st : List Value} {o0 : Option Value} {o2 : Option Value} {o3 : Option Value} {o4 : Option Value} {v1 : Value} {ak1 : Nat} {P : Int32 → Heap → Prop} (hr1 : zRf v1 := by first | exact zRf_ref | exact zRf_null | exact zRf_rf _ | assumption) (hk1 : vk_R "NetDesk$Path" 37 "/.-_" ak1 (zS G)) (hd : 1 ≤ d) (hl : st.length ≤ 4) (hc : zC G (d - 1) M_Tx_hasOnly [v1, (.ref ak1)] H (zPi P)) (kk : ∀ (r : Int32) (H1 : Heap), P r H1 → zOk G H1 → H.size ≤ H1.size → zT H ≤ zT H1 → zW G d M_Pt_take 6 [o0, some v1, o2, o3, o4] ((.int r) :: st) H1 Q) : zW G d M_Pt_take 0 [o0, some v1, o2, o3, o4] st H Q :=
  zw_aload_n (i := 1) dPt_take_0 rfl rfl hr1 <| zw_ldcS dPt_take_1 rfl hk1 <| zw_callS [v1, (.ref ak1)] _ dPt_take_3 hd zk_Pt_39 rfl rfl hl hc (zPi_k kk)
theorem sPt_take_6 {G : zG} {d : Nat} {Q : Option Value → Heap → Prop} {H : Heap} {st : List Value} {o0 : Option Value} {o1 : Option Value} {o2 : Option Value} {o3 : Option Value} {o4 : Option Value} {xs0 : Int32} (kt : (¬ xs0 = 0) → zW G d M_Pt_take 11 [o0, o1, o2, o3, o4] st H Q) (kf : (xs0 = 0) → zW G d M_Pt_take 9 [o0, o1, o2, o3, o4] st H Q) : zW G d M_Pt_take 6 [o0, o1, o2, o3, o4] ((.int xs0) :: st) H Q :=
  zw_if_ne 11 dPt_take_6 (by decide) kt kf
theorem sPt_take_9 {G : zG} {d : Nat} {Q : Option Value → Heap → Prop} {H : Heap} {o0 : Option Value} {o1 : Option Value} {o2 : Option Value} {o3 : Option Value} {o4 : Option Value} (hn : narrow .boolean (.int (0 : Int32)) = .int (0 : Int32)) (hq : Q (some (.int (0 : Int32))) H) : zW G d M_Pt_take 9 [o0, o1, o2, o3, o4] [] H Q :=
  zw_iconst (0 : Int32) dPt_take_9 zki_0 <| zw_iret dPt_take_10 .boolean rfl hn hq
theorem sPt_take_11 {G : zG} {d : Nat} {Q : Option Value → Heap → Prop} {H : Heap} {st : List Value} {o0 : Option Value} {o1 : Option Value} {o2 : Option Value} {o3 : Option Value} {o4 : Option Value} (kk : zW G d M_Pt_take 15 [o0, o1, some (.int (0 : Int32)), some (.int (0 : Int32)), o4] st H Q) : zW G d M_Pt_take 11 [o0, o1, o2, o3, o4] st H Q :=
  zw_iconst (0 : Int32) dPt_take_11 zki_0 <| zw_istore_n (i := 2) dPt_take_12 rfl (Nat.le_of_ble_eq_true rfl) <| zw_iconst (0 : Int32) dPt_take_13 zki_0 <| zw_istore_n (i := 3) dPt_take_14 rfl (Nat.le_of_ble_eq_true rfl) <| kk
theorem sPt_take_15 {G : zG} {d : Nat} {Q : Option Value → Heap → Prop} {H : Heap} {st : List Value} {o0 : Option Value} {o2 : Option Value} {o4 : Option Value} {x3 : Int32} {a1 : Nat} {P : Int32 → Heap → Prop} (hd : 1 ≤ d) (hl : ((.int x3) :: st).length ≤ 4) (ho : zIs G H a1 8) (hc : zC G (d - 1) M_St_length [(.ref a1)] H (zPi P)) (kk : ∀ (r : Int32) (H1 : Heap), P r H1 → zOk G H1 → H.size ≤ H1.size → zT H ≤ zT H1 → zW G d M_Pt_take 20 [o0, some (.ref a1), o2, some (.int x3), o4] ((.int r) :: (.int x3) :: st) H1 Q) : zW G d M_Pt_take 15 [o0, some (.ref a1), o2, some (.int x3), o4] st H Q :=
  zw_iload_n (i := 3) dPt_take_15 rfl rfl <| zw_aload_n (i := 1) dPt_take_16 rfl rfl zRf_ref <| zw_callV [] _ dPt_take_17 hd zk_Pt_45 ho rfl rfl hl hc (zPi_k kk)
theorem sPt_take_20 {G : zG} {d : Nat} {Q : Option Value → Heap → Prop} {H : Heap} {st : List Value} {o0 : Option Value} {o1 : Option Value} {o2 : Option Value} {o3 : Option Value} {o4 : Option Value} {xs0 : Int32} {xs1 : Int32} (kt : (xs0 < xs1) → zW G d M_Pt_take 80 [o0, o1, o2, o3, o4] st H Q) (kf : (¬ xs0 < xs1) → zW G d M_Pt_take 23 [o0, o1, o2, o3, o4] st H Q) : zW G d M_Pt_take 20 [o0, o1, o2, o3, o4] ((.int xs0) :: (.int xs1) :: st) H Q :=
  zw_icmp_gt 80 dPt_take_20 (by decide) kt kf
theorem sPt_take_23 {G : zG} {d : Nat} {Q : Option Value → Heap → Prop} {H : Heap} {st : List Value} {o0 : Option Value} {o2 : Option Value} {o4 : Option Value} {x3 : Int32} {a1 : Nat} {P : Int32 → Heap → Prop} (hd : 1 ≤ d) (hl : ((.int x3) :: st).length ≤ 4) (ho : zIs G H a1 8) (hc : zC G (d - 1) M_St_length [(.ref a1)] H (zPi P)) (kk : ∀ (r : Int32) (H1 : Heap), P r H1 → zOk G H1 → H.size ≤ H1.size → zT H ≤ zT H1 → zW G d M_Pt_take 28 [o0, some (.ref a1), o2, some (.int x3), o4] ((.int r) :: (.int x3) :: st) H1 Q) : zW G d M_Pt_take 23 [o0, some (.ref a1), o2, some (.int x3), o4] st H Q :=
  zw_iload_n (i := 3) dPt_take_23 rfl rfl <| zw_aload_n (i := 1) dPt_take_24 rfl rfl zRf_ref <| zw_callV [] _ dPt_take_25 hd zk_Pt_45 ho rfl rfl hl hc (zPi_k kk)
theorem sPt_take_28 {G : zG} {d : Nat} {Q : Option Value → Heap → Prop} {H : Heap} {st : List Value} {o0 : Option Value} {o1 : Option Value} {o2 : Option Value} {o3 : Option Value} {o4 : Option Value} {xs0 : Int32} {xs1 : Int32} (kt : (¬ xs1 = xs0) → zW G d M_Pt_take 35 [o0, o1, o2, o3, o4] st H Q) (kf : (xs1 = xs0) → zW G d M_Pt_take 31 [o0, o1, o2, o3, o4] st H Q) : zW G d M_Pt_take 28 [o0, o1, o2, o3, o4] ((.int xs0) :: (.int xs1) :: st) H Q :=
  zw_icmp_ne 35 dPt_take_28 (by decide) kt kf
theorem sPt_take_31 {G : zG} {d : Nat} {Q : Option Value → Heap → Prop} {H : Heap} {st : List Value} {o0 : Option Value} {o1 : Option Value} {o2 : Option Value} {o3 : Option Value} {o4 : Option Value} (kt : (¬ (1 : Int32) = 0) → zW G d M_Pt_take 53 [o0, o1, o2, o3, some (.int (1 : Int32))] st H Q) (kf : ((1 : Int32) = 0) → zW G d M_Pt_take 43 [o0, o1, o2, o3, some (.int (1 : Int32))] st H Q) : zW G d M_Pt_take 31 [o0, o1, o2, o3, o4] st H Q :=
  zw_iconst (1 : Int32) dPt_take_31 zki_1 <| zw_goto 36 dPt_take_32 (by decide) <| zw_istore (i := 4) dPt_take_36 (Nat.le_of_ble_eq_true rfl) <| zw_iload (i := 4) dPt_take_38 rfl <| zw_if_ne 53 dPt_take_40 (by decide) kt kf
theorem sPt_take_35 {G : zG} {d : Nat} {Q : Option Value → Heap → Prop} {H : Heap} {st : List Value} {o0 : Option Value} {o1 : Option Value} {o2 : Option Value} {o3 : Option Value} {o4 : Option Value} (kt : (¬ (0 : Int32) = 0) → zW G d M_Pt_take 53 [o0, o1, o2, o3, some (.int (0 : Int32))] st H Q) (kf : ((0 : Int32) = 0) → zW G d M_Pt_take 43 [o0, o1, o2, o3, some (.int (0 : Int32))] st H Q) : zW G d M_Pt_take 35 [o0, o1, o2, o3, o4] st H Q :=
  zw_iconst (0 : Int32) dPt_take_35 zki_0 <| zw_istore (i := 4) dPt_take_36 (Nat.le_of_ble_eq_true rfl) <| zw_iload (i := 4) dPt_take_38 rfl <| zw_if_ne 53 dPt_take_40 (by decide) kt kf
theorem sPt_take_36 {G : zG} {d : Nat} {Q : Option Value → Heap → Prop} {H : Heap} {st : List Value} {o0 : Option Value} {o1 : Option Value} {o2 : Option Value} {o3 : Option Value} {o4 : Option Value} {xs0 : Int32} (kt : (¬ xs0 = 0) → zW G d M_Pt_take 53 [o0, o1, o2, o3, some (.int xs0)] st H Q) (kf : (xs0 = 0) → zW G d M_Pt_take 43 [o0, o1, o2, o3, some (.int xs0)] st H Q) : zW G d M_Pt_take 36 [o0, o1, o2, o3, o4] ((.int xs0) :: st) H Q :=
  zw_istore (i := 4) dPt_take_36 (Nat.le_of_ble_eq_true rfl) <| zw_iload (i := 4) dPt_take_38 rfl <| zw_if_ne 53 dPt_take_40 (by decide) kt kf
theorem sPt_take_43 {G : zG} {d : Nat} {Q : Option Value → Heap → Prop} {H : Heap} {st : List Value} {o0 : Option Value} {o2 : Option Value} {o4 : Option Value} {a1 : Nat} {x3 : Int32} {P : Int32 → Heap → Prop} (hd : 1 ≤ d) (hl : st.length ≤ 4) (ho : zIs G H a1 8) (hc : zC G (d - 1) M_St_charAt [(.ref a1), (.int x3)] H (zPi P)) (kk : ∀ (r : Int32) (H1 : Heap), P r H1 → zOk G H1 → H.size ≤ H1.size → zT H ≤ zT H1 → zW G d M_Pt_take 48 [o0, some (.ref a1), o2, some (.int x3), o4] ((.int r) :: st) H1 Q) : zW G d M_Pt_take 43 [o0, some (.ref a1), o2, some (.int x3), o4] st H Q :=
  zw_aload_n (i := 1) dPt_take_43 rfl rfl zRf_ref <| zw_iload_n (i := 3) dPt_take_44 rfl rfl <| zw_callV [(.int x3)] _ dPt_take_45 hd zk_Pt_50 ho rfl rfl hl hc (zPi_k kk)
theorem sPt_take_48 {G : zG} {d : Nat} {Q : Option Value → Heap → Prop} {H : Heap} {st : List Value} {o0 : Option Value} {o1 : Option Value} {o2 : Option Value} {o3 : Option Value} {o4 : Option Value} {xs0 : Int32} (kt : (¬ xs0 = (47 : Int32)) → zW G d M_Pt_take 74 [o0, o1, o2, o3, o4] st H Q) (kf : (xs0 = (47 : Int32)) → zW G d M_Pt_take 53 [o0, o1, o2, o3, o4] st H Q) : zW G d M_Pt_take 48 [o0, o1, o2, o3, o4] ((.int xs0) :: st) H Q :=
  zw_bipush (47 : Int32) dPt_take_48 zkb_47 <| zw_icmp_ne 74 dPt_take_50 (by decide) kt kf
theorem sPt_take_53 {G : zG} {d : Nat} {Q : Option Value → Heap → Prop} {H : Heap} {st : List Value} {o4 : Option Value} {v0 : Value} {a1 : Nat} {x2 : Int32} {x3 : Int32} {P : Value → Heap → Prop} (hr0 : zRf v0 := by first | exact zRf_ref | exact zRf_null | exact zRf_rf _ | assumption) (hd : 1 ≤ d) (hl : (v0 :: st).length ≤ 4) (ho : zIs G H a1 8) (hc : zC G (d - 1) M_St_substring_0 [(.ref a1), (.int x2), (.int x3)] H (zPr P)) (kk : ∀ (r : Value) (H1 : Heap), zRf r → P r H1 → zOk G H1 → H.size ≤ H1.size → zT H ≤ zT H1 → zW G d M_Pt_take 60 [some v0, some (.ref a1), some (.int x2), some (.int x3), o4] (r :: v0 :: st) H1 Q) : zW G d M_Pt_take 53 [some v0, some (.ref a1), some (.int x2), some (.int x3), o4] st H Q :=
  zw_aload_n (i := 0) dPt_take_53 rfl rfl hr0 <| zw_aload_n (i := 1) dPt_take_54 rfl rfl zRf_ref <| zw_iload_n (i := 2) dPt_take_55 rfl rfl <| zw_iload_n (i := 3) dPt_take_56 rfl rfl <| zw_callV [(.int x2), (.int x3)] _ dPt_take_57 hd zk_Pt_54 ho rfl rfl hl hc (zPr_k kk)
theorem sPt_take_60 {G : zG} {d : Nat} {Q : Option Value → Heap → Prop} {H : Heap} {st : List Value} {o0 : Option Value} {o1 : Option Value} {o2 : Option Value} {o3 : Option Value} {x4 : Int32} {vs0 : Value} {as1 : Nat} {P : Int32 → Heap → Prop} (hrs0 : zRf vs0 := by first | exact zRf_ref | exact zRf_null | exact zRf_rf _ | assumption) (hd : 1 ≤ d) (hl : st.length ≤ 4) (ho : zIs G H as1 9) (hc : zC G (d - 1) M_Pt_takeOne [(.ref as1), vs0, (.int x4)] H (zPi P)) (kk : ∀ (r : Int32) (H1 : Heap), P r H1 → zOk G H1 → H.size ≤ H1.size → zT H ≤ zT H1 → zW G d M_Pt_take 65 [o0, o1, o2, o3, some (.int x4)] ((.int r) :: st) H1 Q) : zW G d M_Pt_take 60 [o0, o1, o2, o3, some (.int x4)] (vs0 :: (.ref as1) :: st) H Q :=
  zw_iload (i := 4) dPt_take_60 rfl <| zw_callV [vs0, (.int x4)] _ dPt_take_62 hd zk_Pt_58 ho rfl rfl hl hc (zPi_k kk)
theorem sPt_take_65 {G : zG} {d : Nat} {Q : Option Value → Heap → Prop} {H : Heap} {st : List Value} {o0 : Option Value} {o1 : Option Value} {o2 : Option Value} {o3 : Option Value} {o4 : Option Value} {xs0 : Int32} (kt : (¬ xs0 = 0) → zW G d M_Pt_take 70 [o0, o1, o2, o3, o4] st H Q) (kf : (xs0 = 0) → zW G d M_Pt_take 68 [o0, o1, o2, o3, o4] st H Q) : zW G d M_Pt_take 65 [o0, o1, o2, o3, o4] ((.int xs0) :: st) H Q :=
  zw_if_ne 70 dPt_take_65 (by decide) kt kf
theorem sPt_take_68 {G : zG} {d : Nat} {Q : Option Value → Heap → Prop} {H : Heap} {o0 : Option Value} {o1 : Option Value} {o2 : Option Value} {o3 : Option Value} {o4 : Option Value} (hn : narrow .boolean (.int (0 : Int32)) = .int (0 : Int32)) (hq : Q (some (.int (0 : Int32))) H) : zW G d M_Pt_take 68 [o0, o1, o2, o3, o4] [] H Q :=
  zw_iconst (0 : Int32) dPt_take_68 zki_0 <| zw_iret dPt_take_69 .boolean rfl hn hq
theorem sPt_take_70 {G : zG} {d : Nat} {Q : Option Value → Heap → Prop} {H : Heap} {st : List Value} {o0 : Option Value} {o1 : Option Value} {o2 : Option Value} {o4 : Option Value} {x3 : Int32} (kk : zW G d M_Pt_take 15 [o0, o1, some (.int (x3 + (1 : Int32))), some (.int (x3 + (1 : Int32))), o4] st H Q) : zW G d M_Pt_take 70 [o0, o1, o2, some (.int x3), o4] st H Q :=
  zw_iload_n (i := 3) dPt_take_70 rfl rfl <| zw_iconst (1 : Int32) dPt_take_71 zki_1 <| zw_iadd dPt_take_72 <| zw_istore_n (i := 2) dPt_take_73 rfl (Nat.le_of_ble_eq_true rfl) <| zw_iinc (i := 3) (x3 + (1 : Int32)) dPt_take_74 rfl (by rw [zki_1]) <| zw_goto 15 dPt_take_77 (by decide) <| kk
theorem sPt_take_74 {G : zG} {d : Nat} {Q : Option Value → Heap → Prop} {H : Heap} {st : List Value} {o0 : Option Value} {o1 : Option Value} {o2 : Option Value} {o4 : Option Value} {x3 : Int32} (kk : zW G d M_Pt_take 15 [o0, o1, o2, some (.int (x3 + (1 : Int32))), o4] st H Q) : zW G d M_Pt_take 74 [o0, o1, o2, some (.int x3), o4] st H Q :=
  zw_iinc (i := 3) (x3 + (1 : Int32)) dPt_take_74 rfl (by rw [zki_1]) <| zw_goto 15 dPt_take_77 (by decide) <| kk
theorem sPt_take_80 {G : zG} {d : Nat} {Q : Option Value → Heap → Prop} {H : Heap} {st : List Value} {o1 : Option Value} {o2 : Option Value} {o3 : Option Value} {o4 : Option Value} {a0 : Nat} {xf1 : Int32} (hf1 : zFd G H a0 9 1 (.int xf1)) (kt : ((6 : Int32) < xf1) → zW G d M_Pt_take 93 [some (.ref a0), o1, o2, o3, o4] st H Q) (kf : (¬ (6 : Int32) < xf1) → zW G d M_Pt_take 89 [some (.ref a0), o1, o2, o3, o4] st H Q) : zW G d M_Pt_take 80 [some (.ref a0), o1, o2, o3, o4] st H Q :=
  zw_aload_n (i := 0) dPt_take_80 rfl rfl zRf_ref <| zw_getf dPt_take_81 zf_Pt_16 hf1 <| zw_bipush (6 : Int32) dPt_take_84 zkb_6 <| zw_icmp_gt 93 dPt_take_86 (by decide) kt kf
theorem sPt_take_89 {G : zG} {d : Nat} {Q : Option Value → Heap → Prop} {H : Heap} {o0 : Option Value} {o1 : Option Value} {o2 : Option Value} {o3 : Option Value} {o4 : Option Value} (hn : narrow .boolean (.int (1 : Int32)) = .int (1 : Int32)) (hq : Q (some (.int (1 : Int32))) H) : zW G d M_Pt_take 89 [o0, o1, o2, o3, o4] [] H Q :=
  zw_iconst (1 : Int32) dPt_take_89 zki_1 <| zw_goto 94 dPt_take_90 (by decide) <| zw_iret dPt_take_94 .boolean rfl hn hq
theorem sPt_take_93 {G : zG} {d : Nat} {Q : Option Value → Heap → Prop} {H : Heap} {o0 : Option Value} {o1 : Option Value} {o2 : Option Value} {o3 : Option Value} {o4 : Option Value} (hn : narrow .boolean (.int (0 : Int32)) = .int (0 : Int32)) (hq : Q (some (.int (0 : Int32))) H) : zW G d M_Pt_take 93 [o0, o1, o2, o3, o4] [] H Q :=
  zw_iconst (0 : Int32) dPt_take_93 zki_0 <| zw_iret dPt_take_94 .boolean rfl hn hq
theorem sPt_take_94 {G : zG} {d : Nat} {Q : Option Value → Heap → Prop} {H : Heap} {o0 : Option Value} {o1 : Option Value} {o2 : Option Value} {o3 : Option Value} {o4 : Option Value} {xs0 : Int32} (hn : narrow .boolean (.int xs0) = .int xs0) (hq : Q (some (.int xs0)) H) : zW G d M_Pt_take 94 [o0, o1, o2, o3, o4] ((.int xs0) :: []) H Q :=
  zw_iret dPt_take_94 .boolean rfl hn hq
theorem sPt_takeOne_0 {G : zG} {d : Nat} {Q : Option Value → Heap → Prop} {H : Heap} {st : List Value} {o0 : Option Value} {o2 : Option Value} {o3 : Option Value} {a1 : Nat} {P : Int32 → Heap → Prop} (hd : 1 ≤ d) (hl : st.length ≤ 4) (ho : zIs G H a1 8) (hc : zC G (d - 1) M_St_length [(.ref a1)] H (zPi P)) (kk : ∀ (r : Int32) (H1 : Heap), P r H1 → zOk G H1 → H.size ≤ H1.size → zT H ≤ zT H1 → zW G d M_Pt_takeOne 4 [o0, some (.ref a1), o2, o3] ((.int r) :: st) H1 Q) : zW G d M_Pt_takeOne 0 [o0, some (.ref a1), o2, o3] st H Q :=
  zw_aload_n (i := 1) dPt_takeOne_0 rfl rfl zRf_ref <| zw_callV [] _ dPt_takeOne_1 hd zk_Pt_45 ho rfl rfl hl hc (zPi_k kk)
theorem sPt_takeOne_4 {G : zG} {d : Nat} {Q : Option Value → Heap → Prop} {H : Heap} {st : List Value} {o0 : Option Value} {o1 : Option Value} {o2 : Option Value} {o3 : Option Value} {xs0 : Int32} (kt : (xs0 ≤ (12 : Int32)) → zW G d M_Pt_takeOne 11 [o0, o1, o2, o3] st H Q) (kf : (¬ xs0 ≤ (12 : Int32)) → zW G d M_Pt_takeOne 9 [o0, o1, o2, o3] st H Q) : zW G d M_Pt_takeOne 4 [o0, o1, o2, o3] ((.int xs0) :: st) H Q :=
  zw_bipush (12 : Int32) dPt_takeOne_4 zkb_12 <| zw_icmp_le 11 dPt_takeOne_6 (by decide) kt kf
theorem sPt_takeOne_9 {G : zG} {d : Nat} {Q : Option Value → Heap → Prop} {H : Heap} {o0 : Option Value} {o1 : Option Value} {o2 : Option Value} {o3 : Option Value} (hn : narrow .boolean (.int (0 : Int32)) = .int (0 : Int32)) (hq : Q (some (.int (0 : Int32))) H) : zW G d M_Pt_takeOne 9 [o0, o1, o2, o3] [] H Q :=
  zw_iconst (0 : Int32) dPt_takeOne_9 zki_0 <| zw_iret dPt_takeOne_10 .boolean rfl hn hq
theorem sPt_takeOne_11 {G : zG} {d : Nat} {Q : Option Value → Heap → Prop} {H : Heap} {st : List Value} {o0 : Option Value} {o2 : Option Value} {o3 : Option Value} {a1 : Nat} {ak1 : Nat} {P : Int32 → Heap → Prop} (hk1 : vk_R "NetDesk$Path" 62 ".." ak1 (zS G)) (hd : 1 ≤ d) (hl : st.length ≤ 4) (ho : zIs G H a1 8) (hc : zC G (d - 1) M_St_equals [(.ref a1), (.ref ak1)] H (zPi P)) (kk : ∀ (r : Int32) (H1 : Heap), P r H1 → zOk G H1 → H.size ≤ H1.size → zT H ≤ zT H1 → zW G d M_Pt_takeOne 17 [o0, some (.ref a1), o2, o3] ((.int r) :: st) H1 Q) : zW G d M_Pt_takeOne 11 [o0, some (.ref a1), o2, o3] st H Q :=
  zw_aload_n (i := 1) dPt_takeOne_11 rfl rfl zRf_ref <| zw_ldcS dPt_takeOne_12 rfl hk1 <| zw_callV [(.ref ak1)] _ dPt_takeOne_14 hd zk_Pt_64 ho rfl rfl hl hc (zPi_k kk)
theorem sPt_takeOne_17 {G : zG} {d : Nat} {Q : Option Value → Heap → Prop} {H : Heap} {st : List Value} {o0 : Option Value} {o1 : Option Value} {o2 : Option Value} {o3 : Option Value} {xs0 : Int32} (kt : (xs0 = 0) → zW G d M_Pt_takeOne 26 [o0, o1, o2, some (.int xs0)] st H Q) (kf : (¬ xs0 = 0) → zW G d M_Pt_takeOne 22 [o0, o1, o2, some (.int xs0)] st H Q) : zW G d M_Pt_takeOne 17 [o0, o1, o2, o3] ((.int xs0) :: st) H Q :=
  zw_istore_n (i := 3) dPt_takeOne_17 rfl (Nat.le_of_ble_eq_true rfl) <| zw_iload_n (i := 3) dPt_takeOne_18 rfl rfl <| zw_if_eq 26 dPt_takeOne_19 (by decide) kt kf
theorem sPt_takeOne_22 {G : zG} {d : Nat} {Q : Option Value → Heap → Prop} {H : Heap} {st : List Value} {o1 : Option Value} {o2 : Option Value} {o3 : Option Value} {a0 : Nat} {P : Heap → Prop} (hd : 1 ≤ d) (hl : st.length ≤ 4) (ho : zIs G H a0 9) (hc : zC G (d - 1) M_Pt_pop [(.ref a0)] H (zPv P)) (kk : ∀ H1 : Heap, P H1 → zOk G H1 → H.size ≤ H1.size → zT H ≤ zT H1 → zW G d M_Pt_takeOne 26 [some (.ref a0), o1, o2, o3] st H1 Q) : zW G d M_Pt_takeOne 22 [some (.ref a0), o1, o2, o3] st H Q :=
  zw_aload_n (i := 0) dPt_takeOne_22 rfl rfl zRf_ref <| zw_callV [] _ dPt_takeOne_23 hd zk_Pt_34 ho rfl rfl hl hc (zPv_k kk)
theorem sPt_takeOne_26 {G : zG} {d : Nat} {Q : Option Value → Heap → Prop} {H : Heap} {st : List Value} {o0 : Option Value} {o1 : Option Value} {o2 : Option Value} {x3 : Int32} (kt : (¬ x3 = 0) → zW G d M_Pt_takeOne 47 [o0, o1, o2, some (.int x3)] st H Q) (kf : (x3 = 0) → zW G d M_Pt_takeOne 30 [o0, o1, o2, some (.int x3)] st H Q) : zW G d M_Pt_takeOne 26 [o0, o1, o2, some (.int x3)] st H Q :=
  zw_iload_n (i := 3) dPt_takeOne_26 rfl rfl <| zw_if_ne 47 dPt_takeOne_27 (by decide) kt kf
theorem sPt_takeOne_30 {G : zG} {d : Nat} {Q : Option Value → Heap → Prop} {H : Heap} {st : List Value} {o0 : Option Value} {o2 : Option Value} {o3 : Option Value} {a1 : Nat} {ak1 : Nat} {P : Int32 → Heap → Prop} (hk1 : vk_R "NetDesk$Path" 68 "." ak1 (zS G)) (hd : 1 ≤ d) (hl : st.length ≤ 4) (ho : zIs G H a1 8) (hc : zC G (d - 1) M_St_equals [(.ref a1), (.ref ak1)] H (zPi P)) (kk : ∀ (r : Int32) (H1 : Heap), P r H1 → zOk G H1 → H.size ≤ H1.size → zT H ≤ zT H1 → zW G d M_Pt_takeOne 36 [o0, some (.ref a1), o2, o3] ((.int r) :: st) H1 Q) : zW G d M_Pt_takeOne 30 [o0, some (.ref a1), o2, o3] st H Q :=
  zw_aload_n (i := 1) dPt_takeOne_30 rfl rfl zRf_ref <| zw_ldcS dPt_takeOne_31 rfl hk1 <| zw_callV [(.ref ak1)] _ dPt_takeOne_33 hd zk_Pt_64 ho rfl rfl hl hc (zPi_k kk)
theorem sPt_takeOne_36 {G : zG} {d : Nat} {Q : Option Value → Heap → Prop} {H : Heap} {st : List Value} {o0 : Option Value} {o1 : Option Value} {o2 : Option Value} {o3 : Option Value} {xs0 : Int32} (kt : (¬ xs0 = 0) → zW G d M_Pt_takeOne 47 [o0, o1, o2, o3] st H Q) (kf : (xs0 = 0) → zW G d M_Pt_takeOne 39 [o0, o1, o2, o3] st H Q) : zW G d M_Pt_takeOne 36 [o0, o1, o2, o3] ((.int xs0) :: st) H Q :=
  zw_if_ne 47 dPt_takeOne_36 (by decide) kt kf
theorem sPt_takeOne_39 {G : zG} {d : Nat} {Q : Option Value → Heap → Prop} {H : Heap} {st : List Value} {o2 : Option Value} {o3 : Option Value} {a0 : Nat} {v1 : Value} {P : Heap → Prop} (hr1 : zRf v1 := by first | exact zRf_ref | exact zRf_null | exact zRf_rf _ | assumption) (hd : 1 ≤ d) (hl : st.length ≤ 4) (ho : zIs G H a0 9) (hc : zC G (d - 1) M_Pt_push [(.ref a0), v1] H (zPv P)) (kk : ∀ H1 : Heap, P H1 → zOk G H1 → H.size ≤ H1.size → zT H ≤ zT H1 → zW G d M_Pt_takeOne 44 [some (.ref a0), some v1, o2, o3] st H1 Q) : zW G d M_Pt_takeOne 39 [some (.ref a0), some v1, o2, o3] st H Q :=
  zw_aload_n (i := 0) dPt_takeOne_39 rfl rfl zRf_ref <| zw_aload_n (i := 1) dPt_takeOne_40 rfl rfl hr1 <| zw_callV [v1] _ dPt_takeOne_41 hd zk_Pt_70 ho rfl rfl hl hc (zPv_k kk)
theorem sPt_takeOne_44 {G : zG} {d : Nat} {Q : Option Value → Heap → Prop} {H : Heap} {o0 : Option Value} {o1 : Option Value} {o2 : Option Value} {o3 : Option Value} (hn : narrow .boolean (.int (1 : Int32)) = .int (1 : Int32)) (hq : Q (some (.int (1 : Int32))) H) : zW G d M_Pt_takeOne 44 [o0, o1, o2, o3] [] H Q :=
  zw_goto 57 dPt_takeOne_44 (by decide) <| zw_iconst (1 : Int32) dPt_takeOne_57 zki_1 <| zw_iret dPt_takeOne_58 .boolean rfl hn hq
theorem sPt_takeOne_47 {G : zG} {d : Nat} {Q : Option Value → Heap → Prop} {H : Heap} {st : List Value} {o0 : Option Value} {o1 : Option Value} {o3 : Option Value} {x2 : Int32} (kt : (x2 = 0) → zW G d M_Pt_takeOne 57 [o0, o1, some (.int x2), o3] st H Q) (kf : (¬ x2 = 0) → zW G d M_Pt_takeOne 51 [o0, o1, some (.int x2), o3] st H Q) : zW G d M_Pt_takeOne 47 [o0, o1, some (.int x2), o3] st H Q :=
  zw_iload_n (i := 2) dPt_takeOne_47 rfl rfl <| zw_if_eq 57 dPt_takeOne_48 (by decide) kt kf
theorem sPt_takeOne_51 {G : zG} {d : Nat} {Q : Option Value → Heap → Prop} {H : Heap} {st : List Value} {o1 : Option Value} {o2 : Option Value} {o3 : Option Value} {a0 : Nat} {ak1 : Nat} {P : Heap → Prop} (hk1 : vk_R "NetDesk$Path" 74 "" ak1 (zS G)) (hd : 1 ≤ d) (hl : st.length ≤ 4) (ho : zIs G H a0 9) (hc : zC G (d - 1) M_Pt_push [(.ref a0), (.ref ak1)] H (zPv P)) (kk : ∀ H1 : Heap, P H1 → zOk G H1 → H.size ≤ H1.size → zT H ≤ zT H1 → zW G d M_Pt_takeOne 57 [some (.ref a0), o1, o2, o3] st H1 Q) : zW G d M_Pt_takeOne 51 [some (.ref a0), o1, o2, o3] st H Q :=
  zw_aload_n (i := 0) dPt_takeOne_51 rfl rfl zRf_ref <| zw_ldcS dPt_takeOne_52 rfl hk1 <| zw_callV [(.ref ak1)] _ dPt_takeOne_54 hd zk_Pt_70 ho rfl rfl hl hc (zPv_k kk)
theorem sPt_takeOne_57 {G : zG} {d : Nat} {Q : Option Value → Heap → Prop} {H : Heap} {o0 : Option Value} {o1 : Option Value} {o2 : Option Value} {o3 : Option Value} (hn : narrow .boolean (.int (1 : Int32)) = .int (1 : Int32)) (hq : Q (some (.int (1 : Int32))) H) : zW G d M_Pt_takeOne 57 [o0, o1, o2, o3] [] H Q :=
  zw_iconst (1 : Int32) dPt_takeOne_57 zki_1 <| zw_iret dPt_takeOne_58 .boolean rfl hn hq
theorem sPt_push_0 {G : zG} {d : Nat} {Q : Option Value → Heap → Prop} {H : Heap} {st : List Value} {o1 : Option Value} {a0 : Nat} {af1 : Nat} {P : Value → Heap → Prop} (hf1 : zFd G H a0 9 0 (.ref af1)) (hd : 1 ≤ d) (hl : st.length ≤ 4) (ho : zIs G H af1 1) (hc : zC G (d - 1) M_Sb_append_0 [(.ref af1), (.int (47 : Int32))] H (zPr P)) (kk : ∀ (r : Value) (H1 : Heap), zRf r → P r H1 → zOk G H1 → H.size ≤ H1.size → zT H ≤ zT H1 → zW G d M_Pt_push 9 [some (.ref a0), o1] (r :: st) H1 Q) : zW G d M_Pt_push 0 [some (.ref a0), o1] st H Q :=
  zw_aload_n (i := 0) dPt_push_0 rfl rfl zRf_ref <| zw_getf dPt_push_1 zf_Pt_10 hf1 <| zw_bipush (47 : Int32) dPt_push_4 zkb_47 <| zw_callV [(.int (47 : Int32))] _ dPt_push_6 hd zk_Pt_76 ho rfl rfl hl hc (zPr_k kk)
theorem sPt_push_9 {G : zG} {d : Nat} {Q : Option Value → Heap → Prop} {H : Heap} {st : List Value} {ws0 : Value} {a0 : Nat} {af1 : Nat} {v1 : Value} {P : Value → Heap → Prop} (hcs0 : ws0.category = 1 := by first | rfl | exact zRf.cat (by assumption)) (hr1 : zRf v1 := by first | exact zRf_ref | exact zRf_null | exact zRf_rf _ | assumption) (hf1 : zFd G H a0 9 0 (.ref af1)) (hd : 1 ≤ d) (hl : st.length ≤ 4) (ho : zIs G H af1 1) (hc : zC G (d - 1) M_Sb_append_1 [(.ref af1), v1] H (zPr P)) (kk : ∀ (r : Value) (H1 : Heap), zRf r → P r H1 → zOk G H1 → H.size ≤ H1.size → zT H ≤ zT H1 → zW G d M_Pt_push 18 [some (.ref a0), some v1] (r :: st) H1 Q) : zW G d M_Pt_push 9 [some (.ref a0), some v1] (ws0 :: st) H Q :=
  zw_pop dPt_push_9 hcs0 <| zw_aload_n (i := 0) dPt_push_10 rfl rfl zRf_ref <| zw_getf dPt_push_11 zf_Pt_10 hf1 <| zw_aload_n (i := 1) dPt_push_14 rfl rfl hr1 <| zw_callV [v1] _ dPt_push_15 hd zk_Pt_26 ho rfl rfl hl hc (zPr_k kk)
theorem sPt_push_18 {G : zG} {d : Nat} {Q : Option Value → Heap → Prop} {H : Heap} {st : List Value} {o1 : Option Value} {ws0 : Value} {a0 : Nat} {xf1 : Int32} {b0 : Value} {b1 : Value} (hcs0 : ws0.category = 1 := by first | rfl | exact zRf.cat (by assumption)) (hf1 : zFd G H a0 9 1 (.int xf1)) (ho : zObj G H a0 9 [b0, b1]) (hw : zFr G a0) (kk : ∀ H1 : Heap, zObj G H1 a0 9 [b0, (.int (xf1 + (1 : Int32)))] → zUp a0 H H1 → zW G d M_Pt_push 29 [some (.ref a0), o1] st H1 Q) : zW G d M_Pt_push 18 [some (.ref a0), o1] (ws0 :: st) H Q :=
  zw_pop dPt_push_18 hcs0 <| zw_aload_n (i := 0) dPt_push_19 rfl rfl zRf_ref <| zw_dup dPt_push_20 rfl <| zw_getf dPt_push_21 zf_Pt_16 hf1 <| zw_iconst (1 : Int32) dPt_push_24 zki_1 <| zw_iadd dPt_push_25 <| zw_putf (k := 1) dPt_push_26 zp_Pt_push_16 ho (Nat.le_of_ble_eq_true rfl) (Nat.le_of_ble_eq_true rfl) hw rfl rfl kk
theorem sPt_push_29 {G : zG} {d : Nat} {Q : Option Value → Heap → Prop} {H : Heap} {o0 : Option Value} {o1 : Option Value} (hq : Q none H) : zW G d M_Pt_push 29 [o0, o1] [] H Q :=
  zw_vret dPt_push_29 rfl hq
theorem sAd_appendTo_0 {G : zG} {d : Nat} {Q : Option Value → Heap → Prop} {H : Heap} {st : List Value} {o0 : Option Value} {a1 : Nat} {ak1 : Nat} {P : Value → Heap → Prop} (hk1 : vk_R "NetDesk$Address" 60 "//" ak1 (zS G)) (hd : 1 ≤ d) (hl : st.length ≤ 4) (ho : zIs G H a1 1) (hc : zC G (d - 1) M_Sb_append_1 [(.ref a1), (.ref ak1)] H (zPr P)) (kk : ∀ (r : Value) (H1 : Heap), zRf r → P r H1 → zOk G H1 → H.size ≤ H1.size → zT H ≤ zT H1 → zW G d M_Ad_appendTo 6 [o0, some (.ref a1)] (r :: st) H1 Q) : zW G d M_Ad_appendTo 0 [o0, some (.ref a1)] st H Q :=
  zw_aload_n (i := 1) dAd_appendTo_0 rfl rfl zRf_ref <| zw_ldcS dAd_appendTo_1 rfl hk1 <| zw_callV [(.ref ak1)] _ dAd_appendTo_3 hd zk_Ad_99 ho rfl rfl hl hc (zPr_k kk)
theorem sAd_appendTo_6 {G : zG} {d : Nat} {Q : Option Value → Heap → Prop} {H : Heap} {st : List Value} {ws0 : Value} {a1 : Nat} {a0 : Nat} {vf1 : Value} {P : Value → Heap → Prop} (hcs0 : ws0.category = 1 := by first | rfl | exact zRf.cat (by assumption)) (hrf1 : zRf vf1 := by first | exact zRf_ref | exact zRf_null | exact zRf_rf _ | assumption) (hf1 : zFd G H a0 2 0 vf1) (hd : 1 ≤ d) (hl : st.length ≤ 4) (ho : zIs G H a1 1) (hc : zC G (d - 1) M_Sb_append_1 [(.ref a1), vf1] H (zPr P)) (kk : ∀ (r : Value) (H1 : Heap), zRf r → P r H1 → zOk G H1 → H.size ≤ H1.size → zT H ≤ zT H1 → zW G d M_Ad_appendTo 15 [some (.ref a0), some (.ref a1)] (r :: st) H1 Q) : zW G d M_Ad_appendTo 6 [some (.ref a0), some (.ref a1)] (ws0 :: st) H Q :=
  zw_pop dAd_appendTo_6 hcs0 <| zw_aload_n (i := 1) dAd_appendTo_7 rfl rfl zRf_ref <| zw_aload_n (i := 0) dAd_appendTo_8 rfl rfl zRf_ref <| zw_getf dAd_appendTo_9 zf_Ad_7 hf1 <| zw_callV [vf1] _ dAd_appendTo_12 hd zk_Ad_99 ho rfl rfl hl hc (zPr_k kk)
theorem sAd_appendTo_15 {G : zG} {d : Nat} {Q : Option Value → Heap → Prop} {H : Heap} {st : List Value} {ws0 : Value} {a1 : Nat} {a0 : Nat} {vf1 : Value} {P : Value → Heap → Prop} (hcs0 : ws0.category = 1 := by first | rfl | exact zRf.cat (by assumption)) (hrf1 : zRf vf1 := by first | exact zRf_ref | exact zRf_null | exact zRf_rf _ | assumption) (hf1 : zFd G H a0 2 1 vf1) (hd : 1 ≤ d) (hl : st.length ≤ 4) (ho : zIs G H a1 1) (hc : zC G (d - 1) M_Sb_append_1 [(.ref a1), vf1] H (zPr P)) (kk : ∀ (r : Value) (H1 : Heap), zRf r → P r H1 → zOk G H1 → H.size ≤ H1.size → zT H ≤ zT H1 → zW G d M_Ad_appendTo 24 [some (.ref a0), some (.ref a1)] (r :: st) H1 Q) : zW G d M_Ad_appendTo 15 [some (.ref a0), some (.ref a1)] (ws0 :: st) H Q :=
  zw_pop dAd_appendTo_15 hcs0 <| zw_aload_n (i := 1) dAd_appendTo_16 rfl rfl zRf_ref <| zw_aload_n (i := 0) dAd_appendTo_17 rfl rfl zRf_ref <| zw_getf dAd_appendTo_18 zf_Ad_13 hf1 <| zw_callV [vf1] _ dAd_appendTo_21 hd zk_Ad_99 ho rfl rfl hl hc (zPr_k kk)
theorem sAd_appendTo_24 {G : zG} {d : Nat} {Q : Option Value → Heap → Prop} {H : Heap} {st : List Value} {ws0 : Value} {a1 : Nat} {a0 : Nat} {vf1 : Value} {P : Value → Heap → Prop} (hcs0 : ws0.category = 1 := by first | rfl | exact zRf.cat (by assumption)) (hrf1 : zRf vf1 := by first | exact zRf_ref | exact zRf_null | exact zRf_rf _ | assumption) (hf1 : zFd G H a0 2 2 vf1) (hd : 1 ≤ d) (hl : st.length ≤ 4) (ho : zIs G H a1 1) (hc : zC G (d - 1) M_Sb_append_1 [(.ref a1), vf1] H (zPr P)) (kk : ∀ (r : Value) (H1 : Heap), zRf r → P r H1 → zOk G H1 → H.size ≤ H1.size → zT H ≤ zT H1 → zW G d M_Ad_appendTo 33 [some (.ref a0), some (.ref a1)] (r :: st) H1 Q) : zW G d M_Ad_appendTo 24 [some (.ref a0), some (.ref a1)] (ws0 :: st) H Q :=
  zw_pop dAd_appendTo_24 hcs0 <| zw_aload_n (i := 1) dAd_appendTo_25 rfl rfl zRf_ref <| zw_aload_n (i := 0) dAd_appendTo_26 rfl rfl zRf_ref <| zw_getf dAd_appendTo_27 zf_Ad_16 hf1 <| zw_callV [vf1] _ dAd_appendTo_30 hd zk_Ad_99 ho rfl rfl hl hc (zPr_k kk)
theorem sAd_appendTo_33 {G : zG} {d : Nat} {Q : Option Value → Heap → Prop} {H : Heap} {o0 : Option Value} {o1 : Option Value} {ws0 : Value} (hcs0 : ws0.category = 1 := by first | rfl | exact zRf.cat (by assumption)) (hq : Q none H) : zW G d M_Ad_appendTo 33 [o0, o1] (ws0 :: []) H Q :=
  zw_pop dAd_appendTo_33 hcs0 <| zw_vret dAd_appendTo_34 rfl hq
theorem sTx_isNumber_0 {G : zG} {d : Nat} {Q : Option Value → Heap → Prop} {H : Heap} {st : List Value} {o1 : Option Value} {a0 : Nat} {P : Int32 → Heap → Prop} (hd : 1 ≤ d) (hl : st.length ≤ 4) (ho : zIs G H a0 8) (hc : zC G (d - 1) M_St_isEmpty [(.ref a0)] H (zPi P)) (kk : ∀ (r : Int32) (H1 : Heap), P r H1 → zOk G H1 → H.size ≤ H1.size → zT H ≤ zT H1 → zW G d M_Tx_isNumber 4 [some (.ref a0), o1] ((.int r) :: st) H1 Q) : zW G d M_Tx_isNumber 0 [some (.ref a0), o1] st H Q :=
  zw_aload_n (i := 0) dTx_isNumber_0 rfl rfl zRf_ref <| zw_callV [] _ dTx_isNumber_1 hd zk_Tx_28 ho rfl rfl hl hc (zPi_k kk)
theorem sTx_isNumber_4 {G : zG} {d : Nat} {Q : Option Value → Heap → Prop} {H : Heap} {st : List Value} {o0 : Option Value} {o1 : Option Value} {xs0 : Int32} (kt : (¬ xs0 = 0) → zW G d M_Tx_isNumber 15 [o0, o1] st H Q) (kf : (xs0 = 0) → zW G d M_Tx_isNumber 7 [o0, o1] st H Q) : zW G d M_Tx_isNumber 4 [o0, o1] ((.int xs0) :: st) H Q :=
  zw_if_ne 15 dTx_isNumber_4 (by decide) kt kf
theorem sTx_isNumber_7 {G : zG} {d : Nat} {Q : Option Value → Heap → Prop} {H : Heap} {st : List Value} {o1 : Option Value} {a0 : Nat} {P : Int32 → Heap → Prop} (hd : 1 ≤ d) (hl : st.length ≤ 4) (ho : zIs G H a0 8) (hc : zC G (d - 1) M_St_length [(.ref a0)] H (zPi P)) (kk : ∀ (r : Int32) (H1 : Heap), P r H1 → zOk G H1 → H.size ≤ H1.size → zT H ≤ zT H1 → zW G d M_Tx_isNumber 11 [some (.ref a0), o1] ((.int r) :: st) H1 Q) : zW G d M_Tx_isNumber 7 [some (.ref a0), o1] st H Q :=
  zw_aload_n (i := 0) dTx_isNumber_7 rfl rfl zRf_ref <| zw_callV [] _ dTx_isNumber_8 hd zk_Tx_9 ho rfl rfl hl hc (zPi_k kk)
theorem sTx_isNumber_11 {G : zG} {d : Nat} {Q : Option Value → Heap → Prop} {H : Heap} {st : List Value} {o0 : Option Value} {o1 : Option Value} {xs0 : Int32} (kt : (xs0 ≤ (4 : Int32)) → zW G d M_Tx_isNumber 17 [o0, o1] st H Q) (kf : (¬ xs0 ≤ (4 : Int32)) → zW G d M_Tx_isNumber 15 [o0, o1] st H Q) : zW G d M_Tx_isNumber 11 [o0, o1] ((.int xs0) :: st) H Q :=
  zw_iconst (4 : Int32) dTx_isNumber_11 zki_4 <| zw_icmp_le 17 dTx_isNumber_12 (by decide) kt kf
theorem sTx_isNumber_15 {G : zG} {d : Nat} {Q : Option Value → Heap → Prop} {H : Heap} {o0 : Option Value} {o1 : Option Value} (hn : narrow .boolean (.int (0 : Int32)) = .int (0 : Int32)) (hq : Q (some (.int (0 : Int32))) H) : zW G d M_Tx_isNumber 15 [o0, o1] [] H Q :=
  zw_iconst (0 : Int32) dTx_isNumber_15 zki_0 <| zw_iret dTx_isNumber_16 .boolean rfl hn hq
theorem sTx_isNumber_17 {G : zG} {d : Nat} {Q : Option Value → Heap → Prop} {H : Heap} {st : List Value} {o0 : Option Value} {o1 : Option Value} (kk : zW G d M_Tx_isNumber 19 [o0, some (.int (0 : Int32))] st H Q) : zW G d M_Tx_isNumber 17 [o0, o1] st H Q :=
  zw_iconst (0 : Int32) dTx_isNumber_17 zki_0 <| zw_istore_n (i := 1) dTx_isNumber_18 rfl (Nat.le_of_ble_eq_true rfl) <| kk
theorem sTx_isNumber_19 {G : zG} {d : Nat} {Q : Option Value → Heap → Prop} {H : Heap} {st : List Value} {x1 : Int32} {a0 : Nat} {P : Int32 → Heap → Prop} (hd : 1 ≤ d) (hl : ((.int x1) :: st).length ≤ 4) (ho : zIs G H a0 8) (hc : zC G (d - 1) M_St_length [(.ref a0)] H (zPi P)) (kk : ∀ (r : Int32) (H1 : Heap), P r H1 → zOk G H1 → H.size ≤ H1.size → zT H ≤ zT H1 → zW G d M_Tx_isNumber 24 [some (.ref a0), some (.int x1)] ((.int r) :: (.int x1) :: st) H1 Q) : zW G d M_Tx_isNumber 19 [some (.ref a0), some (.int x1)] st H Q :=
  zw_iload_n (i := 1) dTx_isNumber_19 rfl rfl <| zw_aload_n (i := 0) dTx_isNumber_20 rfl rfl zRf_ref <| zw_callV [] _ dTx_isNumber_21 hd zk_Tx_9 ho rfl rfl hl hc (zPi_k kk)
theorem sTx_isNumber_24 {G : zG} {d : Nat} {Q : Option Value → Heap → Prop} {H : Heap} {st : List Value} {o0 : Option Value} {o1 : Option Value} {xs0 : Int32} {xs1 : Int32} (kt : (xs0 ≤ xs1) → zW G d M_Tx_isNumber 46 [o0, o1] st H Q) (kf : (¬ xs0 ≤ xs1) → zW G d M_Tx_isNumber 27 [o0, o1] st H Q) : zW G d M_Tx_isNumber 24 [o0, o1] ((.int xs0) :: (.int xs1) :: st) H Q :=
  zw_icmp_ge 46 dTx_isNumber_24 (by decide) kt kf
theorem sTx_isNumber_27 {G : zG} {d : Nat} {Q : Option Value → Heap → Prop} {H : Heap} {st : List Value} {a0 : Nat} {x1 : Int32} {P : Int32 → Heap → Prop} (hd : 1 ≤ d) (hl : st.length ≤ 4) (ho : zIs G H a0 8) (hc : zC G (d - 1) M_St_charAt [(.ref a0), (.int x1)] H (zPi P)) (kk : ∀ (r : Int32) (H1 : Heap), P r H1 → zOk G H1 → H.size ≤ H1.size → zT H ≤ zT H1 → zW G d M_Tx_isNumber 32 [some (.ref a0), some (.int x1)] ((.int r) :: st) H1 Q) : zW G d M_Tx_isNumber 27 [some (.ref a0), some (.int x1)] st H Q :=
  zw_aload_n (i := 0) dTx_isNumber_27 rfl rfl zRf_ref <| zw_iload_n (i := 1) dTx_isNumber_28 rfl rfl <| zw_callV [(.int x1)] _ dTx_isNumber_29 hd zk_Tx_15 ho rfl rfl hl hc (zPi_k kk)
theorem sTx_isNumber_32 {G : zG} {d : Nat} {Q : Option Value → Heap → Prop} {H : Heap} {st : List Value} {o0 : Option Value} {o1 : Option Value} {xs0 : Int32} {P : Int32 → Heap → Prop} (hd : 1 ≤ d) (hl : st.length ≤ 4) (hc : zC G (d - 1) M_Tx_isDigit [(.int xs0)] H (zPi P)) (kk : ∀ (r : Int32) (H1 : Heap), P r H1 → zOk G H1 → H.size ≤ H1.size → zT H ≤ zT H1 → zW G d M_Tx_isNumber 35 [o0, o1] ((.int r) :: st) H1 Q) : zW G d M_Tx_isNumber 32 [o0, o1] ((.int xs0) :: st) H Q :=
  zw_callS [(.int xs0)] _ dTx_isNumber_32 hd zk_Tx_25 rfl rfl hl hc (zPi_k kk)
theorem sTx_isNumber_35 {G : zG} {d : Nat} {Q : Option Value → Heap → Prop} {H : Heap} {st : List Value} {o0 : Option Value} {o1 : Option Value} {xs0 : Int32} (kt : (¬ xs0 = 0) → zW G d M_Tx_isNumber 40 [o0, o1] st H Q) (kf : (xs0 = 0) → zW G d M_Tx_isNumber 38 [o0, o1] st H Q) : zW G d M_Tx_isNumber 35 [o0, o1] ((.int xs0) :: st) H Q :=
  zw_if_ne 40 dTx_isNumber_35 (by decide) kt kf
theorem sTx_isNumber_38 {G : zG} {d : Nat} {Q : Option Value → Heap → Prop} {H : Heap} {o0 : Option Value} {o1 : Option Value} (hn : narrow .boolean (.int (0 : Int32)) = .int (0 : Int32)) (hq : Q (some (.int (0 : Int32))) H) : zW G d M_Tx_isNumber 38 [o0, o1] [] H Q :=
  zw_iconst (0 : Int32) dTx_isNumber_38 zki_0 <| zw_iret dTx_isNumber_39 .boolean rfl hn hq
theorem sTx_isNumber_40 {G : zG} {d : Nat} {Q : Option Value → Heap → Prop} {H : Heap} {st : List Value} {o0 : Option Value} {x1 : Int32} (kk : zW G d M_Tx_isNumber 19 [o0, some (.int (x1 + (1 : Int32)))] st H Q) : zW G d M_Tx_isNumber 40 [o0, some (.int x1)] st H Q :=
  zw_iinc (i := 1) (x1 + (1 : Int32)) dTx_isNumber_40 rfl (by rw [zki_1]) <| zw_goto 19 dTx_isNumber_43 (by decide) <| kk
theorem sTx_isNumber_46 {G : zG} {d : Nat} {Q : Option Value → Heap → Prop} {H : Heap} {o0 : Option Value} {o1 : Option Value} (hn : narrow .boolean (.int (1 : Int32)) = .int (1 : Int32)) (hq : Q (some (.int (1 : Int32))) H) : zW G d M_Tx_isNumber 46 [o0, o1] [] H Q :=
  zw_iconst (1 : Int32) dTx_isNumber_46 zki_1 <| zw_iret dTx_isNumber_47 .boolean rfl hn hq
theorem sTx_number_0 {G : zG} {d : Nat} {Q : Option Value → Heap → Prop} {H : Heap} {st : List Value} {o0 : Option Value} {o1 : Option Value} {o2 : Option Value} (kk : zW G d M_Tx_number 4 [o0, some (.int (0 : Int32)), some (.int (0 : Int32))] st H Q) : zW G d M_Tx_number 0 [o0, o1, o2] st H Q :=
  zw_iconst (0 : Int32) dTx_number_0 zki_0 <| zw_istore_n (i := 1) dTx_number_1 rfl (Nat.le_of_ble_eq_true rfl) <| zw_iconst (0 : Int32) dTx_number_2 zki_0 <| zw_istore_n (i := 2) dTx_number_3 rfl (Nat.le_of_ble_eq_true rfl) <| kk
theorem sTx_number_4 {G : zG} {d : Nat} {Q : Option Value → Heap → Prop} {H : Heap} {st : List Value} {o1 : Option Value} {x2 : Int32} {a0 : Nat} {P : Int32 → Heap → Prop} (hd : 1 ≤ d) (hl : ((.int x2) :: st).length ≤ 4) (ho : zIs G H a0 8) (hc : zC G (d - 1) M_St_length [(.ref a0)] H (zPi P)) (kk : ∀ (r : Int32) (H1 : Heap), P r H1 → zOk G H1 → H.size ≤ H1.size → zT H ≤ zT H1 → zW G d M_Tx_number 9 [some (.ref a0), o1, some (.int x2)] ((.int r) :: (.int x2) :: st) H1 Q) : zW G d M_Tx_number 4 [some (.ref a0), o1, some (.int x2)] st H Q :=
  zw_iload_n (i := 2) dTx_number_4 rfl rfl <| zw_aload_n (i := 0) dTx_number_5 rfl rfl zRf_ref <| zw_callV [] _ dTx_number_6 hd zk_Tx_9 ho rfl rfl hl hc (zPi_k kk)
theorem sTx_number_9 {G : zG} {d : Nat} {Q : Option Value → Heap → Prop} {H : Heap} {st : List Value} {o0 : Option Value} {o1 : Option Value} {o2 : Option Value} {xs0 : Int32} {xs1 : Int32} (kt : (xs0 ≤ xs1) → zW G d M_Tx_number 32 [o0, o1, o2] st H Q) (kf : (¬ xs0 ≤ xs1) → zW G d M_Tx_number 12 [o0, o1, o2] st H Q) : zW G d M_Tx_number 9 [o0, o1, o2] ((.int xs0) :: (.int xs1) :: st) H Q :=
  zw_icmp_ge 32 dTx_number_9 (by decide) kt kf
theorem sTx_number_12 {G : zG} {d : Nat} {Q : Option Value → Heap → Prop} {H : Heap} {st : List Value} {x1 : Int32} {a0 : Nat} {x2 : Int32} {P : Int32 → Heap → Prop} (hd : 1 ≤ d) (hl : ((.int (x1 * (10 : Int32))) :: st).length ≤ 4) (ho : zIs G H a0 8) (hc : zC G (d - 1) M_St_charAt [(.ref a0), (.int x2)] H (zPi P)) (kk : ∀ (r : Int32) (H1 : Heap), P r H1 → zOk G H1 → H.size ≤ H1.size → zT H ≤ zT H1 → zW G d M_Tx_number 21 [some (.ref a0), some (.int x1), some (.int x2)] ((.int r) :: (.int (x1 * (10 : Int32))) :: st) H1 Q) : zW G d M_Tx_number 12 [some (.ref a0), some (.int x1), some (.int x2)] st H Q :=
  zw_iload_n (i := 1) dTx_number_12 rfl rfl <| zw_bipush (10 : Int32) dTx_number_13 zkb_10 <| zw_imul dTx_number_15 <| zw_aload_n (i := 0) dTx_number_16 rfl rfl zRf_ref <| zw_iload_n (i := 2) dTx_number_17 rfl rfl <| zw_callV [(.int x2)] _ dTx_number_18 hd zk_Tx_15 ho rfl rfl hl hc (zPi_k kk)
theorem sTx_number_21 {G : zG} {d : Nat} {Q : Option Value → Heap → Prop} {H : Heap} {st : List Value} {o0 : Option Value} {o1 : Option Value} {xs0 : Int32} {xs1 : Int32} {x2 : Int32} (kk : zW G d M_Tx_number 4 [o0, some (.int (xs1 + (xs0 - (48 : Int32)))), some (.int (x2 + (1 : Int32)))] st H Q) : zW G d M_Tx_number 21 [o0, o1, some (.int x2)] ((.int xs0) :: (.int xs1) :: st) H Q :=
  zw_bipush (48 : Int32) dTx_number_21 zkb_48 <| zw_isub dTx_number_23 <| zw_iadd dTx_number_24 <| zw_istore_n (i := 1) dTx_number_25 rfl (Nat.le_of_ble_eq_true rfl) <| zw_iinc (i := 2) (x2 + (1 : Int32)) dTx_number_26 rfl (by rw [zki_1]) <| zw_goto 4 dTx_number_29 (by decide) <| kk
theorem sTx_number_32 {G : zG} {d : Nat} {Q : Option Value → Heap → Prop} {H : Heap} {o0 : Option Value} {o2 : Option Value} {x1 : Int32} (hq : Q (some (.int x1)) H) : zW G d M_Tx_number 32 [o0, some (.int x1), o2] [] H Q :=
  zw_iload_n (i := 1) dTx_number_32 rfl rfl <| zw_iret dTx_number_33 .int rfl rfl hq
theorem sAd_isSamePlace_0 {G : zG} {d : Nat} {Q : Option Value → Heap → Prop} {H : Heap} {st : List Value} {a0 : Nat} {af1 : Nat} {a1 : Nat} {vf2 : Value} {P : Int32 → Heap → Prop} (hrf2 : zRf vf2 := by first | exact zRf_ref | exact zRf_null | exact zRf_rf _ | assumption) (hf1 : zFd G H a0 2 0 (.ref af1)) (hf2 : zFd G H a1 2 0 vf2) (hd : 1 ≤ d) (hl : st.length ≤ 4) (ho : zIs G H af1 8) (hc : zC G (d - 1) M_St_equals [(.ref af1), vf2] H (zPi P)) (kk : ∀ (r : Int32) (H1 : Heap), P r H1 → zOk G H1 → H.size ≤ H1.size → zT H ≤ zT H1 → zW G d M_Ad_isSamePlace 11 [some (.ref a0), some (.ref a1)] ((.int r) :: st) H1 Q) : zW G d M_Ad_isSamePlace 0 [some (.ref a0), some (.ref a1)] st H Q :=
  zw_aload_n (i := 0) dAd_isSamePlace_0 rfl rfl zRf_ref <| zw_getf dAd_isSamePlace_1 zf_Ad_7 hf1 <| zw_aload_n (i := 1) dAd_isSamePlace_4 rfl rfl zRf_ref <| zw_getf dAd_isSamePlace_5 zf_Ad_7 hf2 <| zw_callV [vf2] _ dAd_isSamePlace_8 hd zk_Ad_91 ho rfl rfl hl hc (zPi_k kk)
theorem sAd_isSamePlace_11 {G : zG} {d : Nat} {Q : Option Value → Heap → Prop} {H : Heap} {st : List Value} {o0 : Option Value} {o1 : Option Value} {xs0 : Int32} (kt : (xs0 = 0) → zW G d M_Ad_isSamePlace 46 [o0, o1] st H Q) (kf : (¬ xs0 = 0) → zW G d M_Ad_isSamePlace 14 [o0, o1] st H Q) : zW G d M_Ad_isSamePlace 11 [o0, o1] ((.int xs0) :: st) H Q :=
  zw_if_eq 46 dAd_isSamePlace_11 (by decide) kt kf
theorem sAd_isSamePlace_14 {G : zG} {d : Nat} {Q : Option Value → Heap → Prop} {H : Heap} {st : List Value} {a0 : Nat} {af1 : Nat} {a1 : Nat} {vf2 : Value} {P : Int32 → Heap → Prop} (hrf2 : zRf vf2 := by first | exact zRf_ref | exact zRf_null | exact zRf_rf _ | assumption) (hf1 : zFd G H a0 2 1 (.ref af1)) (hf2 : zFd G H a1 2 1 vf2) (hd : 1 ≤ d) (hl : st.length ≤ 4) (ho : zIs G H af1 8) (hc : zC G (d - 1) M_St_equals [(.ref af1), vf2] H (zPi P)) (kk : ∀ (r : Int32) (H1 : Heap), P r H1 → zOk G H1 → H.size ≤ H1.size → zT H ≤ zT H1 → zW G d M_Ad_isSamePlace 25 [some (.ref a0), some (.ref a1)] ((.int r) :: st) H1 Q) : zW G d M_Ad_isSamePlace 14 [some (.ref a0), some (.ref a1)] st H Q :=
  zw_aload_n (i := 0) dAd_isSamePlace_14 rfl rfl zRf_ref <| zw_getf dAd_isSamePlace_15 zf_Ad_13 hf1 <| zw_aload_n (i := 1) dAd_isSamePlace_18 rfl rfl zRf_ref <| zw_getf dAd_isSamePlace_19 zf_Ad_13 hf2 <| zw_callV [vf2] _ dAd_isSamePlace_22 hd zk_Ad_91 ho rfl rfl hl hc (zPi_k kk)
theorem sAd_isSamePlace_25 {G : zG} {d : Nat} {Q : Option Value → Heap → Prop} {H : Heap} {st : List Value} {o0 : Option Value} {o1 : Option Value} {xs0 : Int32} (kt : (xs0 = 0) → zW G d M_Ad_isSamePlace 46 [o0, o1] st H Q) (kf : (¬ xs0 = 0) → zW G d M_Ad_isSamePlace 28 [o0, o1] st H Q) : zW G d M_Ad_isSamePlace 25 [o0, o1] ((.int xs0) :: st) H Q :=
  zw_if_eq 46 dAd_isSamePlace_25 (by decide) kt kf
theorem sAd_isSamePlace_28 {G : zG} {d : Nat} {Q : Option Value → Heap → Prop} {H : Heap} {st : List Value} {a0 : Nat} {af1 : Nat} {a1 : Nat} {vf2 : Value} {P : Int32 → Heap → Prop} (hrf2 : zRf vf2 := by first | exact zRf_ref | exact zRf_null | exact zRf_rf _ | assumption) (hf1 : zFd G H a0 2 2 (.ref af1)) (hf2 : zFd G H a1 2 2 vf2) (hd : 1 ≤ d) (hl : st.length ≤ 4) (ho : zIs G H af1 8) (hc : zC G (d - 1) M_St_equals [(.ref af1), vf2] H (zPi P)) (kk : ∀ (r : Int32) (H1 : Heap), P r H1 → zOk G H1 → H.size ≤ H1.size → zT H ≤ zT H1 → zW G d M_Ad_isSamePlace 39 [some (.ref a0), some (.ref a1)] ((.int r) :: st) H1 Q) : zW G d M_Ad_isSamePlace 28 [some (.ref a0), some (.ref a1)] st H Q :=
  zw_aload_n (i := 0) dAd_isSamePlace_28 rfl rfl zRf_ref <| zw_getf dAd_isSamePlace_29 zf_Ad_16 hf1 <| zw_aload_n (i := 1) dAd_isSamePlace_32 rfl rfl zRf_ref <| zw_getf dAd_isSamePlace_33 zf_Ad_16 hf2 <| zw_callV [vf2] _ dAd_isSamePlace_36 hd zk_Ad_91 ho rfl rfl hl hc (zPi_k kk)
theorem sAd_isSamePlace_39 {G : zG} {d : Nat} {Q : Option Value → Heap → Prop} {H : Heap} {st : List Value} {o0 : Option Value} {o1 : Option Value} {xs0 : Int32} (kt : (xs0 = 0) → zW G d M_Ad_isSamePlace 46 [o0, o1] st H Q) (kf : (¬ xs0 = 0) → zW G d M_Ad_isSamePlace 42 [o0, o1] st H Q) : zW G d M_Ad_isSamePlace 39 [o0, o1] ((.int xs0) :: st) H Q :=
  zw_if_eq 46 dAd_isSamePlace_39 (by decide) kt kf
theorem sAd_isSamePlace_42 {G : zG} {d : Nat} {Q : Option Value → Heap → Prop} {H : Heap} {o0 : Option Value} {o1 : Option Value} (hn : narrow .boolean (.int (1 : Int32)) = .int (1 : Int32)) (hq : Q (some (.int (1 : Int32))) H) : zW G d M_Ad_isSamePlace 42 [o0, o1] [] H Q :=
  zw_iconst (1 : Int32) dAd_isSamePlace_42 zki_1 <| zw_goto 47 dAd_isSamePlace_43 (by decide) <| zw_iret dAd_isSamePlace_47 .boolean rfl hn hq
theorem sAd_isSamePlace_46 {G : zG} {d : Nat} {Q : Option Value → Heap → Prop} {H : Heap} {o0 : Option Value} {o1 : Option Value} (hn : narrow .boolean (.int (0 : Int32)) = .int (0 : Int32)) (hq : Q (some (.int (0 : Int32))) H) : zW G d M_Ad_isSamePlace 46 [o0, o1] [] H Q :=
  zw_iconst (0 : Int32) dAd_isSamePlace_46 zki_0 <| zw_iret dAd_isSamePlace_47 .boolean rfl hn hq
theorem sAd_isSamePlace_47 {G : zG} {d : Nat} {Q : Option Value → Heap → Prop} {H : Heap} {o0 : Option Value} {o1 : Option Value} {xs0 : Int32} (hn : narrow .boolean (.int xs0) = .int xs0) (hq : Q (some (.int xs0)) H) : zW G d M_Ad_isSamePlace 47 [o0, o1] ((.int xs0) :: []) H Q :=
  zw_iret dAd_isSamePlace_47 .boolean rfl hn hq


