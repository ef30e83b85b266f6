theorem dSt_checkBoundsOffCount_0 : decode prog_20_method_157_code 0 = .ok (.iload_n 0, 1) := by decide +kernel
theorem dSt_checkBoundsOffCount_1 : decode prog_20_method_157_code 1 = .ok (.iload_n 1, 1) := by decide +kernel
theorem dSt_checkBoundsOffCount_2 : decode prog_20_method_157_code 2 = .ok (.iload_n 2, 1) := by decide +kernel
theorem dSt_checkBoundsOffCount_3 : decode prog_20_method_157_code 3 = .ok (.getstatic 1053, 3) := by decide +kernel
theorem dSt_checkBoundsOffCount_6 : decode prog_20_method_157_code 6 = .ok (.invokestatic 1065, 3) := by decide +kernel
theorem dSt_checkBoundsOffCount_9 : decode prog_20_method_157_code 9 = .ok (.ireturn, 1) := by decide +kernel
theorem dSt_checkIndex_0 : decode prog_20_method_155_code 0 = .ok (.iload_n 0, 1) := by decide +kernel
theorem dSt_checkIndex_1 : decode prog_20_method_155_code 1 = .ok (.iload_n 1, 1) := by decide +kernel
theorem dSt_checkIndex_2 : decode prog_20_method_155_code 2 = .ok (.getstatic 1053, 3) := by decide +kernel
theorem dSt_checkIndex_5 : decode prog_20_method_155_code 5 = .ok (.invokestatic 1059, 3) := by decide +kernel
theorem dSt_checkIndex_8 : decode prog_20_method_155_code 8 = .ok (.pop, 1) := by decide +kernel
theorem dSt_checkIndex_9 : decode prog_20_method_155_code 9 = .ok (.return_, 1) := by decide +kernel
theorem dSt_init_0_0 : decode prog_20_method_53_code 0 = .ok (.aload_n 0, 1) := by decide +kernel
theorem dSt_init_0_1 : decode prog_20_method_53_code 1 = .ok (.aload_n 1, 1) := by decide +kernel
theorem dSt_init_0_2 : decode prog_20_method_53_code 2 = .ok (.aconst_null, 1) := by decide +kernel
theorem dSt_init_0_3 : decode prog_20_method_53_code 3 = .ok (.invokespecial 489, 3) := by decide +kernel
theorem dSt_init_0_6 : decode prog_20_method_53_code 6 = .ok (.return_, 1) := by decide +kernel
theorem dSt_init_1_0 : decode prog_20_method_150_code 0 = .ok (.aload_n 0, 1) := by decide +kernel
theorem dSt_init_1_1 : decode prog_20_method_150_code 1 = .ok (.invokespecial 1, 3) := by decide +kernel
theorem dSt_init_1_4 : decode prog_20_method_150_code 4 = .ok (.aload_n 1, 1) := by decide +kernel
theorem dSt_init_1_5 : decode prog_20_method_150_code 5 = .ok (.invokevirtual 552, 3) := by decide +kernel
theorem dSt_init_1_8 : decode prog_20_method_150_code 8 = .ok (.astore_n 3, 1) := by decide +kernel
theorem dSt_init_1_9 : decode prog_20_method_150_code 9 = .ok (.aload_n 1, 1) := by decide +kernel
theorem dSt_init_1_13 : decode prog_20_method_150_code 13 = .ok (.istore 4, 2) := by decide +kernel
theorem dSt_init_1_15 : decode prog_20_method_150_code 15 = .ok (.aload_n 1, 1) := by decide +kernel
theorem dSt_init_1_16 : decode prog_20_method_150_code 16 = .ok (.invokevirtual 1047, 3) := by decide +kernel
theorem dSt_init_1_19 : decode prog_20_method_150_code 19 = .ok (.ifCond .eq 22, 3) := by decide +kernel
theorem dSt_init_1_22 : decode prog_20_method_150_code 22 = .ok (.aload_n 0, 1) := by decide +kernel
theorem dSt_init_1_23 : decode prog_20_method_150_code 23 = .ok (.iconst 0, 1) := by decide +kernel
theorem dSt_init_1_24 : decode prog_20_method_150_code 24 = .ok (.putfield 15, 3) := by decide +kernel
theorem dSt_init_1_27 : decode prog_20_method_150_code 27 = .ok (.aload_n 0, 1) := by decide +kernel
theorem dSt_init_1_28 : decode prog_20_method_150_code 28 = .ok (.aload_n 3, 1) := by decide +kernel
theorem dSt_init_1_29 : decode prog_20_method_150_code 29 = .ok (.iconst 0, 1) := by decide +kernel
theorem dSt_init_1_30 : decode prog_20_method_150_code 30 = .ok (.iload 4, 2) := by decide +kernel
theorem dSt_init_1_32 : decode prog_20_method_150_code 32 = .ok (.invokestatic 54, 3) := by decide +kernel
theorem dSt_init_1_35 : decode prog_20_method_150_code 35 = .ok (.putfield 9, 3) := by decide +kernel
theorem dSt_init_1_38 : decode prog_20_method_150_code 38 = .ok (.goto 59, 3) := by decide +kernel
theorem dSt_init_1_41 : decode prog_20_method_150_code 41 = .ok (.getstatic 38, 3) := by decide +kernel
theorem dSt_init_1_44 : decode prog_20_method_150_code 44 = .ok (.ifCond .eq 35, 3) := by decide +kernel
theorem dSt_init_1_47 : decode prog_20_method_150_code 47 = .ok (.aload_n 1, 1) := by decide +kernel
theorem dSt_init_1_48 : decode prog_20_method_150_code 48 = .ok (.getfield 1048, 3) := by decide +kernel
theorem dSt_init_1_51 : decode prog_20_method_150_code 51 = .ok (.ifCond .eq 28, 3) := by decide +kernel
theorem dSt_init_1_54 : decode prog_20_method_150_code 54 = .ok (.aload_n 0, 1) := by decide +kernel
theorem dSt_init_1_55 : decode prog_20_method_150_code 55 = .ok (.aload_n 3, 1) := by decide +kernel
theorem dSt_init_1_56 : decode prog_20_method_150_code 56 = .ok (.iconst 0, 1) := by decide +kernel
theorem dSt_init_1_57 : decode prog_20_method_150_code 57 = .ok (.iload 4, 2) := by decide +kernel
theorem dSt_init_1_59 : decode prog_20_method_150_code 59 = .ok (.invokestatic 1051, 3) := by decide +kernel
theorem dSt_init_1_62 : decode prog_20_method_150_code 62 = .ok (.putfield 9, 3) := by decide +kernel
theorem dSt_init_1_65 : decode prog_20_method_150_code 65 = .ok (.aload_n 0, 1) := by decide +kernel
theorem dSt_init_1_66 : decode prog_20_method_150_code 66 = .ok (.aload_n 0, 1) := by decide +kernel
theorem dSt_init_1_67 : decode prog_20_method_150_code 67 = .ok (.getfield 9, 3) := by decide +kernel
theorem dSt_init_1_70 : decode prog_20_method_150_code 70 = .ok (.iload 4, 2) := by decide +kernel
theorem dSt_init_1_72 : decode prog_20_method_150_code 72 = .ok (.invokestatic 47, 3) := by decide +kernel
theorem dSt_init_1_75 : decode prog_20_method_150_code 75 = .ok (.putfield 15, 3) := by decide +kernel
theorem dSt_init_1_78 : decode prog_20_method_150_code 78 = .ok (.return_, 1) := by decide +kernel
theorem dSt_init_1_79 : decode prog_20_method_150_code 79 = .ok (.aload_n 0, 1) := by decide +kernel
theorem dSt_init_1_80 : decode prog_20_method_150_code 80 = .ok (.iconst 1, 1) := by decide +kernel
theorem dSt_init_1_81 : decode prog_20_method_150_code 81 = .ok (.putfield 15, 3) := by decide +kernel
theorem dSt_init_1_84 : decode prog_20_method_150_code 84 = .ok (.aload_n 0, 1) := by decide +kernel
theorem dSt_init_1_85 : decode prog_20_method_150_code 85 = .ok (.aload_n 3, 1) := by decide +kernel
theorem dSt_init_1_86 : decode prog_20_method_150_code 86 = .ok (.iconst 0, 1) := by decide +kernel
theorem dSt_init_1_87 : decode prog_20_method_150_code 87 = .ok (.iload 4, 2) := by decide +kernel
theorem dSt_init_1_89 : decode prog_20_method_150_code 89 = .ok (.iconst 1, 1) := by decide +kernel
theorem dSt_init_1_90 : decode prog_20_method_150_code 90 = .ok (.ishl, 1) := by decide +kernel
theorem dSt_init_1_91 : decode prog_20_method_150_code 91 = .ok (.invokestatic 54, 3) := by decide +kernel
theorem dSt_init_1_94 : decode prog_20_method_150_code 94 = .ok (.putfield 9, 3) := by decide +kernel
theorem dSt_init_1_97 : decode prog_20_method_150_code 97 = .ok (.return_, 1) := by decide +kernel
theorem dSt_length_0 : decode prog_20_method_54_code 0 = .ok (.aload_n 0, 1) := by decide +kernel
theorem dSt_length_1 : decode prog_20_method_54_code 1 = .ok (.getfield 9, 3) := by decide +kernel
theorem dSt_length_4 : decode prog_20_method_54_code 4 = .ok (.arraylength, 1) := by decide +kernel
theorem dSt_length_5 : decode prog_20_method_54_code 5 = .ok (.aload_n 0, 1) := by decide +kernel
theorem dSt_length_6 : decode prog_20_method_54_code 6 = .ok (.invokevirtual 335, 3) := by decide +kernel
theorem dSt_length_9 : decode prog_20_method_54_code 9 = .ok (.ishr, 1) := by decide +kernel
theorem dSt_length_10 : decode prog_20_method_54_code 10 = .ok (.ireturn, 1) := by decide +kernel
theorem dSt_coder_0 : decode prog_20_method_152_code 0 = .ok (.getstatic 38, 3) := by decide +kernel
theorem dSt_coder_3 : decode prog_20_method_152_code 3 = .ok (.ifCond .eq 10, 3) := by decide +kernel
theorem dSt_coder_6 : decode prog_20_method_152_code 6 = .ok (.aload_n 0, 1) := by decide +kernel
theorem dSt_coder_7 : decode prog_20_method_152_code 7 = .ok (.getfield 15, 3) := by decide +kernel
theorem dSt_coder_10 : decode prog_20_method_152_code 10 = .ok (.goto 4, 3) := by decide +kernel
theorem dSt_coder_13 : decode prog_20_method_152_code 13 = .ok (.iconst 1, 1) := by decide +kernel
theorem dSt_coder_14 : decode prog_20_method_152_code 14 = .ok (.ireturn, 1) := by decide +kernel
theorem dSt_charAt_0 : decode prog_20_method_56_code 0 = .ok (.aload_n 0, 1) := by decide +kernel
theorem dSt_charAt_1 : decode prog_20_method_56_code 1 = .ok (.invokevirtual 492, 3) := by decide +kernel
theorem dSt_charAt_4 : decode prog_20_method_56_code 4 = .ok (.ifCond .eq 12, 3) := by decide +kernel
theorem dSt_charAt_7 : decode prog_20_method_56_code 7 = .ok (.aload_n 0, 1) := by decide +kernel
theorem dSt_charAt_8 : decode prog_20_method_56_code 8 = .ok (.getfield 9, 3) := by decide +kernel
theorem dSt_charAt_11 : decode prog_20_method_56_code 11 = .ok (.iload_n 1, 1) := by decide +kernel
theorem dSt_charAt_12 : decode prog_20_method_56_code 12 = .ok (.invokestatic 495, 3) := by decide +kernel
theorem dSt_charAt_15 : decode prog_20_method_56_code 15 = .ok (.ireturn, 1) := by decide +kernel
theorem dSt_charAt_16 : decode prog_20_method_56_code 16 = .ok (.aload_n 0, 1) := by decide +kernel
theorem dSt_charAt_17 : decode prog_20_method_56_code 17 = .ok (.getfield 9, 3) := by decide +kernel
theorem dSt_charAt_20 : decode prog_20_method_56_code 20 = .ok (.iload_n 1, 1) := by decide +kernel
theorem dSt_charAt_21 : decode prog_20_method_56_code 21 = .ok (.invokestatic 498, 3) := by decide +kernel
theorem dSt_charAt_24 : decode prog_20_method_56_code 24 = .ok (.ireturn, 1) := by decide +kernel
theorem dSt_isLatin1_0 : decode prog_20_method_154_code 0 = .ok (.getstatic 38, 3) := by decide +kernel
theorem dSt_isLatin1_3 : decode prog_20_method_154_code 3 = .ok (.ifCond .eq 14, 3) := by decide +kernel
theorem dSt_isLatin1_6 : decode prog_20_method_154_code 6 = .ok (.aload_n 0, 1) := by decide +kernel
theorem dSt_isLatin1_7 : decode prog_20_method_154_code 7 = .ok (.getfield 15, 3) := by decide +kernel
theorem dSt_isLatin1_10 : decode prog_20_method_154_code 10 = .ok (.ifCond .ne 7, 3) := by decide +kernel
theorem dSt_isLatin1_13 : decode prog_20_method_154_code 13 = .ok (.iconst 1, 1) := by decide +kernel
theorem dSt_isLatin1_14 : decode prog_20_method_154_code 14 = .ok (.goto 4, 3) := by decide +kernel
theorem dSt_isLatin1_17 : decode prog_20_method_154_code 17 = .ok (.iconst 0, 1) := by decide +kernel
theorem dSt_isLatin1_18 : decode prog_20_method_154_code 18 = .ok (.ireturn, 1) := by decide +kernel
theorem dSt_indexOf_0_0 : decode prog_20_method_79_code 0 = .ok (.aload_n 0, 1) := by decide +kernel
theorem dSt_indexOf_0_1 : decode prog_20_method_79_code 1 = .ok (.iload_n 1, 1) := by decide +kernel
theorem dSt_indexOf_0_2 : decode prog_20_method_79_code 2 = .ok (.iconst 0, 1) := by decide +kernel
theorem dSt_indexOf_0_3 : decode prog_20_method_79_code 3 = .ok (.invokevirtual 633, 3) := by decide +kernel
theorem dSt_indexOf_0_6 : decode prog_20_method_79_code 6 = .ok (.ireturn, 1) := by decide +kernel
theorem dSt_indexOf_1_0 : decode prog_20_method_80_code 0 = .ok (.aload_n 0, 1) := by decide +kernel
theorem dSt_indexOf_1_1 : decode prog_20_method_80_code 1 = .ok (.invokevirtual 492, 3) := by decide +kernel
theorem dSt_indexOf_1_4 : decode prog_20_method_80_code 4 = .ok (.ifCond .eq 19, 3) := by decide +kernel
theorem dSt_indexOf_1_7 : decode prog_20_method_80_code 7 = .ok (.aload_n 0, 1) := by decide +kernel
theorem dSt_indexOf_1_8 : decode prog_20_method_80_code 8 = .ok (.getfield 9, 3) := by decide +kernel
theorem dSt_indexOf_1_11 : decode prog_20_method_80_code 11 = .ok (.iload_n 1, 1) := by decide +kernel
theorem dSt_indexOf_1_12 : decode prog_20_method_80_code 12 = .ok (.iload_n 2, 1) := by decide +kernel
theorem dSt_indexOf_1_13 : decode prog_20_method_80_code 13 = .ok (.aload_n 0, 1) := by decide +kernel
theorem dSt_indexOf_1_14 : decode prog_20_method_80_code 14 = .ok (.invokevirtual 505, 3) := by decide +kernel
theorem dSt_indexOf_1_17 : decode prog_20_method_80_code 17 = .ok (.invokestatic 637, 3) := by decide +kernel
theorem dSt_indexOf_1_20 : decode prog_20_method_80_code 20 = .ok (.goto 16, 3) := by decide +kernel
theorem dSt_indexOf_1_23 : decode prog_20_method_80_code 23 = .ok (.aload_n 0, 1) := by decide +kernel
theorem dSt_indexOf_1_24 : decode prog_20_method_80_code 24 = .ok (.getfield 9, 3) := by decide +kernel
theorem dSt_indexOf_1_27 : decode prog_20_method_80_code 27 = .ok (.iload_n 1, 1) := by decide +kernel
theorem dSt_indexOf_1_28 : decode prog_20_method_80_code 28 = .ok (.iload_n 2, 1) := by decide +kernel
theorem dSt_indexOf_1_29 : decode prog_20_method_80_code 29 = .ok (.aload_n 0, 1) := by decide +kernel
theorem dSt_indexOf_1_30 : decode prog_20_method_80_code 30 = .ok (.invokevirtual 505, 3) := by decide +kernel
theorem dSt_indexOf_1_33 : decode prog_20_method_80_code 33 = .ok (.invokestatic 640, 3) := by decide +kernel
theorem dSt_indexOf_1_36 : decode prog_20_method_80_code 36 = .ok (.ireturn, 1) := by decide +kernel
theorem dSt_checkBoundsBeginEnd_0 : decode prog_20_method_158_code 0 = .ok (.iload_n 0, 1) := by decide +kernel
theorem dSt_checkBoundsBeginEnd_1 : decode prog_20_method_158_code 1 = .ok (.iload_n 1, 1) := by decide +kernel
theorem dSt_checkBoundsBeginEnd_2 : decode prog_20_method_158_code 2 = .ok (.iload_n 2, 1) := by decide +kernel
theorem dSt_checkBoundsBeginEnd_3 : decode prog_20_method_158_code 3 = .ok (.getstatic 1053, 3) := by decide +kernel
theorem dSt_checkBoundsBeginEnd_6 : decode prog_20_method_158_code 6 = .ok (.invokestatic 1062, 3) := by decide +kernel
theorem dSt_checkBoundsBeginEnd_9 : decode prog_20_method_158_code 9 = .ok (.pop, 1) := by decide +kernel
theorem dSt_checkBoundsBeginEnd_10 : decode prog_20_method_158_code 10 = .ok (.return_, 1) := by decide +kernel
theorem dSt_substring_0_0 : decode prog_20_method_92_code 0 = .ok (.aload_n 0, 1) := by decide +kernel
theorem dSt_substring_0_1 : decode prog_20_method_92_code 1 = .ok (.invokevirtual 505, 3) := by decide +kernel
theorem dSt_substring_0_4 : decode prog_20_method_92_code 4 = .ok (.istore_n 3, 1) := by decide +kernel
theorem dSt_substring_0_5 : decode prog_20_method_92_code 5 = .ok (.iload_n 1, 1) := by decide +kernel
theorem dSt_substring_0_6 : decode prog_20_method_92_code 6 = .ok (.iload_n 2, 1) := by decide +kernel
theorem dSt_substring_0_7 : decode prog_20_method_92_code 7 = .ok (.iload_n 3, 1) := by decide +kernel
theorem dSt_substring_0_8 : decode prog_20_method_92_code 8 = .ok (.invokestatic 521, 3) := by decide +kernel
theorem dSt_substring_0_11 : decode prog_20_method_92_code 11 = .ok (.iload_n 1, 1) := by decide +kernel
theorem dSt_substring_0_12 : decode prog_20_method_92_code 12 = .ok (.ifCond .ne 10, 3) := by decide +kernel
theorem dSt_substring_0_15 : decode prog_20_method_92_code 15 = .ok (.iload_n 2, 1) := by decide +kernel
theorem dSt_substring_0_16 : decode prog_20_method_92_code 16 = .ok (.iload_n 3, 1) := by decide +kernel
theorem dSt_substring_0_17 : decode prog_20_method_92_code 17 = .ok (.if_icmp .ne 5, 3) := by decide +kernel
theorem dSt_substring_0_20 : decode prog_20_method_92_code 20 = .ok (.aload_n 0, 1) := by decide +kernel
theorem dSt_substring_0_21 : decode prog_20_method_92_code 21 = .ok (.areturn, 1) := by decide +kernel
theorem dSt_substring_0_22 : decode prog_20_method_92_code 22 = .ok (.iload_n 2, 1) := by decide +kernel
theorem dSt_substring_0_23 : decode prog_20_method_92_code 23 = .ok (.iload_n 1, 1) := by decide +kernel
theorem dSt_substring_0_24 : decode prog_20_method_92_code 24 = .ok (.isub, 1) := by decide +kernel
theorem dSt_substring_0_25 : decode prog_20_method_92_code 25 = .ok (.istore 4, 2) := by decide +kernel
theorem dSt_substring_0_27 : decode prog_20_method_92_code 27 = .ok (.aload_n 0, 1) := by decide +kernel
theorem dSt_substring_0_28 : decode prog_20_method_92_code 28 = .ok (.invokevirtual 492, 3) := by decide +kernel
theorem dSt_substring_0_31 : decode prog_20_method_92_code 31 = .ok (.ifCond .eq 16, 3) := by decide +kernel
theorem dSt_substring_0_34 : decode prog_20_method_92_code 34 = .ok (.aload_n 0, 1) := by decide +kernel
theorem dSt_substring_0_35 : decode prog_20_method_92_code 35 = .ok (.getfield 9, 3) := by decide +kernel
theorem dSt_substring_0_38 : decode prog_20_method_92_code 38 = .ok (.iload_n 1, 1) := by decide +kernel
theorem dSt_substring_0_39 : decode prog_20_method_92_code 39 = .ok (.iload 4, 2) := by decide +kernel
theorem dSt_substring_0_41 : decode prog_20_method_92_code 41 = .ok (.invokestatic 685, 3) := by decide +kernel
theorem dSt_substring_0_44 : decode prog_20_method_92_code 44 = .ok (.goto 13, 3) := by decide +kernel
theorem dSt_substring_0_47 : decode prog_20_method_92_code 47 = .ok (.aload_n 0, 1) := by decide +kernel
theorem dSt_substring_0_48 : decode prog_20_method_92_code 48 = .ok (.getfield 9, 3) := by decide +kernel
theorem dSt_substring_0_51 : decode prog_20_method_92_code 51 = .ok (.iload_n 1, 1) := by decide +kernel
theorem dSt_substring_0_52 : decode prog_20_method_92_code 52 = .ok (.iload 4, 2) := by decide +kernel
theorem dSt_substring_0_54 : decode prog_20_method_92_code 54 = .ok (.invokestatic 689, 3) := by decide +kernel
theorem dSt_substring_0_57 : decode prog_20_method_92_code 57 = .ok (.areturn, 1) := by decide +kernel
theorem dSt_init_2_0 : decode prog_20_method_151_code 0 = .ok (.aload_n 0, 1) := by decide +kernel
theorem dSt_init_2_1 : decode prog_20_method_151_code 1 = .ok (.invokespecial 1, 3) := by decide +kernel
theorem dSt_init_2_4 : decode prog_20_method_151_code 4 = .ok (.aload_n 0, 1) := by decide +kernel
theorem dSt_init_2_5 : decode prog_20_method_151_code 5 = .ok (.aload_n 1, 1) := by decide +kernel
theorem dSt_init_2_6 : decode prog_20_method_151_code 6 = .ok (.putfield 9, 3) := by decide +kernel
theorem dSt_init_2_9 : decode prog_20_method_151_code 9 = .ok (.aload_n 0, 1) := by decide +kernel
theorem dSt_init_2_10 : decode prog_20_method_151_code 10 = .ok (.iload_n 2, 1) := by decide +kernel
theorem dSt_init_2_11 : decode prog_20_method_151_code 11 = .ok (.putfield 15, 3) := by decide +kernel
theorem dSt_init_2_14 : decode prog_20_method_151_code 14 = .ok (.return_, 1) := by decide +kernel
theorem dSt_substring_1_0 : decode prog_20_method_91_code 0 = .ok (.aload_n 0, 1) := by decide +kernel
theorem dSt_substring_1_1 : decode prog_20_method_91_code 1 = .ok (.iload_n 1, 1) := by decide +kernel
theorem dSt_substring_1_2 : decode prog_20_method_91_code 2 = .ok (.aload_n 0, 1) := by decide +kernel
theorem dSt_substring_1_3 : decode prog_20_method_91_code 3 = .ok (.invokevirtual 505, 3) := by decide +kernel
theorem dSt_substring_1_6 : decode prog_20_method_91_code 6 = .ok (.invokevirtual 681, 3) := by decide +kernel
theorem dSt_substring_1_9 : decode prog_20_method_91_code 9 = .ok (.areturn, 1) := by decide +kernel
theorem dSt_isEmpty_0 : decode prog_20_method_55_code 0 = .ok (.aload_n 0, 1) := by decide +kernel
theorem dSt_isEmpty_1 : decode prog_20_method_55_code 1 = .ok (.getfield 9, 3) := by decide +kernel
theorem dSt_isEmpty_4 : decode prog_20_method_55_code 4 = .ok (.arraylength, 1) := by decide +kernel
theorem dSt_isEmpty_5 : decode prog_20_method_55_code 5 = .ok (.ifCond .ne 7, 3) := by decide +kernel
theorem dSt_isEmpty_8 : decode prog_20_method_55_code 8 = .ok (.iconst 1, 1) := by decide +kernel
theorem dSt_isEmpty_9 : decode prog_20_method_55_code 9 = .ok (.goto 4, 3) := by decide +kernel
theorem dSt_isEmpty_12 : decode prog_20_method_55_code 12 = .ok (.iconst 0, 1) := by decide +kernel
theorem dSt_isEmpty_13 : decode prog_20_method_55_code 13 = .ok (.ireturn, 1) := by decide +kernel
theorem dSt_equals_0 : decode prog_20_method_66_code 0 = .ok (.aload_n 0, 1) := by decide +kernel
theorem dSt_equals_1 : decode prog_20_method_66_code 1 = .ok (.aload_n 1, 1) := by decide +kernel
theorem dSt_equals_2 : decode prog_20_method_66_code 2 = .ok (.if_acmp .ne 5, 3) := by decide +kernel
theorem dSt_equals_5 : decode prog_20_method_66_code 5 = .ok (.iconst 1, 1) := by decide +kernel
theorem dSt_equals_6 : decode prog_20_method_66_code 6 = .ok (.ireturn, 1) := by decide +kernel
theorem dSt_equals_7 : decode prog_20_method_66_code 7 = .ok (.aload_n 1, 1) := by decide +kernel
theorem dSt_equals_8 : decode prog_20_method_66_code 8 = .ok (.instanceof 10, 3) := by decide +kernel
theorem dSt_equals_11 : decode prog_20_method_66_code 11 = .ok (.ifCond .eq 43, 3) := by decide +kernel
theorem dSt_equals_14 : decode prog_20_method_66_code 14 = .ok (.aload_n 1, 1) := by decide +kernel
theorem dSt_equals_15 : decode prog_20_method_66_code 15 = .ok (.checkcast 10, 3) := by decide +kernel
theorem dSt_equals_18 : decode prog_20_method_66_code 18 = .ok (.astore_n 2, 1) := by decide +kernel
theorem dSt_equals_19 : decode prog_20_method_66_code 19 = .ok (.getstatic 38, 3) := by decide +kernel
theorem dSt_equals_22 : decode prog_20_method_66_code 22 = .ok (.ifCond .eq 14, 3) := by decide +kernel
theorem dSt_equals_25 : decode prog_20_method_66_code 25 = .ok (.aload_n 0, 1) := by decide +kernel
theorem dSt_equals_26 : decode prog_20_method_66_code 26 = .ok (.getfield 15, 3) := by decide +kernel
theorem dSt_equals_29 : decode prog_20_method_66_code 29 = .ok (.aload_n 2, 1) := by decide +kernel
theorem dSt_equals_30 : decode prog_20_method_66_code 30 = .ok (.getfield 15, 3) := by decide +kernel
theorem dSt_equals_33 : decode prog_20_method_66_code 33 = .ok (.if_icmp .ne 21, 3) := by decide +kernel
theorem dSt_equals_36 : decode prog_20_method_66_code 36 = .ok (.aload_n 0, 1) := by decide +kernel
theorem dSt_equals_37 : decode prog_20_method_66_code 37 = .ok (.getfield 9, 3) := by decide +kernel
theorem dSt_equals_40 : decode prog_20_method_66_code 40 = .ok (.aload_n 2, 1) := by decide +kernel
theorem dSt_equals_41 : decode prog_20_method_66_code 41 = .ok (.getfield 9, 3) := by decide +kernel
theorem dSt_equals_44 : decode prog_20_method_66_code 44 = .ok (.invokestatic 541, 3) := by decide +kernel
theorem dSt_equals_47 : decode prog_20_method_66_code 47 = .ok (.ifCond .eq 7, 3) := by decide +kernel
theorem dSt_equals_50 : decode prog_20_method_66_code 50 = .ok (.iconst 1, 1) := by decide +kernel
theorem dSt_equals_51 : decode prog_20_method_66_code 51 = .ok (.goto 4, 3) := by decide +kernel
theorem dSt_equals_54 : decode prog_20_method_66_code 54 = .ok (.iconst 0, 1) := by decide +kernel
theorem dSt_equals_55 : decode prog_20_method_66_code 55 = .ok (.ireturn, 1) := by decide +kernel
theorem dSt_getBytes_0 : decode prog_20_method_147_code 0 = .ok (.aload_n 0, 1) := by decide +kernel
theorem dSt_getBytes_1 : decode prog_20_method_147_code 1 = .ok (.invokevirtual 335, 3) := by decide +kernel
theorem dSt_getBytes_4 : decode prog_20_method_147_code 4 = .ok (.iload_n 3, 1) := by decide +kernel
theorem dSt_getBytes_5 : decode prog_20_method_147_code 5 = .ok (.if_icmp .ne 23, 3) := by decide +kernel
theorem dSt_getBytes_8 : decode prog_20_method_147_code 8 = .ok (.aload_n 0, 1) := by decide +kernel
theorem dSt_getBytes_9 : decode prog_20_method_147_code 9 = .ok (.getfield 9, 3) := by decide +kernel
theorem dSt_getBytes_12 : decode prog_20_method_147_code 12 = .ok (.iconst 0, 1) := by decide +kernel
theorem dSt_getBytes_13 : decode prog_20_method_147_code 13 = .ok (.aload_n 1, 1) := by decide +kernel
theorem dSt_getBytes_14 : decode prog_20_method_147_code 14 = .ok (.iload_n 2, 1) := by decide +kernel
theorem dSt_getBytes_15 : decode prog_20_method_147_code 15 = .ok (.iload_n 3, 1) := by decide +kernel
theorem dSt_getBytes_16 : decode prog_20_method_147_code 16 = .ok (.ishl, 1) := by decide +kernel
theorem dSt_getBytes_17 : decode prog_20_method_147_code 17 = .ok (.aload_n 0, 1) := by decide +kernel
theorem dSt_getBytes_18 : decode prog_20_method_147_code 18 = .ok (.getfield 9, 3) := by decide +kernel
theorem dSt_getBytes_21 : decode prog_20_method_147_code 21 = .ok (.arraylength, 1) := by decide +kernel
theorem dSt_getBytes_25 : decode prog_20_method_147_code 25 = .ok (.goto 18, 3) := by decide +kernel
theorem dSt_getBytes_28 : decode prog_20_method_147_code 28 = .ok (.aload_n 0, 1) := by decide +kernel
theorem dSt_getBytes_29 : decode prog_20_method_147_code 29 = .ok (.getfield 9, 3) := by decide +kernel
theorem dSt_getBytes_32 : decode prog_20_method_147_code 32 = .ok (.iconst 0, 1) := by decide +kernel
theorem dSt_getBytes_33 : decode prog_20_method_147_code 33 = .ok (.aload_n 1, 1) := by decide +kernel
theorem dSt_getBytes_34 : decode prog_20_method_147_code 34 = .ok (.iload_n 2, 1) := by decide +kernel
theorem dSt_getBytes_35 : decode prog_20_method_147_code 35 = .ok (.aload_n 0, 1) := by decide +kernel
theorem dSt_getBytes_36 : decode prog_20_method_147_code 36 = .ok (.getfield 9, 3) := by decide +kernel
theorem dSt_getBytes_39 : decode prog_20_method_147_code 39 = .ok (.arraylength, 1) := by decide +kernel
theorem dSt_getBytes_40 : decode prog_20_method_147_code 40 = .ok (.invokestatic 106, 3) := by decide +kernel
theorem dSt_getBytes_43 : decode prog_20_method_147_code 43 = .ok (.return_, 1) := by decide +kernel
theorem zk_St_1065 : zLkS "java/lang/String" 1065 M_Pc_checkFromIndexSize 4 := ⟨zc_Pc_checkFromIndexSize, zt2 111 rfl, Or.inl (zt2 110 rfl)⟩
theorem zk_St_1059 : zLkS "java/lang/String" 1059 M_Pc_checkIndex 3 := ⟨zc_Pc_checkIndex, zt2 132 rfl, Or.inl (zt2 131 rfl)⟩
theorem zk_St_489 : zLkI "java/lang/String" 489 M_St_init_1 2 := ⟨zc_St_init_1, rfl, rfl, zt2 192 rfl, Or.inl (zt2 191 rfl)⟩
theorem zk_St_552 : zLkV "java/lang/String" 552 1 M_Ab_getValue 0 := ⟨zc_Ab_getValue, ⟨_, _, _, rfl, Or.inl (zt2 198 rfl)⟩, zt2 196 rfl, Or.inl (zt2 195 rfl)⟩
theorem zk_St_1047 : zLkV "java/lang/String" 1047 1 M_Ab_isLatin1 0 := ⟨zc_Ab_isLatin1, ⟨_, _, _, rfl, Or.inl (zt2 84 rfl)⟩, zt2 82 rfl, Or.inl (zt2 201 rfl)⟩
theorem zf_St_15 : zFl "java/lang/String" 15 8 1 := ⟨_, _, _, "java/lang/String", rfl, Nat.le_of_ble_eq_true rfl, in_St, Or.inl (zt2 224 rfl), Or.inl rfl⟩
theorem zp_St_init_1_15 : zPf M_St_init_1 15 8 1 .byte := ⟨zf_St_15, _, _, _, ty_St, rfl, tyok_St, nm_St, rfl, Or.inr ⟨rfl, rfl, rfl⟩⟩
theorem zk_St_54 : zLkS "java/lang/String" 54 M_Ar_copyOfRange 3 := ⟨zc_Ar_copyOfRange, zt2 203 rfl, Or.inl (zt2 202 rfl)⟩
theorem zf_St_9 : zFl "java/lang/String" 9 8 0 := ⟨_, _, _, "java/lang/String", rfl, Nat.le_of_ble_eq_true rfl, in_St, Or.inl (zt2 223 rfl), Or.inl rfl⟩
theorem zp_St_init_1_9 : zPf M_St_init_1 9 8 0 (.array .byte) := ⟨zf_St_9, _, _, _, ty_St, rfl, tyok_St, nm_St, rfl, Or.inr ⟨rfl, rfl, rfl⟩⟩
theorem zf_St_1048 : zFl "java/lang/String" 1048 1 2 := ⟨_, _, _, "java/lang/AbstractStringBuilder", rfl, Nat.le_of_ble_eq_true rfl, in_Sb, Or.inl (zt1 57 rfl), Or.inl rfl⟩
theorem zk_St_1051 : zLkS "java/lang/String" 1051 M_U16_compress_0 3 := ⟨zc_U16_compress_0, zt2 213 rfl, Or.inl (zt2 212 rfl)⟩
theorem zk_St_47 : zLkS "java/lang/String" 47 M_U16_coderFromArrayLen 2 := ⟨zc_U16_coderFromArrayLen, zt2 221 rfl, Or.inl (zt2 220 rfl)⟩
theorem zk_St_335 : zLkV "java/lang/String" 335 8 M_St_coder 0 := ⟨zc_St_coder, ⟨_, _, _, rfl, Or.inl (zt3 3 rfl)⟩, zt3 2 rfl, Or.inl (zt3 1 rfl)⟩
theorem zk_St_492 : zLkV "java/lang/String" 492 8 M_St_isLatin1 0 := ⟨zc_St_isLatin1, ⟨_, _, _, rfl, Or.inl (zt3 11 rfl)⟩, zt3 10 rfl, Or.inl (zt3 9 rfl)⟩
theorem zk_St_495 : zLkS "java/lang/String" 495 M_L1_charAt 2 := ⟨zc_L1_charAt, zt3 14 rfl, Or.inl (zt3 13 rfl)⟩
theorem zk_St_498 : zLkS "java/lang/String" 498 M_U16_charAt 2 := ⟨zc_U16_charAt, zt3 18 rfl, Or.inl (zt3 17 rfl)⟩
theorem zk_St_633 : zLkV "java/lang/String" 633 8 M_St_indexOf_1 2 := ⟨zc_St_indexOf_1, ⟨_, _, _, rfl, Or.inl (zt3 32 rfl)⟩, zt3 31 rfl, Or.inl (zt3 30 rfl)⟩
theorem zk_St_505 : zLkV "java/lang/String" 505 8 M_St_length 0 := ⟨zc_St_length, ⟨_, _, _, rfl, Or.inl (zt2 239 rfl)⟩, zt2 238 rfl, Or.inl (zt3 34 rfl)⟩
theorem zk_St_637 : zLkS "java/lang/String" 637 M_L1_indexOf 4 := ⟨zc_L1_indexOf, zt3 36 rfl, Or.inl (zt3 35 rfl)⟩
theorem zk_St_640 : zLkS "java/lang/String" 640 M_U16_indexOf 4 := ⟨zc_U16_indexOf, zt3 47 rfl, Or.inl (zt3 46 rfl)⟩
theorem zk_St_1062 : zLkS "java/lang/String" 1062 M_Pc_checkFromToIndex 4 := ⟨zc_Pc_checkFromToIndex, zt3 62 rfl, Or.inl (zt3 61 rfl)⟩
theorem zk_St_521 : zLkS "java/lang/String" 521 M_St_checkBoundsBeginEnd 3 := ⟨zc_St_checkBoundsBeginEnd, zt3 59 rfl, Or.inl (zt3 87 rfl)⟩
theorem zk_St_685 : zLkS "java/lang/String" 685 M_L1_newString 3 := ⟨zc_L1_newString, zt3 89 rfl, Or.inl (zt3 88 rfl)⟩
theorem zk_St_689 : zLkS "java/lang/String" 689 M_U16_newString 3 := ⟨zc_U16_newString, zt3 98 rfl, Or.inl (zt3 97 rfl)⟩
theorem zp_St_init_2_9 : zPf M_St_init_2 9 8 0 (.array .byte) := ⟨zf_St_9, _, _, _, ty_St, rfl, tyok_St, nm_St, rfl, Or.inr ⟨rfl, rfl, rfl⟩⟩
theorem zp_St_init_2_15 : zPf M_St_init_2 15 8 1 .byte := ⟨zf_St_15, _, _, _, ty_St, rfl, tyok_St, nm_St, rfl, Or.inr ⟨rfl, rfl, rfl⟩⟩
theorem zk_St_681 : zLkV "java/lang/String" 681 8 M_St_substring_0 2 := ⟨zc_St_substring_0, ⟨_, _, _, rfl, Or.inl (zt3 85 rfl)⟩, zt3 84 rfl, Or.inl (zt3 110 rfl)⟩
theorem zk_St_541 : zLkS "java/lang/String" 541 M_L1_equals 2 := ⟨zc_L1_equals, zt3 165 rfl, Or.inl (zt3 164 rfl)⟩
theorem zk_St_106 : zLkS "java/lang/String" 106 M_L1_inflate 5 := ⟨zc_L1_inflate, zt2 94 rfl, Or.inl (zt3 202 rfl)⟩
theorem sSt_checkBoundsOffCount_0 {G : zG} {d : Nat} {Q : Option Value → Heap → Prop} {H : Heap} {st : List Value} {x0 : Int32} {x1 : Int32} {x2 : Int32} {vf1 : Value} {P : Int32 → Heap → Prop} (hrf1 : zRf vf1 := by first | exact zRf_ref | exact zRf_null | exact zRf_rf _ | assumption) (hz1 : va_Z "jdk/internal/util/Preconditions" "SIOOBE_FORMATTER" "Ljava/util/function/BiFunction;" vf1 (zFr G) (zS G) (zS G).heap) (hd : 1 ≤ d) (hl : st.length ≤ 4) (hc : zC G (d - 1) M_Pc_checkFromIndexSize [(.int x0), (.int x1), (.int x2), vf1] H (zPi P)) (kk : ∀ (r : Int32) (H1 : Heap), P r H1 → zOk G H1 → H.size ≤ H1.size → zT H ≤ zT H1 → zW G d M_St_checkBoundsOffCount 9 [some (.int x0), some (.int x1), some (.int x2)] ((.int r) :: st) H1 Q) : zW G d M_St_checkBoundsOffCount 0 [some (.int x0), some (.int x1), some (.int x2)] st H Q :=
  zw_iload_n (i := 0) dSt_checkBoundsOffCount_0 rfl rfl <| zw_iload_n (i := 1) dSt_checkBoundsOffCount_1 rfl rfl <| zw_iload_n (i := 2) dSt_checkBoundsOffCount_2 rfl rfl <| zw_gets dSt_checkBoundsOffCount_3 hz1 (zt2 108 rfl) (Or.inl rfl) <| zw_callS [(.int x0), (.int x1), (.int x2), vf1] _ dSt_checkBoundsOffCount_6 hd zk_St_1065 rfl rfl hl hc (zPi_k kk)
theorem sSt_checkBoundsOffCount_9 {G : zG} {d : Nat} {Q : Option Value → Heap → Prop} {H : Heap} {o0 : Option Value} {o1 : Option Value} {o2 : Option Value} {xs0 : Int32} (hq : Q (some (.int xs0)) H) : zW G d M_St_checkBoundsOffCount 9 [o0, o1, o2] ((.int xs0) :: []) H Q :=
  zw_iret dSt_checkBoundsOffCount_9 .int rfl rfl hq
theorem sSt_checkIndex_0 {G : zG} {d : Nat} {Q : Option Value → Heap → Prop} {H : Heap} {st : List Value} {x0 : Int32} {x1 : Int32} {vf1 : Value} {P : Int32 → Heap → Prop} (hrf1 : zRf vf1 := by first | exact zRf_ref | exact zRf_null | exact zRf_rf _ | assumption) (hz1 : va_Z "jdk/internal/util/Preconditions" "SIOOBE_FORMATTER" "Ljava/util/function/BiFunction;" vf1 (zFr G) (zS G) (zS G).heap) (hd : 1 ≤ d) (hl : st.length ≤ 4) (hc : zC G (d - 1) M_Pc_checkIndex [(.int x0), (.int x1), vf1] H (zPi P)) (kk : ∀ (r : Int32) (H1 : Heap), P r H1 → zOk G H1 → H.size ≤ H1.size → zT H ≤ zT H1 → zW G d M_St_checkIndex 8 [some (.int x0), some (.int x1)] ((.int r) :: st) H1 Q) : zW G d M_St_checkIndex 0 [some (.int x0), some (.int x1)] st H Q :=
  zw_iload_n (i := 0) dSt_checkIndex_0 rfl rfl <| zw_iload_n (i := 1) dSt_checkIndex_1 rfl rfl <| zw_gets dSt_checkIndex_2 hz1 (zt2 108 rfl) (Or.inl rfl) <| zw_callS [(.int x0), (.int x1), vf1] _ dSt_checkIndex_5 hd zk_St_1059 rfl rfl hl hc (zPi_k kk)
theorem sSt_checkIndex_8 {G : zG} {d : Nat} {Q : Option Value → Heap → Prop} {H : Heap} {o0 : Option Value} {o1 : Option Value} {ws0 : Value} (hcs0 : ws0.category = 1 := by first | rfl | exact zRf.cat (by assumption)) (hq : Q none H) : zW G d M_St_checkIndex 8 [o0, o1] (ws0 :: []) H Q :=
  zw_pop dSt_checkIndex_8 hcs0 <| zw_vret dSt_checkIndex_9 rfl hq
theorem sSt_init_0_0 {G : zG} {d : Nat} {Q : Option Value → Heap → Prop} {H : Heap} {st : List Value} {a0 : Nat} {v1 : Value} {P : Heap → Prop} (hr1 : zRf v1 := by first | exact zRf_ref | exact zRf_null | exact zRf_rf _ | assumption) (hd : 1 ≤ d) (hl : st.length ≤ 4) (hc : zC G (d - 1) M_St_init_1 [(.ref a0), v1, .null] H (zPv P)) (kk : ∀ H1 : Heap, P H1 → zOk G H1 → H.size ≤ H1.size → zT H ≤ zT H1 → zW G d M_St_init_0 6 [some (.ref a0), some v1] st H1 Q) : zW G d M_St_init_0 0 [some (.ref a0), some v1] st H Q :=
  zw_aload_n (i := 0) dSt_init_0_0 rfl rfl zRf_ref <| zw_aload_n (i := 1) dSt_init_0_1 rfl rfl hr1 <| zw_null dSt_init_0_2 <| zw_callI [v1, .null] _ dSt_init_0_3 hd zk_St_489 rfl rfl hl hc (zPv_k kk)
theorem sSt_init_0_6 {G : zG} {d : Nat} {Q : Option Value → Heap → Prop} {H : Heap} {o0 : Option Value} {o1 : Option Value} (hq : Q none H) : zW G d M_St_init_0 6 [o0, o1] [] H Q :=
  zw_vret dSt_init_0_6 rfl hq
theorem sSt_init_1_0 {G : zG} {d : Nat} {Q : Option Value → Heap → Prop} {H : Heap} {st : List Value} {o1 : Option Value} {o2 : Option Value} {o3 : Option Value} {o4 : Option Value} {a0 : Nat} (hd : 1 ≤ d) (hl : st.length ≤ 4) (kk : zW G d M_St_init_1 4 [some (.ref a0), o1, o2, o3, o4] st H Q) : zW G d M_St_init_1 0 [some (.ref a0), o1, o2, o3, o4] st H Q :=
  zw_aload_n (i := 0) dSt_init_1_0 rfl rfl zRf_ref <| zw_objInit dSt_init_1_1 hd (zt2 194 rfl) zo_inst zo_code hl kk
theorem sSt_init_1_4 {G : zG} {d : Nat} {Q : Option Value → Heap → Prop} {H : Heap} {st : List Value} {o0 : Option Value} {o2 : Option Value} {o3 : Option Value} {o4 : Option Value} {a1 : Nat} {P : Value → Heap → Prop} (hd : 1 ≤ d) (hl : st.length ≤ 4) (ho : zIs G H a1 1) (hc : zC G (d - 1) M_Ab_getValue [(.ref a1)] H (zPr P)) (kk : ∀ (r : Value) (H1 : Heap), zRf r → P r H1 → zOk G H1 → H.size ≤ H1.size → zT H ≤ zT H1 → zW G d M_St_init_1 8 [o0, some (.ref a1), o2, o3, o4] (r :: st) H1 Q) : zW G d M_St_init_1 4 [o0, some (.ref a1), o2, o3, o4] st H Q :=
  zw_aload_n (i := 1) dSt_init_1_4 rfl rfl zRf_ref <| zw_callV [] _ dSt_init_1_5 hd zk_St_552 ho rfl rfl hl hc (zPr_k kk)
theorem sSt_init_1_8 {G : zG} {d : Nat} {Q : Option Value → Heap → Prop} {H : Heap} {st : List Value} {o0 : Option Value} {o2 : Option Value} {o3 : Option Value} {o4 : Option Value} {vs0 : Value} {v1 : Value} (hrs0 : zRf vs0 := by first | exact zRf_ref | exact zRf_null | exact zRf_rf _ | assumption) (hr1 : zRf v1 := by first | exact zRf_ref | exact zRf_null | exact zRf_rf _ | assumption) (kk : zW G d M_St_init_1 10 [o0, some v1, o2, some vs0, o4] (v1 :: st) H Q) : zW G d M_St_init_1 8 [o0, some v1, o2, o3, o4] (vs0 :: st) H Q :=
  zw_astore_n (i := 3) dSt_init_1_8 rfl (Nat.le_of_ble_eq_true rfl) hrs0 <| zw_aload_n (i := 1) dSt_init_1_9 rfl rfl hr1 <| kk
theorem sSt_init_1_13 {G : zG} {d : Nat} {Q : Option Value → Heap → Prop} {H : Heap} {st : List Value} {o0 : Option Value} {o2 : Option Value} {o3 : Option Value} {o4 : Option Value} {xs0 : Int32} {a1 : Nat} {P : Int32 → Heap → Prop} (hd : 1 ≤ d) (hl : st.length ≤ 4) (ho : zIs G H a1 1) (hc : zC G (d - 1) M_Ab_isLatin1 [(.ref a1)] H (zPi P)) (kk : ∀ (r : Int32) (H1 : Heap), P r H1 → zOk G H1 → H.size ≤ H1.size → zT H ≤ zT H1 → zW G d M_St_init_1 19 [o0, some (.ref a1), o2, o3, some (.int xs0)] ((.int r) :: st) H1 Q) : zW G d M_St_init_1 13 [o0, some (.ref a1), o2, o3, o4] ((.int xs0) :: st) H Q :=
  zw_istore (i := 4) dSt_init_1_13 (Nat.le_of_ble_eq_true rfl) <| zw_aload_n (i := 1) dSt_init_1_15 rfl rfl zRf_ref <| zw_callV [] _ dSt_init_1_16 hd zk_St_1047 ho rfl rfl hl hc (zPi_k kk)
theorem sSt_init_1_19 {G : zG} {d : Nat} {Q : Option Value → Heap → Prop} {H : Heap} {st : List Value} {o0 : Option Value} {o1 : Option Value} {o2 : Option Value} {o3 : Option Value} {o4 : Option Value} {xs0 : Int32} (kt : (xs0 = 0) → zW G d M_St_init_1 41 [o0, o1, o2, o3, o4] st H Q) (kf : (¬ xs0 = 0) → zW G d M_St_init_1 22 [o0, o1, o2, o3, o4] st H Q) : zW G d M_St_init_1 19 [o0, o1, o2, o3, o4] ((.int xs0) :: st) H Q :=
  zw_if_eq 41 dSt_init_1_19 (by decide) kt kf
theorem sSt_init_1_22 {G : zG} {d : Nat} {Q : Option Value → Heap → Prop} {H : Heap} {st : List Value} {o1 : Option Value} {o2 : Option Value} {o3 : Option Value} {o4 : Option Value} {a0 : Nat} {b0 : Value} {b1 : Value} {b2 : Value} {b3 : Value} (ho : zObj G H a0 8 [b0, b1, b2, b3]) (hw : zFr G a0) (hn : narrow .byte (.int (0 : Int32)) = (.int (0 : Int32))) (hfit : fits .byte (.int (0 : Int32)) = true) (kk : ∀ H1 : Heap, zObj G H1 a0 8 [b0, (.int (0 : Int32)), b2, b3] → zUp a0 H H1 → zW G d M_St_init_1 27 [some (.ref a0), o1, o2, o3, o4] st H1 Q) : zW G d M_St_init_1 22 [some (.ref a0), o1, o2, o3, o4] st H Q :=
  zw_aload_n (i := 0) dSt_init_1_22 rfl rfl zRf_ref <| zw_iconst (0 : Int32) dSt_init_1_23 zki_0 <| zw_putf (k := 1) dSt_init_1_24 zp_St_init_1_15 ho (Nat.le_of_ble_eq_true rfl) (Nat.le_of_ble_eq_true rfl) hw hn hfit kk
theorem sSt_init_1_27 {G : zG} {d : Nat} {Q : Option Value → Heap → Prop} {H : Heap} {st : List Value} {o1 : Option Value} {o2 : Option Value} {v0 : Value} {v3 : Value} {x4 : Int32} {P : Value → Heap → Prop} (hr0 : zRf v0 := by first | exact zRf_ref | exact zRf_null | exact zRf_rf _ | assumption) (hr3 : zRf v3 := by first | exact zRf_ref | exact zRf_null | exact zRf_rf _ | assumption) (hd : 1 ≤ d) (hl : (v0 :: st).length ≤ 4) (hc : zC G (d - 1) M_Ar_copyOfRange [v3, (.int (0 : Int32)), (.int x4)] H (zPr P)) (kk : ∀ (r : Value) (H1 : Heap), zRf r → P r H1 → zOk G H1 → H.size ≤ H1.size → zT H ≤ zT H1 → zW G d M_St_init_1 35 [some v0, o1, o2, some v3, some (.int x4)] (r :: v0 :: st) H1 Q) : zW G d M_St_init_1 27 [some v0, o1, o2, some v3, some (.int x4)] st H Q :=
  zw_aload_n (i := 0) dSt_init_1_27 rfl rfl hr0 <| zw_aload_n (i := 3) dSt_init_1_28 rfl rfl hr3 <| zw_iconst (0 : Int32) dSt_init_1_29 zki_0 <| zw_iload (i := 4) dSt_init_1_30 rfl <| zw_callS [v3, (.int (0 : Int32)), (.int x4)] _ dSt_init_1_32 hd zk_St_54 rfl rfl hl hc (zPr_k kk)
theorem sSt_init_1_35 {G : zG} {d : Nat} {Q : Option Value → Heap → Prop} {H : Heap} {st : List Value} {o0 : Option Value} {o1 : Option Value} {o2 : Option Value} {o3 : Option Value} {o4 : Option Value} {vs0 : Value} {as1 : Nat} {b0 : Value} {b1 : Value} {b2 : Value} {b3 : Value} (hrs0 : zRf vs0 := by first | exact zRf_ref | exact zRf_null | exact zRf_rf _ | assumption) (ho : zObj G H as1 8 [b0, b1, b2, b3]) (hw : zFr G as1) (kk : ∀ H1 : Heap, zObj G H1 as1 8 [vs0, b1, b2, b3] → zUp as1 H H1 → zW G d M_St_init_1 38 [o0, o1, o2, o3, o4] st H1 Q) : zW G d M_St_init_1 35 [o0, o1, o2, o3, o4] (vs0 :: (.ref as1) :: st) H Q :=
  zw_putf (k := 0) dSt_init_1_35 zp_St_init_1_9 ho (Nat.le_of_ble_eq_true rfl) (Nat.le_of_ble_eq_true rfl) hw (zNarA hrs0) (zFitA hrs0) kk
theorem sSt_init_1_38 {G : zG} {d : Nat} {Q : Option Value → Heap → Prop} {H : Heap} {o0 : Option Value} {o1 : Option Value} {o2 : Option Value} {o3 : Option Value} {o4 : Option Value} (hq : Q none H) : zW G d M_St_init_1 38 [o0, o1, o2, o3, o4] [] H Q :=
  zw_goto 97 dSt_init_1_38 (by decide) <| zw_vret dSt_init_1_97 rfl hq
theorem sSt_init_1_41 {G : zG} {d : Nat} {Q : Option Value → Heap → Prop} {H : Heap} {st : List Value} {o0 : Option Value} {o1 : Option Value} {o2 : Option Value} {o3 : Option Value} {o4 : Option Value} (hz1 : va_Z "java/lang/String" "COMPACT_STRINGS" "Z" (.int 1) (zFr G) (zS G) (zS G).heap) (kt : ((1 : Int32) = 0) → zW G d M_St_init_1 79 [o0, o1, o2, o3, o4] st H Q) (kf : (¬ (1 : Int32) = 0) → zW G d M_St_init_1 47 [o0, o1, o2, o3, o4] st H Q) : zW G d M_St_init_1 41 [o0, o1, o2, o3, o4] st H Q :=
  zw_gets dSt_init_1_41 hz1 (zt2 211 rfl) (Or.inl rfl) <| zw_if_eq 79 dSt_init_1_44 (by decide) kt kf
theorem sSt_init_1_47 {G : zG} {d : Nat} {Q : Option Value → Heap → Prop} {H : Heap} {st : List Value} {o0 : Option Value} {o2 : Option Value} {o3 : Option Value} {o4 : Option Value} {a1 : Nat} {xf1 : Int32} (hf1 : zFd G H a1 1 2 (.int xf1)) (kt : (xf1 = 0) → zW G d M_St_init_1 79 [o0, some (.ref a1), o2, o3, o4] st H Q) (kf : (¬ xf1 = 0) → zW G d M_St_init_1 54 [o0, some (.ref a1), o2, o3, o4] st H Q) : zW G d M_St_init_1 47 [o0, some (.ref a1), o2, o3, o4] st H Q :=
  zw_aload_n (i := 1) dSt_init_1_47 rfl rfl zRf_ref <| zw_getf dSt_init_1_48 zf_St_1048 hf1 <| zw_if_eq 79 dSt_init_1_51 (by decide) kt kf
theorem sSt_init_1_54 {G : zG} {d : Nat} {Q : Option Value → Heap → Prop} {H : Heap} {st : List Value} {o1 : Option Value} {o2 : Option Value} {v0 : Value} {v3 : Value} {x4 : Int32} {P : Value → Heap → Prop} (hr0 : zRf v0 := by first | exact zRf_ref | exact zRf_null | exact zRf_rf _ | assumption) (hr3 : zRf v3 := by first | exact zRf_ref | exact zRf_null | exact zRf_rf _ | assumption) (hd : 1 ≤ d) (hl : (v0 :: st).length ≤ 4) (hc : zC G (d - 1) M_U16_compress_0 [v3, (.int (0 : Int32)), (.int x4)] H (zPr P)) (kk : ∀ (r : Value) (H1 : Heap), zRf r → P r H1 → zOk G H1 → H.size ≤ H1.size → zT H ≤ zT H1 → zW G d M_St_init_1 62 [some v0, o1, o2, some v3, some (.int x4)] (r :: v0 :: st) H1 Q) : zW G d M_St_init_1 54 [some v0, o1, o2, some v3, some (.int x4)] st H Q :=
  zw_aload_n (i := 0) dSt_init_1_54 rfl rfl hr0 <| zw_aload_n (i := 3) dSt_init_1_55 rfl rfl hr3 <| zw_iconst (0 : Int32) dSt_init_1_56 zki_0 <| zw_iload (i := 4) dSt_init_1_57 rfl <| zw_callS [v3, (.int (0 : Int32)), (.int x4)] _ dSt_init_1_59 hd zk_St_1051 rfl rfl hl hc (zPr_k kk)
theorem sSt_init_1_62 {G : zG} {d : Nat} {Q : Option Value → Heap → Prop} {H : Heap} {st : List Value} {o0 : Option Value} {o1 : Option Value} {o2 : Option Value} {o3 : Option Value} {o4 : Option Value} {vs0 : Value} {as1 : Nat} {b0 : Value} {b1 : Value} {b2 : Value} {b3 : Value} (hrs0 : zRf vs0 := by first | exact zRf_ref | exact zRf_null | exact zRf_rf _ | assumption) (ho : zObj G H as1 8 [b0, b1, b2, b3]) (hw : zFr G as1) (kk : ∀ H1 : Heap, zObj G H1 as1 8 [vs0, b1, b2, b3] → zUp as1 H H1 → zW G d M_St_init_1 65 [o0, o1, o2, o3, o4] st H1 Q) : zW G d M_St_init_1 62 [o0, o1, o2, o3, o4] (vs0 :: (.ref as1) :: st) H Q :=
  zw_putf (k := 0) dSt_init_1_62 zp_St_init_1_9 ho (Nat.le_of_ble_eq_true rfl) (Nat.le_of_ble_eq_true rfl) hw (zNarA hrs0) (zFitA hrs0) kk
theorem sSt_init_1_65 {G : zG} {d : Nat} {Q : Option Value → Heap → Prop} {H : Heap} {st : List Value} {o1 : Option Value} {o2 : Option Value} {o3 : Option Value} {a0 : Nat} {vf1 : Value} {x4 : Int32} {P : Int32 → Heap → Prop} (hrf1 : zRf vf1 := by first | exact zRf_ref | exact zRf_null | exact zRf_rf _ | assumption) (hf1 : zFd G H a0 8 0 vf1) (hd : 1 ≤ d) (hl : ((.ref a0) :: st).length ≤ 4) (hc : zC G (d - 1) M_U16_coderFromArrayLen [vf1, (.int x4)] H (zPi P)) (kk : ∀ (r : Int32) (H1 : Heap), P r H1 → zOk G H1 → H.size ≤ H1.size → zT H ≤ zT H1 → zW G d M_St_init_1 75 [some (.ref a0), o1, o2, o3, some (.int x4)] ((.int r) :: (.ref a0) :: st) H1 Q) : zW G d M_St_init_1 65 [some (.ref a0), o1, o2, o3, some (.int x4)] st H Q :=
  zw_aload_n (i := 0) dSt_init_1_65 rfl rfl zRf_ref <| zw_aload_n (i := 0) dSt_init_1_66 rfl rfl zRf_ref <| zw_getf dSt_init_1_67 zf_St_9 hf1 <| zw_iload (i := 4) dSt_init_1_70 rfl <| zw_callS [vf1, (.int x4)] _ dSt_init_1_72 hd zk_St_47 rfl rfl hl hc (zPi_k kk)
theorem sSt_init_1_75 {G : zG} {d : Nat} {Q : Option Value → Heap → Prop} {H : Heap} {st : List Value} {o0 : Option Value} {o1 : Option Value} {o2 : Option Value} {o3 : Option Value} {o4 : Option Value} {xs0 : Int32} {as1 : Nat} {b0 : Value} {b1 : Value} {b2 : Value} {b3 : Value} (ho : zObj G H as1 8 [b0, b1, b2, b3]) (hw : zFr G as1) (hn : narrow .byte (.int xs0) = (.int xs0)) (hfit : fits .byte (.int xs0) = true) (kk : ∀ H1 : Heap, zObj G H1 as1 8 [b0, (.int xs0), b2, b3] → zUp as1 H H1 → zW G d M_St_init_1 78 [o0, o1, o2, o3, o4] st H1 Q) : zW G d M_St_init_1 75 [o0, o1, o2, o3, o4] ((.int xs0) :: (.ref as1) :: st) H Q :=
  zw_putf (k := 1) dSt_init_1_75 zp_St_init_1_15 ho (Nat.le_of_ble_eq_true rfl) (Nat.le_of_ble_eq_true rfl) hw hn hfit kk
theorem sSt_init_1_78 {G : zG} {d : Nat} {Q : Option Value → Heap → Prop} {H : Heap} {o0 : Option Value} {o1 : Option Value} {o2 : Option Value} {o3 : Option Value} {o4 : Option Value} (hq : Q none H) : zW G d M_St_init_1 78 [o0, o1, o2, o3, o4] [] H Q :=
  zw_vret dSt_init_1_78 rfl hq
theorem sSt_init_1_79 {G : zG} {d : Nat} {Q : Option Value → Heap → Prop} {H : Heap} {st : List Value} {o1 : Option Value} {o2 : Option Value} {o3 : Option Value} {o4 : Option Value} {a0 : Nat} {b0 : Value} {b1 : Value} {b2 : Value} {b3 : Value} (ho : zObj G H a0 8 [b0, b1, b2, b3]) (hw : zFr G a0) (hn : narrow .byte (.int (1 : Int32)) = (.int (1 : Int32))) (hfit : fits .byte (.int (1 : Int32)) = true) (kk : ∀ H1 : Heap, zObj G H1 a0 8 [b0, (.int (1 : Int32)), b2, b3] → zUp a0 H H1 → zW G d M_St_init_1 84 [some (.ref a0), o1, o2, o3, o4] st H1 Q) : zW G d M_St_init_1 79 [some (.ref a0), o1, o2, o3, o4] st H Q :=
  zw_aload_n (i := 0) dSt_init_1_79 rfl rfl zRf_ref <| zw_iconst (1 : Int32) dSt_init_1_80 zki_1 <| zw_putf (k := 1) dSt_init_1_81 zp_St_init_1_15 ho (Nat.le_of_ble_eq_true rfl) (Nat.le_of_ble_eq_true rfl) hw hn hfit kk
theorem sSt_init_1_84 {G : zG} {d : Nat} {Q : Option Value → Heap → Prop} {H : Heap} {st : List Value} {o1 : Option Value} {o2 : Option Value} {v0 : Value} {v3 : Value} {x4 : Int32} {P : Value → Heap → Prop} (hr0 : zRf v0 := by first | exact zRf_ref | exact zRf_null | exact zRf_rf _ | assumption) (hr3 : zRf v3 := by first | exact zRf_ref | exact zRf_null | exact zRf_rf _ | assumption) (hd : 1 ≤ d) (hl : (v0 :: st).length ≤ 4) (hc : zC G (d - 1) M_Ar_copyOfRange [v3, (.int (0 : Int32)), (.int (x4 <<< ((1 : Int32) &&& 31)))] H (zPr P)) (kk : ∀ (r : Value) (H1 : Heap), zRf r → P r H1 → zOk G H1 → H.size ≤ H1.size → zT H ≤ zT H1 → zW G d M_St_init_1 94 [some v0, o1, o2, some v3, some (.int x4)] (r :: v0 :: st) H1 Q) : zW G d M_St_init_1 84 [some v0, o1, o2, some v3, some (.int x4)] st H Q :=
  zw_aload_n (i := 0) dSt_init_1_84 rfl rfl hr0 <| zw_aload_n (i := 3) dSt_init_1_85 rfl rfl hr3 <| zw_iconst (0 : Int32) dSt_init_1_86 zki_0 <| zw_iload (i := 4) dSt_init_1_87 rfl <| zw_iconst (1 : Int32) dSt_init_1_89 zki_1 <| zw_ishl dSt_init_1_90 <| zw_callS [v3, (.int (0 : Int32)), (.int (x4 <<< ((1 : Int32) &&& 31)))] _ dSt_init_1_91 hd zk_St_54 rfl rfl hl hc (zPr_k kk)
theorem sSt_init_1_94 {G : zG} {d : Nat} {Q : Option Value → Heap → Prop} {H : Heap} {st : List Value} {o0 : Option Value} {o1 : Option Value} {o2 : Option Value} {o3 : Option Value} {o4 : Option Value} {vs0 : Value} {as1 : Nat} {b0 : Value} {b1 : Value} {b2 : Value} {b3 : Value} (hrs0 : zRf vs0 := by first | exact zRf_ref | exact zRf_null | exact zRf_rf _ | assumption) (ho : zObj G H as1 8 [b0, b1, b2, b3]) (hw : zFr G as1) (kk : ∀ H1 : Heap, zObj G H1 as1 8 [vs0, b1, b2, b3] → zUp as1 H H1 → zW G d M_St_init_1 97 [o0, o1, o2, o3, o4] st H1 Q) : zW G d M_St_init_1 94 [o0, o1, o2, o3, o4] (vs0 :: (.ref as1) :: st) H Q :=
  zw_putf (k := 0) dSt_init_1_94 zp_St_init_1_9 ho (Nat.le_of_ble_eq_true rfl) (Nat.le_of_ble_eq_true rfl) hw (zNarA hrs0) (zFitA hrs0) kk
theorem sSt_init_1_97 {G : zG} {d : Nat} {Q : Option Value → Heap → Prop} {H : Heap} {o0 : Option Value} {o1 : Option Value} {o2 : Option Value} {o3 : Option Value} {o4 : Option Value} (hq : Q none H) : zW G d M_St_init_1 97 [o0, o1, o2, o3, o4] [] H Q :=
  zw_vret dSt_init_1_97 rfl hq
theorem sSt_length_0 {G : zG} {d : Nat} {Q : Option Value → Heap → Prop} {H : Heap} {st : List Value} {a0 : Nat} {af1 : Nat} {n2 : Nat} {t2 : FieldType} {g2 : Nat → Value} {P : Int32 → Heap → Prop} (hf1 : zFd G H a0 8 0 (.ref af1)) (ha2 : zArr G H af1 t2 n2 g2) (hd : 1 ≤ d) (hl : ((.int (nI n2)) :: st).length ≤ 4) (ho : zIs G H a0 8) (hc : zC G (d - 1) M_St_coder [(.ref a0)] H (zPi P)) (kk : ∀ (r : Int32) (H1 : Heap), P r H1 → zOk G H1 → H.size ≤ H1.size → zT H ≤ zT H1 → zW G d M_St_length 9 [some (.ref a0)] ((.int r) :: (.int (nI n2)) :: st) H1 Q) : zW G d M_St_length 0 [some (.ref a0)] st H Q :=
  zw_aload_n (i := 0) dSt_length_0 rfl rfl zRf_ref <| zw_getf dSt_length_1 zf_St_9 hf1 <| zw_alen dSt_length_4 ha2 <| zw_aload_n (i := 0) dSt_length_5 rfl rfl zRf_ref <| zw_callV [] _ dSt_length_6 hd zk_St_335 ho rfl rfl hl hc (zPi_k kk)
theorem sSt_length_9 {G : zG} {d : Nat} {Q : Option Value → Heap → Prop} {H : Heap} {o0 : Option Value} {xs0 : Int32} {xs1 : Int32} (hq : Q (some (.int (xs1 >>> (xs0 &&& 31)))) H) : zW G d M_St_length 9 [o0] ((.int xs0) :: (.int xs1) :: []) H Q :=
  zw_ishr dSt_length_9 <| zw_iret dSt_length_10 .int rfl rfl hq
theorem sSt_coder_0 {G : zG} {d : Nat} {Q : Option Value → Heap → Prop} {H : Heap} {st : List Value} {o0 : Option Value} (hz1 : va_Z "java/lang/String" "COMPACT_STRINGS" "Z" (.int 1) (zFr G) (zS G) (zS G).heap) (kt : ((1 : Int32) = 0) → zW G d M_St_coder 13 [o0] st H Q) (kf : (¬ (1 : Int32) = 0) → zW G d M_St_coder 6 [o0] st H Q) : zW G d M_St_coder 0 [o0] st H Q :=
  zw_gets dSt_coder_0 hz1 (zt2 211 rfl) (Or.inl rfl) <| zw_if_eq 13 dSt_coder_3 (by decide) kt kf
theorem sSt_coder_6 {G : zG} {d : Nat} {Q : Option Value → Heap → Prop} {H : Heap} {a0 : Nat} {xf1 : Int32} (hf1 : zFd G H a0 8 1 (.int xf1)) (hn : narrow .byte (.int xf1) = .int xf1) (hq : Q (some (.int xf1)) H) : zW G d M_St_coder 6 [some (.ref a0)] [] H Q :=
  zw_aload_n (i := 0) dSt_coder_6 rfl rfl zRf_ref <| zw_getf dSt_coder_7 zf_St_15 hf1 <| zw_goto 14 dSt_coder_10 (by decide) <| zw_iret dSt_coder_14 .byte rfl hn hq
theorem sSt_coder_13 {G : zG} {d : Nat} {Q : Option Value → Heap → Prop} {H : Heap} {o0 : Option Value} (hn : narrow .byte (.int (1 : Int32)) = .int (1 : Int32)) (hq : Q (some (.int (1 : Int32))) H) : zW G d M_St_coder 13 [o0] [] H Q :=
  zw_iconst (1 : Int32) dSt_coder_13 zki_1 <| zw_iret dSt_coder_14 .byte rfl hn hq
theorem sSt_coder_14 {G : zG} {d : Nat} {Q : Option Value → Heap → Prop} {H : Heap} {o0 : Option Value} {xs0 : Int32} (hn : narrow .byte (.int xs0) = .int xs0) (hq : Q (some (.int xs0)) H) : zW G d M_St_coder 14 [o0] ((.int xs0) :: []) H Q :=
  zw_iret dSt_coder_14 .byte rfl hn hq
theorem sSt_charAt_0 {G : zG} {d : Nat} {Q : Option Value → Heap → Prop} {H : Heap} {st : List Value} {o1 : Option Value} {a0 : Nat} {P : Int32 → Heap → Prop} (hd : 1 ≤ d) (hl : st.length ≤ 4) (ho : zIs G H a0 8) (hc : zC G (d - 1) M_St_isLatin1 [(.ref a0)] H (zPi P)) (kk : ∀ (r : Int32) (H1 : Heap), P r H1 → zOk G H1 → H.size ≤ H1.size → zT H ≤ zT H1 → zW G d M_St_charAt 4 [some (.ref a0), o1] ((.int r) :: st) H1 Q) : zW G d M_St_charAt 0 [some (.ref a0), o1] st H Q :=
  zw_aload_n (i := 0) dSt_charAt_0 rfl rfl zRf_ref <| zw_callV [] _ dSt_charAt_1 hd zk_St_492 ho rfl rfl hl hc (zPi_k kk)
theorem sSt_charAt_4 {G : zG} {d : Nat} {Q : Option Value → Heap → Prop} {H : Heap} {st : List Value} {o0 : Option Value} {o1 : Option Value} {xs0 : Int32} (kt : (xs0 = 0) → zW G d M_St_charAt 16 [o0, o1] st H Q) (kf : (¬ xs0 = 0) → zW G d M_St_charAt 7 [o0, o1] st H Q) : zW G d M_St_charAt 4 [o0, o1] ((.int xs0) :: st) H Q :=
  zw_if_eq 16 dSt_charAt_4 (by decide) kt kf
theorem sSt_charAt_7 {G : zG} {d : Nat} {Q : Option Value → Heap → Prop} {H : Heap} {st : List Value} {a0 : Nat} {vf1 : Value} {x1 : Int32} {P : Int32 → Heap → Prop} (hrf1 : zRf vf1 := by first | exact zRf_ref | exact zRf_null | exact zRf_rf _ | assumption) (hf1 : zFd G H a0 8 0 vf1) (hd : 1 ≤ d) (hl : st.length ≤ 4) (hc : zC G (d - 1) M_L1_charAt [vf1, (.int x1)] H (zPi P)) (kk : ∀ (r : Int32) (H1 : Heap), P r H1 → zOk G H1 → H.size ≤ H1.size → zT H ≤ zT H1 → zW G d M_St_charAt 15 [some (.ref a0), some (.int x1)] ((.int r) :: st) H1 Q) : zW G d M_St_charAt 7 [some (.ref a0), some (.int x1)] st H Q :=
  zw_aload_n (i := 0) dSt_charAt_7 rfl rfl zRf_ref <| zw_getf dSt_charAt_8 zf_St_9 hf1 <| zw_iload_n (i := 1) dSt_charAt_11 rfl rfl <| zw_callS [vf1, (.int x1)] _ dSt_charAt_12 hd zk_St_495 rfl rfl hl hc (zPi_k kk)
theorem sSt_charAt_15 {G : zG} {d : Nat} {Q : Option Value → Heap → Prop} {H : Heap} {o0 : Option Value} {o1 : Option Value} {xs0 : Int32} (hn : narrow .char (.int xs0) = .int xs0) (hq : Q (some (.int xs0)) H) : zW G d M_St_charAt 15 [o0, o1] ((.int xs0) :: []) H Q :=
  zw_iret dSt_charAt_15 .char rfl hn hq
theorem sSt_charAt_16 {G : zG} {d : Nat} {Q : Option Value → Heap → Prop} {H : Heap} {st : List Value} {a0 : Nat} {vf1 : Value} {x1 : Int32} {P : Int32 → Heap → Prop} (hrf1 : zRf vf1 := by first | exact zRf_ref | exact zRf_null | exact zRf_rf _ | assumption) (hf1 : zFd G H a0 8 0 vf1) (hd : 1 ≤ d) (hl : st.length ≤ 4) (hc : zC G (d - 1) M_U16_charAt [vf1, (.int x1)] H (zPi P)) (kk : ∀ (r : Int32) (H1 : Heap), P r H1 → zOk G H1 → H.size ≤ H1.size → zT H ≤ zT H1 → zW G d M_St_charAt 24 [some (.ref a0), some (.int x1)] ((.int r) :: st) H1 Q) : zW G d M_St_charAt 16 [some (.ref a0), some (.int x1)] st H Q :=
  zw_aload_n (i := 0) dSt_charAt_16 rfl rfl zRf_ref <| zw_getf dSt_charAt_17 zf_St_9 hf1 <| zw_iload_n (i := 1) dSt_charAt_20 rfl rfl <| zw_callS [vf1, (.int x1)] _ dSt_charAt_21 hd zk_St_498 rfl rfl hl hc (zPi_k kk)
theorem sSt_charAt_24 {G : zG} {d : Nat} {Q : Option Value → Heap → Prop} {H : Heap} {o0 : Option Value} {o1 : Option Value} {xs0 : Int32} (hn : narrow .char (.int xs0) = .int xs0) (hq : Q (some (.int xs0)) H) : zW G d M_St_charAt 24 [o0, o1] ((.int xs0) :: []) H Q :=
  zw_iret dSt_charAt_24 .char rfl hn hq
theorem sSt_isLatin1_0 {G : zG} {d : Nat} {Q : Option Value → Heap → Prop} {H : Heap} {st : List Value} {o0 : Option Value} (hz1 : va_Z "java/lang/String" "COMPACT_STRINGS" "Z" (.int 1) (zFr G) (zS G) (zS G).heap) (kt : ((1 : Int32) = 0) → zW G d M_St_isLatin1 17 [o0] st H Q) (kf : (¬ (1 : Int32) = 0) → zW G d M_St_isLatin1 6 [o0] st H Q) : zW G d M_St_isLatin1 0 [o0] st H Q :=
  zw_gets dSt_isLatin1_0 hz1 (zt2 211 rfl) (Or.inl rfl) <| zw_if_eq 17 dSt_isLatin1_3 (by decide) kt kf
theorem sSt_isLatin1_6 {G : zG} {d : Nat} {Q : Option Value → Heap → Prop} {H : Heap} {st : List Value} {a0 : Nat} {xf1 : Int32} (hf1 : zFd G H a0 8 1 (.int xf1)) (kt : (¬ xf1 = 0) → zW G d M_St_isLatin1 17 [some (.ref a0)] st H Q) (kf : (xf1 = 0) → zW G d M_St_isLatin1 13 [some (.ref a0)] st H Q) : zW G d M_St_isLatin1 6 [some (.ref a0)] st H Q :=
  zw_aload_n (i := 0) dSt_isLatin1_6 rfl rfl zRf_ref <| zw_getf dSt_isLatin1_7 zf_St_15 hf1 <| zw_if_ne 17 dSt_isLatin1_10 (by decide) kt kf
theorem sSt_isLatin1_13 {G : zG} {d : Nat} {Q : Option Value → Heap → Prop} {H : Heap} {o0 : Option Value} (hn : narrow .boolean (.int (1 : Int32)) = .int (1 : Int32)) (hq : Q (some (.int (1 : Int32))) H) : zW G d M_St_isLatin1 13 [o0] [] H Q :=
  zw_iconst (1 : Int32) dSt_isLatin1_13 zki_1 <| zw_goto 18 dSt_isLatin1_14 (by decide) <| zw_iret dSt_isLatin1_18 .boolean rfl hn hq
theorem sSt_isLatin1_17 {G : zG} {d : Nat} {Q : Option Value → Heap → Prop} {H : Heap} {o0 : Option Value} (hn : narrow .boolean (.int (0 : Int32)) = .int (0 : Int32)) (hq : Q (some (.int (0 : Int32))) H) : zW G d M_St_isLatin1 17 [o0] [] H Q :=
  zw_iconst (0 : Int32) dSt_isLatin1_17 zki_0 <| zw_iret dSt_isLatin1_18 .boolean rfl hn hq
theorem sSt_isLatin1_18 {G : zG} {d : Nat} {Q : Option Value → Heap → Prop} {H : Heap} {o0 : Option Value} {xs0 : Int32} (hn : narrow .boolean (.int xs0) = .int xs0) (hq : Q (some (.int xs0)) H) : zW G d M_St_isLatin1 18 [o0] ((.int xs0) :: []) H Q :=
  zw_iret dSt_isLatin1_18 .boolean rfl hn hq
theorem sSt_indexOf_0_0 {G : zG} {d : Nat} {Q : Option Value → Heap → Prop} {H : Heap} {st : List Value} {a0 : Nat} {x1 : Int32} {P : Int32 → Heap → Prop} (hd : 1 ≤ d) (hl : st.length ≤ 4) (ho : zIs G H a0 8) (hc : zC G (d - 1) M_St_indexOf_1 [(.ref a0), (.int x1), (.int (0 : Int32))] H (zPi P)) (kk : ∀ (r : Int32) (H1 : Heap), P r H1 → zOk G H1 → H.size ≤ H1.size → zT H ≤ zT H1 → zW G d M_St_indexOf_0 6 [some (.ref a0), some (.int x1)] ((.int r) :: st) H1 Q) : zW G d M_St_indexOf_0 0 [some (.ref a0), some (.int x1)] st H Q :=
  zw_aload_n (i := 0) dSt_indexOf_0_0 rfl rfl zRf_ref <| zw_iload_n (i := 1) dSt_indexOf_0_1 rfl rfl <| zw_iconst (0 : Int32) dSt_indexOf_0_2 zki_0 <| zw_callV [(.int x1), (.int (0 : Int32))] _ dSt_indexOf_0_3 hd zk_St_633 ho rfl rfl hl hc (zPi_k kk)
theorem sSt_indexOf_0_6 {G : zG} {d : Nat} {Q : Option Value → Heap → Prop} {H : Heap} {o0 : Option Value} {o1 : Option Value} {xs0 : Int32} (hq : Q (some (.int xs0)) H) : zW G d M_St_indexOf_0 6 [o0, o1] ((.int xs0) :: []) H Q :=
  zw_iret dSt_indexOf_0_6 .int rfl rfl hq
theorem sSt_indexOf_1_0 {G : zG} {d : Nat} {Q : Option Value → Heap → Prop} {H : Heap} {st : List Value} {o1 : Option Value} {o2 : Option Value} {a0 : Nat} {P : Int32 → Heap → Prop} (hd : 1 ≤ d) (hl : st.length ≤ 4) (ho : zIs G H a0 8) (hc : zC G (d - 1) M_St_isLatin1 [(.ref a0)] H (zPi P)) (kk : ∀ (r : Int32) (H1 : Heap), P r H1 → zOk G H1 → H.size ≤ H1.size → zT H ≤ zT H1 → zW G d M_St_indexOf_1 4 [some (.ref a0), o1, o2] ((.int r) :: st) H1 Q) : zW G d M_St_indexOf_1 0 [some (.ref a0), o1, o2] st H Q :=
  zw_aload_n (i := 0) dSt_indexOf_1_0 rfl rfl zRf_ref <| zw_callV [] _ dSt_indexOf_1_1 hd zk_St_492 ho rfl rfl hl hc (zPi_k kk)
theorem sSt_indexOf_1_4 {G : zG} {d : Nat} {Q : Option Value → Heap → Prop} {H : Heap} {st : List Value} {o0 : Option Value} {o1 : Option Value} {o2 : Option Value} {xs0 : Int32} (kt : (xs0 = 0) → zW G d M_St_indexOf_1 23 [o0, o1, o2] st H Q) (kf : (¬ xs0 = 0) → zW G d M_St_indexOf_1 7 [o0, o1, o2] st H Q) : zW G d M_St_indexOf_1 4 [o0, o1, o2] ((.int xs0) :: st) H Q :=
  zw_if_eq 23 dSt_indexOf_1_4 (by decide) kt kf
theorem sSt_indexOf_1_7 {G : zG} {d : Nat} {Q : Option Value → Heap → Prop} {H : Heap} {st : List Value} {a0 : Nat} {vf1 : Value} {x1 : Int32} {x2 : Int32} {P : Int32 → Heap → Prop} (hrf1 : zRf vf1 := by first | exact zRf_ref | exact zRf_null | exact zRf_rf _ | assumption) (hf1 : zFd G H a0 8 0 vf1) (hd : 1 ≤ d) (hl : ((.int x2) :: (.int x1) :: vf1 :: st).length ≤ 4) (ho : zIs G H a0 8) (hc : zC G (d - 1) M_St_length [(.ref a0)] H (zPi P)) (kk : ∀ (r : Int32) (H1 : Heap), P r H1 → zOk G H1 → H.size ≤ H1.size → zT H ≤ zT H1 → zW G d M_St_indexOf_1 17 [some (.ref a0), some (.int x1), some (.int x2)] ((.int r) :: (.int x2) :: (.int x1) :: vf1 :: st) H1 Q) : zW G d M_St_indexOf_1 7 [some (.ref a0), some (.int x1), some (.int x2)] st H Q :=
  zw_aload_n (i := 0) dSt_indexOf_1_7 rfl rfl zRf_ref <| zw_getf dSt_indexOf_1_8 zf_St_9 hf1 <| zw_iload_n (i := 1) dSt_indexOf_1_11 rfl rfl <| zw_iload_n (i := 2) dSt_indexOf_1_12 rfl rfl <| zw_aload_n (i := 0) dSt_indexOf_1_13 rfl rfl zRf_ref <| zw_callV [] _ dSt_indexOf_1_14 hd zk_St_505 ho rfl rfl hl hc (zPi_k kk)
theorem sSt_indexOf_1_17 {G : zG} {d : Nat} {Q : Option Value → Heap → Prop} {H : Heap} {st : List Value} {o0 : Option Value} {o1 : Option Value} {o2 : Option Value} {xs0 : Int32} {xs1 : Int32} {xs2 : Int32} {vs3 : Value} {P : Int32 → Heap → Prop} (hrs3 : zRf vs3 := by first | exact zRf_ref | exact zRf_null | exact zRf_rf _ | assumption) (hd : 1 ≤ d) (hl : st.length ≤ 4) (hc : zC G (d - 1) M_L1_indexOf [vs3, (.int xs2), (.int xs1), (.int xs0)] H (zPi P)) (kk : ∀ (r : Int32) (H1 : Heap), P r H1 → zOk G H1 → H.size ≤ H1.size → zT H ≤ zT H1 → zW G d M_St_indexOf_1 20 [o0, o1, o2] ((.int r) :: st) H1 Q) : zW G d M_St_indexOf_1 17 [o0, o1, o2] ((.int xs0) :: (.int xs1) :: (.int xs2) :: vs3 :: st) H Q :=
  zw_callS [vs3, (.int xs2), (.int xs1), (.int xs0)] _ dSt_indexOf_1_17 hd zk_St_637 rfl rfl hl hc (zPi_k kk)
theorem sSt_indexOf_1_20 {G : zG} {d : Nat} {Q : Option Value → Heap → Prop} {H : Heap} {o0 : Option Value} {o1 : Option Value} {o2 : Option Value} {xs0 : Int32} (hq : Q (some (.int xs0)) H) : zW G d M_St_indexOf_1 20 [o0, o1, o2] ((.int xs0) :: []) H Q :=
  zw_goto 36 dSt_indexOf_1_20 (by decide) <| zw_iret dSt_indexOf_1_36 .int rfl rfl hq
theorem sSt_indexOf_1_23 {G : zG} {d : Nat} {Q : Option Value → Heap → Prop} {H : Heap} {st : List Value} {a0 : Nat} {vf1 : Value} {x1 : Int32} {x2 : Int32} {P : Int32 → Heap → Prop} (hrf1 : zRf vf1 := by first | exact zRf_ref | exact zRf_null | exact zRf_rf _ | assumption) (hf1 : zFd G H a0 8 0 vf1) (hd : 1 ≤ d) (hl : ((.int x2) :: (.int x1) :: vf1 :: st).length ≤ 4) (ho : zIs G H a0 8) (hc : zC G (d - 1) M_St_length [(.ref a0)] H (zPi P)) (kk : ∀ (r : Int32) (H1 : Heap), P r H1 → zOk G H1 → H.size ≤ H1.size → zT H ≤ zT H1 → zW G d M_St_indexOf_1 33 [some (.ref a0), some (.int x1), some (.int x2)] ((.int r) :: (.int x2) :: (.int x1) :: vf1 :: st) H1 Q) : zW G d M_St_indexOf_1 23 [some (.ref a0), some (.int x1), some (.int x2)] st H Q :=
  zw_aload_n (i := 0) dSt_indexOf_1_23 rfl rfl zRf_ref <| zw_getf dSt_indexOf_1_24 zf_St_9 hf1 <| zw_iload_n (i := 1) dSt_indexOf_1_27 rfl rfl <| zw_iload_n (i := 2) dSt_indexOf_1_28 rfl rfl <| zw_aload_n (i := 0) dSt_indexOf_1_29 rfl rfl zRf_ref <| zw_callV [] _ dSt_indexOf_1_30 hd zk_St_505 ho rfl rfl hl hc (zPi_k kk)
theorem sSt_indexOf_1_33 {G : zG} {d : Nat} {Q : Option Value → Heap → Prop} {H : Heap} {st : List Value} {o0 : Option Value} {o1 : Option Value} {o2 : Option Value} {xs0 : Int32} {xs1 : Int32} {xs2 : Int32} {vs3 : Value} {P : Int32 → Heap → Prop} (hrs3 : zRf vs3 := by first | exact zRf_ref | exact zRf_null | exact zRf_rf _ | assumption) (hd : 1 ≤ d) (hl : st.length ≤ 4) (hc : zC G (d - 1) M_U16_indexOf [vs3, (.int xs2), (.int xs1), (.int xs0)] H (zPi P)) (kk : ∀ (r : Int32) (H1 : Heap), P r H1 → zOk G H1 → H.size ≤ H1.size → zT H ≤ zT H1 → zW G d M_St_indexOf_1 36 [o0, o1, o2] ((.int r) :: st) H1 Q) : zW G d M_St_indexOf_1 33 [o0, o1, o2] ((.int xs0) :: (.int xs1) :: (.int xs2) :: vs3 :: st) H Q :=
  zw_callS [vs3, (.int xs2), (.int xs1), (.int xs0)] _ dSt_indexOf_1_33 hd zk_St_640 rfl rfl hl hc (zPi_k kk)
theorem sSt_indexOf_1_36 {G : zG} {d : Nat} {Q : Option Value → Heap → Prop} {H : Heap} {o0 : Option Value} {o1 : Option Value} {o2 : Option Value} {xs0 : Int32} (hq : Q (some (.int xs0)) H) : zW G d M_St_indexOf_1 36 [o0, o1, o2] ((.int xs0) :: []) H Q :=
  zw_iret dSt_indexOf_1_36 .int rfl rfl hq
theorem sSt_checkBoundsBeginEnd_0 {G : zG} {d : Nat} {Q : Option Value → Heap → Prop} {H : Heap} {st : List Value} {x0 : Int32} {x1 : Int32} {x2 : Int32} {vf1 : Value} {P : Int32 → Heap → Prop} (hrf1 : zRf vf1 := by first | exact zRf_ref | exact zRf_null | exact zRf_rf _ | assumption) (hz1 : va_Z "jdk/internal/util/Preconditions" "SIOOBE_FORMATTER" "Ljava/util/function/BiFunction;" vf1 (zFr G) (zS G) (zS G).heap) (hd : 1 ≤ d) (hl : st.length ≤ 4) (hc : zC G (d - 1) M_Pc_checkFromToIndex [(.int x0), (.int x1), (.int x2), vf1] H (zPi P)) (kk : ∀ (r : Int32) (H1 : Heap), P r H1 → zOk G H1 → H.size ≤ H1.size → zT H ≤ zT H1 → zW G d M_St_checkBoundsBeginEnd 9 [some (.int x0), some (.int x1), some (.int x2)] ((.int r) :: st) H1 Q) : zW G d M_St_checkBoundsBeginEnd 0 [some (.int x0), some (.int x1), some (.int x2)] st H Q :=
  zw_iload_n (i := 0) dSt_checkBoundsBeginEnd_0 rfl rfl <| zw_iload_n (i := 1) dSt_checkBoundsBeginEnd_1 rfl rfl <| zw_iload_n (i := 2) dSt_checkBoundsBeginEnd_2 rfl rfl <| zw_gets dSt_checkBoundsBeginEnd_3 hz1 (zt2 108 rfl) (Or.inl rfl) <| zw_callS [(.int x0), (.int x1), (.int x2), vf1] _ dSt_checkBoundsBeginEnd_6 hd zk_St_1062 rfl rfl hl hc (zPi_k kk)
theorem sSt_checkBoundsBeginEnd_9 {G : zG} {d : Nat} {Q : Option Value → Heap → Prop} {H : Heap} {o0 : Option Value} {o1 : Option Value} {o2 : Option Value} {ws0 : Value} (hcs0 : ws0.category = 1 := by first | rfl | exact zRf.cat (by assumption)) (hq : Q none H) : zW G d M_St_checkBoundsBeginEnd 9 [o0, o1, o2] (ws0 :: []) H Q :=
  zw_pop dSt_checkBoundsBeginEnd_9 hcs0 <| zw_vret dSt_checkBoundsBeginEnd_10 rfl hq
theorem sSt_substring_0_0 {G : zG} {d : Nat} {Q : Option Value → Heap → Prop} {H : Heap} {st : List Value} {o1 : Option Value} {o2 : Option Value} {o3 : Option Value} {o4 : Option Value} {a0 : Nat} {P : Int32 → Heap → Prop} (hd : 1 ≤ d) (hl : st.length ≤ 4) (ho : zIs G H a0 8) (hc : zC G (d - 1) M_St_length [(.ref a0)] H (zPi P)) (kk : ∀ (r : Int32) (H1 : Heap), P r H1 → zOk G H1 → H.size ≤ H1.size → zT H ≤ zT H1 → zW G d M_St_substring_0 4 [some (.ref a0), o1, o2, o3, o4] ((.int r) :: st) H1 Q) : zW G d M_St_substring_0 0 [some (.ref a0), o1, o2, o3, o4] st H Q :=
  zw_aload_n (i := 0) dSt_substring_0_0 rfl rfl zRf_ref <| zw_callV [] _ dSt_substring_0_1 hd zk_St_505 ho rfl rfl hl hc (zPi_k kk)
theorem sSt_substring_0_4 {G : zG} {d : Nat} {Q : Option Value → Heap → Prop} {H : Heap} {st : List Value} {o0 : Option Value} {o3 : Option Value} {o4 : Option Value} {xs0 : Int32} {x1 : Int32} {x2 : Int32} {P : Heap → Prop} (hd : 1 ≤ d) (hl : st.length ≤ 4) (hc : zC G (d - 1) M_St_checkBoundsBeginEnd [(.int x1), (.int x2), (.int xs0)] H (zPv P)) (kk : ∀ H1 : Heap, P H1 → zOk G H1 → H.size ≤ H1.size → zT H ≤ zT H1 → zW G d M_St_substring_0 11 [o0, some (.int x1), some (.int x2), some (.int xs0), o4] st H1 Q) : zW G d M_St_substring_0 4 [o0, some (.int x1), some (.int x2), o3, o4] ((.int xs0) :: st) H Q :=
  zw_istore_n (i := 3) dSt_substring_0_4 rfl (Nat.le_of_ble_eq_true rfl) <| zw_iload_n (i := 1) dSt_substring_0_5 rfl rfl <| zw_iload_n (i := 2) dSt_substring_0_6 rfl rfl <| zw_iload_n (i := 3) dSt_substring_0_7 rfl rfl <| zw_callS [(.int x1), (.int x2), (.int xs0)] _ dSt_substring_0_8 hd zk_St_521 rfl rfl hl hc (zPv_k kk)
theorem sSt_substring_0_11 {G : zG} {d : Nat} {Q : Option Value → Heap → Prop} {H : Heap} {st : List Value} {o0 : Option Value} {o2 : Option Value} {o3 : Option Value} {o4 : Option Value} {x1 : Int32} (kt : (¬ x1 = 0) → zW G d M_St_substring_0 22 [o0, some (.int x1), o2, o3, o4] st H Q) (kf : (x1 = 0) → zW G d M_St_substring_0 15 [o0, some (.int x1), o2, o3, o4] st H Q) : zW G d M_St_substring_0 11 [o0, some (.int x1), o2, o3, o4] st H Q :=
  zw_iload_n (i := 1) dSt_substring_0_11 rfl rfl <| zw_if_ne 22 dSt_substring_0_12 (by decide) kt kf
theorem sSt_substring_0_15 {G : zG} {d : Nat} {Q : Option Value → Heap → Prop} {H : Heap} {st : List Value} {o0 : Option Value} {o1 : Option Value} {o4 : Option Value} {x2 : Int32} {x3 : Int32} (kt : (¬ x2 = x3) → zW G d M_St_substring_0 22 [o0, o1, some (.int x2), some (.int x3), o4] st H Q) (kf : (x2 = x3) → zW G d M_St_substring_0 20 [o0, o1, some (.int x2), some (.int x3), o4] st H Q) : zW G d M_St_substring_0 15 [o0, o1, some (.int x2), some (.int x3), o4] st H Q :=
  zw_iload_n (i := 2) dSt_substring_0_15 rfl rfl <| zw_iload_n (i := 3) dSt_substring_0_16 rfl rfl <| zw_icmp_ne 22 dSt_substring_0_17 (by decide) kt kf
theorem sSt_substring_0_20 {G : zG} {d : Nat} {Q : Option Value → Heap → Prop} {H : Heap} {o1 : Option Value} {o2 : Option Value} {o3 : Option Value} {o4 : Option Value} {v0 : Value} (hr0 : zRf v0 := by first | exact zRf_ref | exact zRf_null | exact zRf_rf _ | assumption) (hq : Q (some v0) H) : zW G d M_St_substring_0 20 [some v0, o1, o2, o3, o4] [] H Q :=
  zw_aload_n (i := 0) dSt_substring_0_20 rfl rfl hr0 <| zw_aret dSt_substring_0_21 (.object "java/lang/String") rfl (Or.inl ⟨_, rfl⟩) hr0 hq
theorem sSt_substring_0_22 {G : zG} {d : Nat} {Q : Option Value → Heap → Prop} {H : Heap} {st : List Value} {o3 : Option Value} {o4 : Option Value} {x2 : Int32} {x1 : Int32} {a0 : Nat} {P : Int32 → Heap → Prop} (hd : 1 ≤ d) (hl : st.length ≤ 4) (ho : zIs G H a0 8) (hc : zC G (d - 1) M_St_isLatin1 [(.ref a0)] H (zPi P)) (kk : ∀ (r : Int32) (H1 : Heap), P r H1 → zOk G H1 → H.size ≤ H1.size → zT H ≤ zT H1 → zW G d M_St_substring_0 31 [some (.ref a0), some (.int x1), some (.int x2), o3, some (.int (x2 - x1))] ((.int r) :: st) H1 Q) : zW G d M_St_substring_0 22 [some (.ref a0), some (.int x1), some (.int x2), o3, o4] st H Q :=
  zw_iload_n (i := 2) dSt_substring_0_22 rfl rfl <| zw_iload_n (i := 1) dSt_substring_0_23 rfl rfl <| zw_isub dSt_substring_0_24 <| zw_istore (i := 4) dSt_substring_0_25 (Nat.le_of_ble_eq_true rfl) <| zw_aload_n (i := 0) dSt_substring_0_27 rfl rfl zRf_ref <| zw_callV [] _ dSt_substring_0_28 hd zk_St_492 ho rfl rfl hl hc (zPi_k kk)
theorem sSt_substring_0_31 {G : zG} {d : Nat} {Q : Option Value → Heap → Prop} {H : Heap} {st : List Value} {o0 : Option Value} {o1 : Option Value} {o2 : Option Value} {o3 : Option Value} {o4 : Option Value} {xs0 : Int32} (kt : (xs0 = 0) → zW G d M_St_substring_0 47 [o0, o1, o2, o3, o4] st H Q) (kf : (¬ xs0 = 0) → zW G d M_St_substring_0 34 [o0, o1, o2, o3, o4] st H Q) : zW G d M_St_substring_0 31 [o0, o1, o2, o3, o4] ((.int xs0) :: st) H Q :=
  zw_if_eq 47 dSt_substring_0_31 (by decide) kt kf
theorem sSt_substring_0_34 {G : zG} {d : Nat} {Q : Option Value → Heap → Prop} {H : Heap} {st : List Value} {o2 : Option Value} {o3 : Option Value} {a0 : Nat} {vf1 : Value} {x1 : Int32} {x4 : Int32} {P : Value → Heap → Prop} (hrf1 : zRf vf1 := by first | exact zRf_ref | exact zRf_null | exact zRf_rf _ | assumption) (hf1 : zFd G H a0 8 0 vf1) (hd : 1 ≤ d) (hl : st.length ≤ 4) (hc : zC G (d - 1) M_L1_newString [vf1, (.int x1), (.int x4)] H (zPr P)) (kk : ∀ (r : Value) (H1 : Heap), zRf r → P r H1 → zOk G H1 → H.size ≤ H1.size → zT H ≤ zT H1 → zW G d M_St_substring_0 44 [some (.ref a0), some (.int x1), o2, o3, some (.int x4)] (r :: st) H1 Q) : zW G d M_St_substring_0 34 [some (.ref a0), some (.int x1), o2, o3, some (.int x4)] st H Q :=
  zw_aload_n (i := 0) dSt_substring_0_34 rfl rfl zRf_ref <| zw_getf dSt_substring_0_35 zf_St_9 hf1 <| zw_iload_n (i := 1) dSt_substring_0_38 rfl rfl <| zw_iload (i := 4) dSt_substring_0_39 rfl <| zw_callS [vf1, (.int x1), (.int x4)] _ dSt_substring_0_41 hd zk_St_685 rfl rfl hl hc (zPr_k kk)
theorem sSt_substring_0_44 {G : zG} {d : Nat} {Q : Option Value → Heap → Prop} {H : Heap} {o0 : Option Value} {o1 : Option Value} {o2 : Option Value} {o3 : Option Value} {o4 : Option Value} {vs0 : Value} (hrs0 : zRf vs0 := by first | exact zRf_ref | exact zRf_null | exact zRf_rf _ | assumption) (hq : Q (some vs0) H) : zW G d M_St_substring_0 44 [o0, o1, o2, o3, o4] (vs0 :: []) H Q :=
  zw_goto 57 dSt_substring_0_44 (by decide) <| zw_aret dSt_substring_0_57 (.object "java/lang/String") rfl (Or.inl ⟨_, rfl⟩) hrs0 hq
theorem sSt_substring_0_47 {G : zG} {d : Nat} {Q : Option Value → Heap → Prop} {H : Heap} {st : List Value} {o2 : Option Value} {o3 : Option Value} {a0 : Nat} {vf1 : Value} {x1 : Int32} {x4 : Int32} {P : Value → Heap → Prop} (hrf1 : zRf vf1 := by first | exact zRf_ref | exact zRf_null | exact zRf_rf _ | assumption) (hf1 : zFd G H a0 8 0 vf1) (hd : 1 ≤ d) (hl : st.length ≤ 4) (hc : zC G (d - 1) M_U16_newString [vf1, (.int x1), (.int x4)] H (zPr P)) (kk : ∀ (r : Value) (H1 : Heap), zRf r → P r H1 → zOk G H1 → H.size ≤ H1.size → zT H ≤ zT H1 → zW G d M_St_substring_0 57 [some (.ref a0), some (.int x1), o2, o3, some (.int x4)] (r :: st) H1 Q) : zW G d M_St_substring_0 47 [some (.ref a0), some (.int x1), o2, o3, some (.int x4)] st H Q :=
  zw_aload_n (i := 0) dSt_substring_0_47 rfl rfl zRf_ref <| zw_getf dSt_substring_0_48 zf_St_9 hf1 <| zw_iload_n (i := 1) dSt_substring_0_51 rfl rfl <| zw_iload (i := 4) dSt_substring_0_52 rfl <| zw_callS [vf1, (.int x1), (.int x4)] _ dSt_substring_0_54 hd zk_St_689 rfl rfl hl hc (zPr_k kk)
theorem sSt_substring_0_57 {G : zG} {d : Nat} {Q : Option Value → Heap → Prop} {H : Heap} {o0 : Option Value} {o1 : Option Value} {o2 : Option Value} {o3 : Option Value} {o4 : Option Value} {vs0 : Value} (hrs0 : zRf vs0 := by first | exact zRf_ref | exact zRf_null | exact zRf_rf _ | assumption) (hq : Q (some vs0) H) : zW G d M_St_substring_0 57 [o0, o1, o2, o3, o4] (vs0 :: []) H Q :=
  zw_aret dSt_substring_0_57 (.object "java/lang/String") rfl (Or.inl ⟨_, rfl⟩) hrs0 hq
theorem sSt_init_2_0 {G : zG} {d : Nat} {Q : Option Value → Heap → Prop} {H : Heap} {st : List Value} {o1 : Option Value} {o2 : Option Value} {a0 : Nat} (hd : 1 ≤ d) (hl : st.length ≤ 4) (kk : zW G d M_St_init_2 4 [some (.ref a0), o1, o2] st H Q) : zW G d M_St_init_2 0 [some (.ref a0), o1, o2] st H Q :=
  zw_aload_n (i := 0) dSt_init_2_0 rfl rfl zRf_ref <| zw_objInit dSt_init_2_1 hd (zt2 194 rfl) zo_inst zo_code hl kk
theorem sSt_init_2_4 {G : zG} {d : Nat} {Q : Option Value → Heap → Prop} {H : Heap} {st : List Value} {o2 : Option Value} {a0 : Nat} {v1 : Value} {b0 : Value} {b1 : Value} {b2 : Value} {b3 : Value} (hr1 : zRf v1 := by first | exact zRf_ref | exact zRf_null | exact zRf_rf _ | assumption) (ho : zObj G H a0 8 [b0, b1, b2, b3]) (hw : zFr G a0) (kk : ∀ H1 : Heap, zObj G H1 a0 8 [v1, b1, b2, b3] → zUp a0 H H1 → zW G d M_St_init_2 9 [some (.ref a0), some v1, o2] st H1 Q) : zW G d M_St_init_2 4 [some (.ref a0), some v1, o2] st H Q :=
  zw_aload_n (i := 0) dSt_init_2_4 rfl rfl zRf_ref <| zw_aload_n (i := 1) dSt_init_2_5 rfl rfl hr1 <| zw_putf (k := 0) dSt_init_2_6 zp_St_init_2_9 ho (Nat.le_of_ble_eq_true rfl) (Nat.le_of_ble_eq_true rfl) hw (zNarA hr1) (zFitA hr1) kk
theorem sSt_init_2_9 {G : zG} {d : Nat} {Q : Option Value → Heap → Prop} {H : Heap} {st : List Value} {o1 : Option Value} {a0 : Nat} {x2 : Int32} {b0 : Value} {b1 : Value} {b2 : Value} {b3 : Value} (ho : zObj G H a0 8 [b0, b1, b2, b3]) (hw : zFr G a0) (hn : narrow .byte (.int x2) = (.int x2)) (hfit : fits .byte (.int x2) = true) (kk : ∀ H1 : Heap, zObj G H1 a0 8 [b0, (.int x2), b2, b3] → zUp a0 H H1 → zW G d M_St_init_2 14 [some (.ref a0), o1, some (.int x2)] st H1 Q) : zW G d M_St_init_2 9 [some (.ref a0), o1, some (.int x2)] st H Q :=
  zw_aload_n (i := 0) dSt_init_2_9 rfl rfl zRf_ref <| zw_iload_n (i := 2) dSt_init_2_10 rfl rfl <| zw_putf (k := 1) dSt_init_2_11 zp_St_init_2_15 ho (Nat.le_of_ble_eq_true rfl) (Nat.le_of_ble_eq_true rfl) hw hn hfit kk
theorem sSt_init_2_14 {G : zG} {d : Nat} {Q : Option Value → Heap → Prop} {H : Heap} {o0 : Option Value} {o1 : Option Value} {o2 : Option Value} (hq : Q none H) : zW G d M_St_init_2 14 [o0, o1, o2] [] H Q :=
  zw_vret dSt_init_2_14 rfl hq
theorem sSt_substring_1_0 {G : zG} {d : Nat} {Q : Option Value → Heap → Prop} {H : Heap} {st : List Value} {a0 : Nat} {x1 : Int32} {P : Int32 → Heap → Prop} (hd : 1 ≤ d) (hl : ((.int x1) :: (.ref a0) :: st).length ≤ 4) (ho : zIs G H a0 8) (hc : zC G (d - 1) M_St_length [(.ref a0)] H (zPi P)) (kk : ∀ (r : Int32) (H1 : Heap), P r H1 → zOk G H1 → H.size ≤ H1.size → zT H ≤ zT H1 → zW G d M_St_substring_1 6 [some (.ref a0), some (.int x1)] ((.int r) :: (.int x1) :: (.ref a0) :: st) H1 Q) : zW G d M_St_substring_1 0 [some (.ref a0), some (.int x1)] st H Q :=
  zw_aload_n (i := 0) dSt_substring_1_0 rfl rfl zRf_ref <| zw_iload_n (i := 1) dSt_substring_1_1 rfl rfl <| zw_aload_n (i := 0) dSt_substring_1_2 rfl rfl zRf_ref <| zw_callV [] _ dSt_substring_1_3 hd zk_St_505 ho rfl rfl hl hc (zPi_k kk)
theorem sSt_substring_1_6 {G : zG} {d : Nat} {Q : Option Value → Heap → Prop} {H : Heap} {st : List Value} {o0 : Option Value} {o1 : Option Value} {xs0 : Int32} {xs1 : Int32} {as2 : Nat} {P : Value → Heap → Prop} (hd : 1 ≤ d) (hl : st.length ≤ 4) (ho : zIs G H as2 8) (hc : zC G (d - 1) M_St_substring_0 [(.ref as2), (.int xs1), (.int xs0)] H (zPr P)) (kk : ∀ (r : Value) (H1 : Heap), zRf r → P r H1 → zOk G H1 → H.size ≤ H1.size → zT H ≤ zT H1 → zW G d M_St_substring_1 9 [o0, o1] (r :: st) H1 Q) : zW G d M_St_substring_1 6 [o0, o1] ((.int xs0) :: (.int xs1) :: (.ref as2) :: st) H Q :=
  zw_callV [(.int xs1), (.int xs0)] _ dSt_substring_1_6 hd zk_St_681 ho rfl rfl hl hc (zPr_k kk)
theorem sSt_substring_1_9 {G : zG} {d : Nat} {Q : Option Value → Heap → Prop} {H : Heap} {o0 : Option Value} {o1 : Option Value} {vs0 : Value} (hrs0 : zRf vs0 := by first | exact zRf_ref | exact zRf_null | exact zRf_rf _ | assumption) (hq : Q (some vs0) H) : zW G d M_St_substring_1 9 [o0, o1] (vs0 :: []) H Q :=
  zw_aret dSt_substring_1_9 (.object "java/lang/String") rfl (Or.inl ⟨_, rfl⟩) hrs0 hq
theorem sSt_isEmpty_0 {G : zG} {d : Nat} {Q : Option Value → Heap → Prop} {H : Heap} {st : List Value} {a0 : Nat} {af1 : Nat} {n2 : Nat} {t2 : FieldType} {g2 : Nat → Value} (hf1 : zFd G H a0 8 0 (.ref af1)) (ha2 : zArr G H af1 t2 n2 g2) (kt : (¬ (nI n2) = 0) → zW G d M_St_isEmpty 12 [some (.ref a0)] st H Q) (kf : ((nI n2) = 0) → zW G d M_St_isEmpty 8 [some (.ref a0)] st H Q) : zW G d M_St_isEmpty 0 [some (.ref a0)] st H Q :=
  zw_aload_n (i := 0) dSt_isEmpty_0 rfl rfl zRf_ref <| zw_getf dSt_isEmpty_1 zf_St_9 hf1 <| zw_alen dSt_isEmpty_4 ha2 <| zw_if_ne 12 dSt_isEmpty_5 (by decide) kt kf
theorem sSt_isEmpty_8 {G : zG} {d : Nat} {Q : Option Value → Heap → Prop} {H : Heap} {o0 : Option Value} (hn : narrow .boolean (.int (1 : Int32)) = .int (1 : Int32)) (hq : Q (some (.int (1 : Int32))) H) : zW G d M_St_isEmpty 8 [o0] [] H Q :=
  zw_iconst (1 : Int32) dSt_isEmpty_8 zki_1 <| zw_goto 13 dSt_isEmpty_9 (by decide) <| zw_iret dSt_isEmpty_13 .boolean rfl hn hq
theorem sSt_isEmpty_12 {G : zG} {d : Nat} {Q : Option Value → Heap → Prop} {H : Heap} {o0 : Option Value} (hn : narrow .boolean (.int (0 : Int32)) = .int (0 : Int32)) (hq : Q (some (.int (0 : Int32))) H) : zW G d M_St_isEmpty 12 [o0] [] H Q :=
  zw_iconst (0 : Int32) dSt_isEmpty_12 zki_0 <| zw_iret dSt_isEmpty_13 .boolean rfl hn hq
theorem sSt_isEmpty_13 {G : zG} {d : Nat} {Q : Option Value → Heap → Prop} {H : Heap} {o0 : Option Value} {xs0 : Int32} (hn : narrow .boolean (.int xs0) = .int xs0) (hq : Q (some (.int xs0)) H) : zW G d M_St_isEmpty 13 [o0] ((.int xs0) :: []) H Q :=
  zw_iret dSt_isEmpty_13 .boolean rfl hn hq
theorem sSt_equals_0 {G : zG} {d : Nat} {Q : Option Value → Heap → Prop} {H : Heap} {st : List Value} {o2 : Option Value} {v0 : Value} {v1 : Value} (hr0 : zRf v0 := by first | exact zRf_ref | exact zRf_null | exact zRf_rf _ | assumption) (hr1 : zRf v1 := by first | exact zRf_ref | exact zRf_null | exact zRf_rf _ | assumption) (kk : zW G d M_St_equals 2 [some v0, some v1, o2] (v1 :: v0 :: st) H Q) : zW G d M_St_equals 0 [some v0, some v1, o2] st H Q :=
  zw_aload_n (i := 0) dSt_equals_0 rfl rfl hr0 <| zw_aload_n (i := 1) dSt_equals_1 rfl rfl hr1 <| kk
theorem sSt_equals_5 {G : zG} {d : Nat} {Q : Option Value → Heap → Prop} {H : Heap} {o0 : Option Value} {o1 : Option Value} {o2 : Option Value} (hn : narrow .boolean (.int (1 : Int32)) = .int (1 : Int32)) (hq : Q (some (.int (1 : Int32))) H) : zW G d M_St_equals 5 [o0, o1, o2] [] H Q :=
  zw_iconst (1 : Int32) dSt_equals_5 zki_1 <| zw_iret dSt_equals_6 .boolean rfl hn hq
theorem sSt_equals_7 {G : zG} {d : Nat} {Q : Option Value → Heap → Prop} {H : Heap} {st : List Value} {o0 : Option Value} {o2 : Option Value} {a1 : Nat} (hq1 : zIs G H a1 8) (kt : ((1 : Int32) = 0) → zW G d M_St_equals 54 [o0, some (.ref a1), o2] st H Q) (kf : (¬ (1 : Int32) = 0) → zW G d M_St_equals 14 [o0, some (.ref a1), o2] st H Q) : zW G d M_St_equals 7 [o0, some (.ref a1), o2] st H Q :=
  zw_aload_n (i := 1) dSt_equals_7 rfl rfl zRf_ref <| zw_inst (ci := 8) dSt_equals_8 rfl (zt3 163 rfl) hq1 <| zw_if_eq 54 dSt_equals_11 (by decide) kt kf
theorem sSt_equals_14 {G : zG} {d : Nat} {Q : Option Value → Heap → Prop} {H : Heap} {st : List Value} {o0 : Option Value} {o2 : Option Value} {a1 : Nat} (hq1 : zIs G H a1 8) (hz2 : va_Z "java/lang/String" "COMPACT_STRINGS" "Z" (.int 1) (zFr G) (zS G) (zS G).heap) (kt : ((1 : Int32) = 0) → zW G d M_St_equals 36 [o0, some (.ref a1), some (.ref a1)] st H Q) (kf : (¬ (1 : Int32) = 0) → zW G d M_St_equals 25 [o0, some (.ref a1), some (.ref a1)] st H Q) : zW G d M_St_equals 14 [o0, some (.ref a1), o2] st H Q :=
  zw_aload_n (i := 1) dSt_equals_14 rfl rfl zRf_ref <| zw_cast (ci := 8) dSt_equals_15 rfl (zt3 163 rfl) hq1 <| zw_astore_n (i := 2) dSt_equals_18 rfl (Nat.le_of_ble_eq_true rfl) zRf_ref <| zw_gets dSt_equals_19 hz2 (zt2 211 rfl) (Or.inl rfl) <| zw_if_eq 36 dSt_equals_22 (by decide) kt kf
theorem sSt_equals_25 {G : zG} {d : Nat} {Q : Option Value → Heap → Prop} {H : Heap} {st : List Value} {o1 : Option Value} {a0 : Nat} {xf1 : Int32} {a2 : Nat} {xf2 : Int32} (hf1 : zFd G H a0 8 1 (.int xf1)) (hf2 : zFd G H a2 8 1 (.int xf2)) (kt : (¬ xf1 = xf2) → zW G d M_St_equals 54 [some (.ref a0), o1, some (.ref a2)] st H Q) (kf : (xf1 = xf2) → zW G d M_St_equals 36 [some (.ref a0), o1, some (.ref a2)] st H Q) : zW G d M_St_equals 25 [some (.ref a0), o1, some (.ref a2)] st H Q :=
  zw_aload_n (i := 0) dSt_equals_25 rfl rfl zRf_ref <| zw_getf dSt_equals_26 zf_St_15 hf1 <| zw_aload_n (i := 2) dSt_equals_29 rfl rfl zRf_ref <| zw_getf dSt_equals_30 zf_St_15 hf2 <| zw_icmp_ne 54 dSt_equals_33 (by decide) kt kf
theorem sSt_equals_36 {G : zG} {d : Nat} {Q : Option Value → Heap → Prop} {H : Heap} {st : List Value} {o1 : Option Value} {a0 : Nat} {vf1 : Value} {a2 : Nat} {vf2 : Value} {P : Int32 → Heap → Prop} (hrf1 : zRf vf1 := by first | exact zRf_ref | exact zRf_null | exact zRf_rf _ | assumption) (hrf2 : zRf vf2 := by first | exact zRf_ref | exact zRf_null | exact zRf_rf _ | assumption) (hf1 : zFd G H a0 8 0 vf1) (hf2 : zFd G H a2 8 0 vf2) (hd : 1 ≤ d) (hl : st.length ≤ 4) (hc : zC G (d - 1) M_L1_equals [vf1, vf2] H (zPi P)) (kk : ∀ (r : Int32) (H1 : Heap), P r H1 → zOk G H1 → H.size ≤ H1.size → zT H ≤ zT H1 → zW G d M_St_equals 47 [some (.ref a0), o1, some (.ref a2)] ((.int r) :: st) H1 Q) : zW G d M_St_equals 36 [some (.ref a0), o1, some (.ref a2)] st H Q :=
  zw_aload_n (i := 0) dSt_equals_36 rfl rfl zRf_ref <| zw_getf dSt_equals_37 zf_St_9 hf1 <| zw_aload_n (i := 2) dSt_equals_40 rfl rfl zRf_ref <| zw_getf dSt_equals_41 zf_St_9 hf2 <| zw_callS [vf1, vf2] _ dSt_equals_44 hd zk_St_541 rfl rfl hl hc (zPi_k kk)
theorem sSt_equals_47 {G : zG} {d : Nat} {Q : Option Value → Heap → Prop} {H : Heap} {st : List Value} {o0 : Option Value} {o1 : Option Value} {o2 : Option Value} {xs0 : Int32} (kt : (xs0 = 0) → zW G d M_St_equals 54 [o0, o1, o2] st H Q) (kf : (¬ xs0 = 0) → zW G d M_St_equals 50 [o0, o1, o2] st H Q) : zW G d M_St_equals 47 [o0, o1, o2] ((.int xs0) :: st) H Q :=
  zw_if_eq 54 dSt_equals_47 (by decide) kt kf
theorem sSt_equals_50 {G : zG} {d : Nat} {Q : Option Value → Heap → Prop} {H : Heap} {o0 : Option Value} {o1 : Option Value} {o2 : Option Value} (hn : narrow .boolean (.int (1 : Int32)) = .int (1 : Int32)) (hq : Q (some (.int (1 : Int32))) H) : zW G d M_St_equals 50 [o0, o1, o2] [] H Q :=
  zw_iconst (1 : Int32) dSt_equals_50 zki_1 <| zw_goto 55 dSt_equals_51 (by decide) <| zw_iret dSt_equals_55 .boolean rfl hn hq
theorem sSt_equals_54 {G : zG} {d : Nat} {Q : Option Value → Heap → Prop} {H : Heap} {o0 : Option Value} {o1 : Option Value} {o2 : Option Value} (hn : narrow .boolean (.int (0 : Int32)) = .int (0 : Int32)) (hq : Q (some (.int (0 : Int32))) H) : zW G d M_St_equals 54 [o0, o1, o2] [] H Q :=
  zw_iconst (0 : Int32) dSt_equals_54 zki_0 <| zw_iret dSt_equals_55 .boolean rfl hn hq
theorem sSt_equals_55 {G : zG} {d : Nat} {Q : Option Value → Heap → Prop} {H : Heap} {o0 : Option Value} {o1 : Option Value} {o2 : Option Value} {xs0 : Int32} (hn : narrow .boolean (.int xs0) = .int xs0) (hq : Q (some (.int xs0)) H) : zW G d M_St_equals 55 [o0, o1, o2] ((.int xs0) :: []) H Q :=
  zw_iret dSt_equals_55 .boolean rfl hn hq
theorem sSt_getBytes_0 {G : zG} {d : Nat} {Q : Option Value → Heap → Prop} {H : Heap} {st : List Value} {o1 : Option Value} {o2 : Option Value} {o3 : Option Value} {a0 : Nat} {P : Int32 → Heap → Prop} (hd : 1 ≤ d) (hl : st.length ≤ 4) (ho : zIs G H a0 8) (hc : zC G (d - 1) M_St_coder [(.ref a0)] H (zPi P)) (kk : ∀ (r : Int32) (H1 : Heap), P r H1 → zOk G H1 → H.size ≤ H1.size → zT H ≤ zT H1 → zW G d M_St_getBytes 4 [some (.ref a0), o1, o2, o3] ((.int r) :: st) H1 Q) : zW G d M_St_getBytes 0 [some (.ref a0), o1, o2, o3] st H Q :=
  zw_aload_n (i := 0) dSt_getBytes_0 rfl rfl zRf_ref <| zw_callV [] _ dSt_getBytes_1 hd zk_St_335 ho rfl rfl hl hc (zPi_k kk)
theorem sSt_getBytes_4 {G : zG} {d : Nat} {Q : Option Value → Heap → Prop} {H : Heap} {st : List Value} {o0 : Option Value} {o1 : Option Value} {o2 : Option Value} {x3 : Int32} {xs0 : Int32} (kt : (¬ xs0 = x3) → zW G d M_St_getBytes 28 [o0, o1, o2, some (.int x3)] st H Q) (kf : (xs0 = x3) → zW G d M_St_getBytes 8 [o0, o1, o2, some (.int x3)] st H Q) : zW G d M_St_getBytes 4 [o0, o1, o2, some (.int x3)] ((.int xs0) :: st) H Q :=
  zw_iload_n (i := 3) dSt_getBytes_4 rfl rfl <| zw_icmp_ne 28 dSt_getBytes_5 (by decide) kt kf
theorem sSt_getBytes_8 {G : zG} {d : Nat} {Q : Option Value → Heap → Prop} {H : Heap} {st : List Value} {a0 : Nat} {vf1 : Value} {v1 : Value} {x2 : Int32} {x3 : Int32} {af2 : Nat} {n3 : Nat} {t3 : FieldType} {g3 : Nat → Value} (hrf1 : zRf vf1 := by first | exact zRf_ref | exact zRf_null | exact zRf_rf _ | assumption) (hr1 : zRf v1 := by first | exact zRf_ref | exact zRf_null | exact zRf_rf _ | assumption) (hf1 : zFd G H a0 8 0 vf1) (hf2 : zFd G H a0 8 0 (.ref af2)) (ha3 : zArr G H af2 t3 n3 g3) (kk : zW G d M_St_getBytes 22 [some (.ref a0), some v1, some (.int x2), some (.int x3)] ((.int (nI n3)) :: (.int (x2 <<< (x3 &&& 31))) :: v1 :: (.int (0 : Int32)) :: vf1 :: st) H Q) : zW G d M_St_getBytes 8 [some (.ref a0), some v1, some (.int x2), some (.int x3)] st H Q :=
  zw_aload_n (i := 0) dSt_getBytes_8 rfl rfl zRf_ref <| zw_getf dSt_getBytes_9 zf_St_9 hf1 <| zw_iconst (0 : Int32) dSt_getBytes_12 zki_0 <| zw_aload_n (i := 1) dSt_getBytes_13 rfl rfl hr1 <| zw_iload_n (i := 2) dSt_getBytes_14 rfl rfl <| zw_iload_n (i := 3) dSt_getBytes_15 rfl rfl <| zw_ishl dSt_getBytes_16 <| zw_aload_n (i := 0) dSt_getBytes_17 rfl rfl zRf_ref <| zw_getf dSt_getBytes_18 zf_St_9 hf2 <| zw_alen dSt_getBytes_21 ha3 <| kk
theorem sSt_getBytes_25 {G : zG} {d : Nat} {Q : Option Value → Heap → Prop} {H : Heap} {o0 : Option Value} {o1 : Option Value} {o2 : Option Value} {o3 : Option Value} (hq : Q none H) : zW G d M_St_getBytes 25 [o0, o1, o2, o3] [] H Q :=
  zw_goto 43 dSt_getBytes_25 (by decide) <| zw_vret dSt_getBytes_43 rfl hq
theorem sSt_getBytes_28 {G : zG} {d : Nat} {Q : Option Value → Heap → Prop} {H : Heap} {st : List Value} {o3 : Option Value} {a0 : Nat} {vf1 : Value} {v1 : Value} {x2 : Int32} {af2 : Nat} {n3 : Nat} {t3 : FieldType} {g3 : Nat → Value} {P : Heap → Prop} (hrf1 : zRf vf1 := by first | exact zRf_ref | exact zRf_null | exact zRf_rf _ | assumption) (hr1 : zRf v1 := by first | exact zRf_ref | exact zRf_null | exact zRf_rf _ | assumption) (hf1 : zFd G H a0 8 0 vf1) (hf2 : zFd G H a0 8 0 (.ref af2)) (ha3 : zArr G H af2 t3 n3 g3) (hd : 1 ≤ d) (hl : st.length ≤ 4) (hc : zC G (d - 1) M_L1_inflate [vf1, (.int (0 : Int32)), v1, (.int x2), (.int (nI n3))] H (zPv P)) (kk : ∀ H1 : Heap, P H1 → zOk G H1 → H.size ≤ H1.size → zT H ≤ zT H1 → zW G d M_St_getBytes 43 [some (.ref a0), some v1, some (.int x2), o3] st H1 Q) : zW G d M_St_getBytes 28 [some (.ref a0), some v1, some (.int x2), o3] st H Q :=
  zw_aload_n (i := 0) dSt_getBytes_28 rfl rfl zRf_ref <| zw_getf dSt_getBytes_29 zf_St_9 hf1 <| zw_iconst (0 : Int32) dSt_getBytes_32 zki_0 <| zw_aload_n (i := 1) dSt_getBytes_33 rfl rfl hr1 <| zw_iload_n (i := 2) dSt_getBytes_34 rfl rfl <| zw_aload_n (i := 0) dSt_getBytes_35 rfl rfl zRf_ref <| zw_getf dSt_getBytes_36 zf_St_9 hf2 <| zw_alen dSt_getBytes_39 ha3 <| zw_callS [vf1, (.int (0 : Int32)), v1, (.int x2), (.int (nI n3))] _ dSt_getBytes_40 hd zk_St_106 rfl rfl hl hc (zPv_k kk)
theorem sSt_getBytes_43 {G : zG} {d : Nat} {Q : Option Value → Heap → Prop} {H : Heap} {o0 : Option Value} {o1 : Option Value} {o2 : Option Value} {o3 : Option Value} (hq : Q none H) : zW G d M_St_getBytes 43 [o0, o1, o2, o3] [] H Q :=
  zw_vret dSt_getBytes_43 rfl hq

