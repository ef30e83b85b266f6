theorem dAS_newLength_0 : decode prog_34_method_27_code 0 = .ok (.iload_n 0, 1) := by decide +kernel
theorem dAS_newLength_1 : decode prog_34_method_27_code 1 = .ok (.iload_n 1, 1) := by decide +kernel
theorem dAS_newLength_2 : decode prog_34_method_27_code 2 = .ok (.iload_n 2, 1) := by decide +kernel
theorem dAS_newLength_3 : decode prog_34_method_27_code 3 = .ok (.invokestatic 194, 3) := by decide +kernel
theorem dAS_newLength_6 : decode prog_34_method_27_code 6 = .ok (.iadd, 1) := by decide +kernel
theorem dAS_newLength_7 : decode prog_34_method_27_code 7 = .ok (.istore_n 3, 1) := by decide +kernel
theorem dAS_newLength_8 : decode prog_34_method_27_code 8 = .ok (.iconst 0, 1) := by decide +kernel
theorem dAS_newLength_9 : decode prog_34_method_27_code 9 = .ok (.iload_n 3, 1) := by decide +kernel
theorem dAS_newLength_10 : decode prog_34_method_27_code 10 = .ok (.if_icmp .ge 11, 3) := by decide +kernel
theorem dAS_newLength_13 : decode prog_34_method_27_code 13 = .ok (.iload_n 3, 1) := by decide +kernel
theorem dAS_newLength_14 : decode prog_34_method_27_code 14 = .ok (.ldc 200, 2) := by decide +kernel
theorem dAS_newLength_16 : decode prog_34_method_27_code 16 = .ok (.if_icmp .gt 5, 3) := by decide +kernel
theorem dAS_newLength_19 : decode prog_34_method_27_code 19 = .ok (.iload_n 3, 1) := by decide +kernel
theorem dAS_newLength_20 : decode prog_34_method_27_code 20 = .ok (.ireturn, 1) := by decide +kernel
theorem dAS_newLength_21 : decode prog_34_method_27_code 21 = .ok (.iload_n 0, 1) := by decide +kernel
theorem dAS_newLength_22 : decode prog_34_method_27_code 22 = .ok (.iload_n 1, 1) := by decide +kernel
theorem dAS_newLength_23 : decode prog_34_method_27_code 23 = .ok (.invokestatic 201, 3) := by decide +kernel
theorem dAS_newLength_26 : decode prog_34_method_27_code 26 = .ok (.ireturn, 1) := by decide +kernel
theorem dMa_max_0 : decode prog_19_method_65_code 0 = .ok (.iload_n 0, 1) := by decide +kernel
theorem dMa_max_1 : decode prog_19_method_65_code 1 = .ok (.iload_n 1, 1) := by decide +kernel
theorem dMa_max_2 : decode prog_19_method_65_code 2 = .ok (.if_icmp .lt 7, 3) := by decide +kernel
theorem dMa_max_5 : decode prog_19_method_65_code 5 = .ok (.iload_n 0, 1) := by decide +kernel
theorem dMa_max_6 : decode prog_19_method_65_code 6 = .ok (.goto 4, 3) := by decide +kernel
theorem dMa_max_9 : decode prog_19_method_65_code 9 = .ok (.iload_n 1, 1) := by decide +kernel
theorem dMa_max_10 : decode prog_19_method_65_code 10 = .ok (.ireturn, 1) := by decide +kernel
theorem dAS_hugeLength_0 : decode prog_34_method_28_code 0 = .ok (.iload_n 0, 1) := by decide +kernel
theorem dAS_hugeLength_1 : decode prog_34_method_28_code 1 = .ok (.iload_n 1, 1) := by decide +kernel
theorem dAS_hugeLength_2 : decode prog_34_method_28_code 2 = .ok (.iadd, 1) := by decide +kernel
theorem dAS_hugeLength_3 : decode prog_34_method_28_code 3 = .ok (.istore_n 2, 1) := by decide +kernel
theorem dAS_hugeLength_4 : decode prog_34_method_28_code 4 = .ok (.iload_n 2, 1) := by decide +kernel
theorem dAS_hugeLength_5 : decode prog_34_method_28_code 5 = .ok (.ifCond .ge 44, 3) := by decide +kernel
theorem dAS_hugeLength_11 : decode prog_34_method_28_code 11 = .ok (.dup, 1) := by decide +kernel
theorem dAS_hugeLength_15 : decode prog_34_method_28_code 15 = .ok (.dup, 1) := by decide +kernel
theorem dAS_hugeLength_24 : decode prog_34_method_28_code 24 = .ok (.iload_n 0, 1) := by decide +kernel
theorem dAS_hugeLength_33 : decode prog_34_method_28_code 33 = .ok (.iload_n 1, 1) := by decide +kernel
theorem dAS_hugeLength_49 : decode prog_34_method_28_code 49 = .ok (.iload_n 2, 1) := by decide +kernel
theorem dAS_hugeLength_50 : decode prog_34_method_28_code 50 = .ok (.ldc 200, 2) := by decide +kernel
theorem dAS_hugeLength_52 : decode prog_34_method_28_code 52 = .ok (.if_icmp .gt 6, 3) := by decide +kernel
theorem dAS_hugeLength_55 : decode prog_34_method_28_code 55 = .ok (.ldc 200, 2) := by decide +kernel
theorem dAS_hugeLength_57 : decode prog_34_method_28_code 57 = .ok (.ireturn, 1) := by decide +kernel
theorem dAS_hugeLength_58 : decode prog_34_method_28_code 58 = .ok (.iload_n 2, 1) := by decide +kernel
theorem dAS_hugeLength_59 : decode prog_34_method_28_code 59 = .ok (.ireturn, 1) := by decide +kernel
theorem dAr_copyOf_0_0 : decode prog_28_method_121_code 0 = .ok (.iload_n 1, 1) := by decide +kernel
theorem dAr_copyOf_0_1 : decode prog_28_method_121_code 1 = .ok (.aload_n 0, 1) := by decide +kernel
theorem dAr_copyOf_0_2 : decode prog_28_method_121_code 2 = .ok (.arraylength, 1) := by decide +kernel
theorem dAr_copyOf_0_3 : decode prog_28_method_121_code 3 = .ok (.if_icmp .ne 11, 3) := by decide +kernel
theorem dAr_copyOf_0_6 : decode prog_28_method_121_code 6 = .ok (.aload_n 0, 1) := by decide +kernel
theorem dAr_copyOf_0_7 : decode prog_28_method_121_code 7 = .ok (.invokevirtual 310, 3) := by decide +kernel
theorem dAr_copyOf_0_10 : decode prog_28_method_121_code 10 = .ok (.checkcast 311, 3) := by decide +kernel
theorem dAr_copyOf_0_13 : decode prog_28_method_121_code 13 = .ok (.areturn, 1) := by decide +kernel
theorem dAr_copyOf_0_14 : decode prog_28_method_121_code 14 = .ok (.iload_n 1, 1) := by decide +kernel
theorem dAr_copyOf_0_15 : decode prog_28_method_121_code 15 = .ok (.newarray .byte, 2) := by decide +kernel
theorem dAr_copyOf_0_17 : decode prog_28_method_121_code 17 = .ok (.astore_n 2, 1) := by decide +kernel
theorem dAr_copyOf_0_18 : decode prog_28_method_121_code 18 = .ok (.aload_n 0, 1) := by decide +kernel
theorem dAr_copyOf_0_19 : decode prog_28_method_121_code 19 = .ok (.iconst 0, 1) := by decide +kernel
theorem dAr_copyOf_0_20 : decode prog_28_method_121_code 20 = .ok (.aload_n 2, 1) := by decide +kernel
theorem dAr_copyOf_0_21 : decode prog_28_method_121_code 21 = .ok (.iconst 0, 1) := by decide +kernel
theorem dAr_copyOf_0_22 : decode prog_28_method_121_code 22 = .ok (.aload_n 0, 1) := by decide +kernel
theorem dAr_copyOf_0_23 : decode prog_28_method_121_code 23 = .ok (.arraylength, 1) := by decide +kernel
theorem dAr_copyOf_0_24 : decode prog_28_method_121_code 24 = .ok (.iload_n 1, 1) := by decide +kernel
theorem dAr_copyOf_0_25 : decode prog_28_method_121_code 25 = .ok (.invokestatic 304, 3) := by decide +kernel
theorem dAr_copyOf_0_28 : decode prog_28_method_121_code 28 = .ok (.invokestatic 150, 3) := by decide +kernel
theorem dAr_copyOf_0_31 : decode prog_28_method_121_code 31 = .ok (.aload_n 2, 1) := by decide +kernel
theorem dAr_copyOf_0_32 : decode prog_28_method_121_code 32 = .ok (.areturn, 1) := by decide +kernel
theorem dMa_min_0 : decode prog_19_method_69_code 0 = .ok (.iload_n 0, 1) := by decide +kernel
theorem dMa_min_1 : decode prog_19_method_69_code 1 = .ok (.iload_n 1, 1) := by decide +kernel
theorem dMa_min_2 : decode prog_19_method_69_code 2 = .ok (.if_icmp .gt 7, 3) := by decide +kernel
theorem dMa_min_5 : decode prog_19_method_69_code 5 = .ok (.iload_n 0, 1) := by decide +kernel
theorem dMa_min_6 : decode prog_19_method_69_code 6 = .ok (.goto 4, 3) := by decide +kernel
theorem dMa_min_9 : decode prog_19_method_69_code 9 = .ok (.iload_n 1, 1) := by decide +kernel
theorem dMa_min_10 : decode prog_19_method_69_code 10 = .ok (.ireturn, 1) := by decide +kernel
theorem dAr_fill_0 : decode prog_28_method_110_code 0 = .ok (.aload_n 0, 1) := by decide +kernel
theorem dAr_fill_1 : decode prog_28_method_110_code 1 = .ok (.arraylength, 1) := by decide +kernel
theorem dAr_fill_2 : decode prog_28_method_110_code 2 = .ok (.iload_n 1, 1) := by decide +kernel
theorem dAr_fill_3 : decode prog_28_method_110_code 3 = .ok (.iload_n 2, 1) := by decide +kernel
theorem dAr_fill_4 : decode prog_28_method_110_code 4 = .ok (.invokestatic 13, 3) := by decide +kernel
theorem dAr_fill_7 : decode prog_28_method_110_code 7 = .ok (.iload_n 1, 1) := by decide +kernel
theorem dAr_fill_8 : decode prog_28_method_110_code 8 = .ok (.istore 4, 2) := by decide +kernel
theorem dAr_fill_10 : decode prog_28_method_110_code 10 = .ok (.iload 4, 2) := by decide +kernel
theorem dAr_fill_12 : decode prog_28_method_110_code 12 = .ok (.iload_n 2, 1) := by decide +kernel
theorem dAr_fill_13 : decode prog_28_method_110_code 13 = .ok (.if_icmp .ge 14, 3) := by decide +kernel
theorem dAr_fill_16 : decode prog_28_method_110_code 16 = .ok (.aload_n 0, 1) := by decide +kernel
theorem dAr_fill_17 : decode prog_28_method_110_code 17 = .ok (.iload 4, 2) := by decide +kernel
theorem dAr_fill_19 : decode prog_28_method_110_code 19 = .ok (.iload_n 3, 1) := by decide +kernel
theorem dAr_fill_20 : decode prog_28_method_110_code 20 = .ok (.bastore, 1) := by decide +kernel
theorem dAr_fill_21 : decode prog_28_method_110_code 21 = .ok (.iinc 4 1, 3) := by decide +kernel
theorem dAr_fill_24 : decode prog_28_method_110_code 24 = .ok (.goto (-14), 3) := by decide +kernel
theorem dAr_fill_27 : decode prog_28_method_110_code 27 = .ok (.return_, 1) := by decide +kernel
theorem dAr_rangeCheck_0 : decode prog_28_method_30_code 0 = .ok (.iload_n 1, 1) := by decide +kernel
theorem dAr_rangeCheck_1 : decode prog_28_method_30_code 1 = .ok (.iload_n 2, 1) := by decide +kernel
theorem dAr_rangeCheck_2 : decode prog_28_method_30_code 2 = .ok (.if_icmp .le 44, 3) := by decide +kernel
theorem dAr_rangeCheck_5 : decode prog_28_method_30_code 5 = .ok (.new 43, 3) := by decide +kernel
theorem dAr_rangeCheck_8 : decode prog_28_method_30_code 8 = .ok (.dup, 1) := by decide +kernel
theorem dAr_rangeCheck_9 : decode prog_28_method_30_code 9 = .ok (.new 45, 3) := by decide +kernel
theorem dAr_rangeCheck_12 : decode prog_28_method_30_code 12 = .ok (.dup, 1) := by decide +kernel
theorem dAr_rangeCheck_13 : decode prog_28_method_30_code 13 = .ok (.invokespecial 47, 3) := by decide +kernel
theorem dAr_rangeCheck_16 : decode prog_28_method_30_code 16 = .ok (.ldc 48, 2) := by decide +kernel
theorem dAr_rangeCheck_18 : decode prog_28_method_30_code 18 = .ok (.invokevirtual 50, 3) := by decide +kernel
theorem dAr_rangeCheck_21 : decode prog_28_method_30_code 21 = .ok (.iload_n 1, 1) := by decide +kernel
theorem dAr_rangeCheck_22 : decode prog_28_method_30_code 22 = .ok (.invokevirtual 54, 3) := by decide +kernel
theorem dAr_rangeCheck_25 : decode prog_28_method_30_code 25 = .ok (.ldc 57, 2) := by decide +kernel
theorem dAr_rangeCheck_27 : decode prog_28_method_30_code 27 = .ok (.invokevirtual 50, 3) := by decide +kernel
theorem dAr_rangeCheck_30 : decode prog_28_method_30_code 30 = .ok (.iload_n 2, 1) := by decide +kernel
theorem dAr_rangeCheck_31 : decode prog_28_method_30_code 31 = .ok (.invokevirtual 54, 3) := by decide +kernel
theorem dAr_rangeCheck_34 : decode prog_28_method_30_code 34 = .ok (.ldc 59, 2) := by decide +kernel
theorem dAr_rangeCheck_36 : decode prog_28_method_30_code 36 = .ok (.invokevirtual 50, 3) := by decide +kernel
theorem dAr_rangeCheck_39 : decode prog_28_method_30_code 39 = .ok (.invokevirtual 61, 3) := by decide +kernel
theorem dAr_rangeCheck_42 : decode prog_28_method_30_code 42 = .ok (.invokespecial 65, 3) := by decide +kernel
theorem dAr_rangeCheck_45 : decode prog_28_method_30_code 45 = .ok (.athrow, 1) := by decide +kernel
theorem dAr_rangeCheck_46 : decode prog_28_method_30_code 46 = .ok (.iload_n 1, 1) := by decide +kernel
theorem dAr_rangeCheck_47 : decode prog_28_method_30_code 47 = .ok (.ifCond .ge 12, 3) := by decide +kernel
theorem dAr_rangeCheck_50 : decode prog_28_method_30_code 50 = .ok (.new 68, 3) := by decide +kernel
theorem dAr_rangeCheck_53 : decode prog_28_method_30_code 53 = .ok (.dup, 1) := by decide +kernel
theorem dAr_rangeCheck_54 : decode prog_28_method_30_code 54 = .ok (.iload_n 1, 1) := by decide +kernel
theorem dAr_rangeCheck_55 : decode prog_28_method_30_code 55 = .ok (.invokespecial 70, 3) := by decide +kernel
theorem dAr_rangeCheck_58 : decode prog_28_method_30_code 58 = .ok (.athrow, 1) := by decide +kernel
theorem dAr_rangeCheck_59 : decode prog_28_method_30_code 59 = .ok (.iload_n 2, 1) := by decide +kernel
theorem dAr_rangeCheck_60 : decode prog_28_method_30_code 60 = .ok (.iload_n 0, 1) := by decide +kernel
theorem dAr_rangeCheck_61 : decode prog_28_method_30_code 61 = .ok (.if_icmp .le 12, 3) := by decide +kernel
theorem dAr_rangeCheck_64 : decode prog_28_method_30_code 64 = .ok (.new 68, 3) := by decide +kernel
theorem dAr_rangeCheck_67 : decode prog_28_method_30_code 67 = .ok (.dup, 1) := by decide +kernel
theorem dAr_rangeCheck_68 : decode prog_28_method_30_code 68 = .ok (.iload_n 2, 1) := by decide +kernel
theorem dAr_rangeCheck_69 : decode prog_28_method_30_code 69 = .ok (.invokespecial 70, 3) := by decide +kernel
theorem dAr_rangeCheck_72 : decode prog_28_method_30_code 72 = .ok (.athrow, 1) := by decide +kernel
theorem dAr_rangeCheck_73 : decode prog_28_method_30_code 73 = .ok (.return_, 1) := by decide +kernel
theorem dAr_copyOfRange_0 : decode prog_28_method_132_code 0 = .ok (.iload_n 1, 1) := by decide +kernel
theorem dAr_copyOfRange_1 : decode prog_28_method_132_code 1 = .ok (.ifCond .ne 9, 3) := by decide +kernel
theorem dAr_copyOfRange_4 : decode prog_28_method_132_code 4 = .ok (.iload_n 2, 1) := by decide +kernel
theorem dAr_copyOfRange_5 : decode prog_28_method_132_code 5 = .ok (.aload_n 0, 1) := by decide +kernel
theorem dAr_copyOfRange_6 : decode prog_28_method_132_code 6 = .ok (.arraylength, 1) := by decide +kernel
theorem dAr_copyOfRange_7 : decode prog_28_method_132_code 7 = .ok (.if_icmp .eq 10, 3) := by decide +kernel
theorem dAr_copyOfRange_10 : decode prog_28_method_132_code 10 = .ok (.aload_n 0, 1) := by decide +kernel
theorem dAr_copyOfRange_11 : decode prog_28_method_132_code 11 = .ok (.iload_n 1, 1) := by decide +kernel
theorem dAr_copyOfRange_12 : decode prog_28_method_132_code 12 = .ok (.iload_n 2, 1) := by decide +kernel
theorem dAr_copyOfRange_13 : decode prog_28_method_132_code 13 = .ok (.invokestatic 339, 3) := by decide +kernel
theorem dAr_copyOfRange_16 : decode prog_28_method_132_code 16 = .ok (.areturn, 1) := by decide +kernel
theorem dAr_copyOfRange_17 : decode prog_28_method_132_code 17 = .ok (.aload_n 0, 1) := by decide +kernel
theorem dAr_copyOfRange_18 : decode prog_28_method_132_code 18 = .ok (.invokevirtual 310, 3) := by decide +kernel
theorem dAr_copyOfRange_21 : decode prog_28_method_132_code 21 = .ok (.checkcast 311, 3) := by decide +kernel
theorem dAr_copyOfRange_24 : decode prog_28_method_132_code 24 = .ok (.areturn, 1) := by decide +kernel
theorem dAr_copyOfRangeByte_0 : decode prog_28_method_133_code 0 = .ok (.iload_n 1, 1) := by decide +kernel
theorem dAr_copyOfRangeByte_1 : decode prog_28_method_133_code 1 = .ok (.iload_n 2, 1) := by decide +kernel
theorem dAr_copyOfRangeByte_2 : decode prog_28_method_133_code 2 = .ok (.invokestatic 343, 3) := by decide +kernel
theorem dAr_copyOfRangeByte_5 : decode prog_28_method_133_code 5 = .ok (.iload_n 2, 1) := by decide +kernel
theorem dAr_copyOfRangeByte_6 : decode prog_28_method_133_code 6 = .ok (.iload_n 1, 1) := by decide +kernel
theorem dAr_copyOfRangeByte_7 : decode prog_28_method_133_code 7 = .ok (.isub, 1) := by decide +kernel
theorem dAr_copyOfRangeByte_8 : decode prog_28_method_133_code 8 = .ok (.istore_n 3, 1) := by decide +kernel
theorem dAr_copyOfRangeByte_9 : decode prog_28_method_133_code 9 = .ok (.iload_n 3, 1) := by decide +kernel
theorem dAr_copyOfRangeByte_10 : decode prog_28_method_133_code 10 = .ok (.newarray .byte, 2) := by decide +kernel
theorem dAr_copyOfRangeByte_12 : decode prog_28_method_133_code 12 = .ok (.astore 4, 2) := by decide +kernel
theorem dAr_copyOfRangeByte_14 : decode prog_28_method_133_code 14 = .ok (.aload_n 0, 1) := by decide +kernel
theorem dAr_copyOfRangeByte_15 : decode prog_28_method_133_code 15 = .ok (.iload_n 1, 1) := by decide +kernel
theorem dAr_copyOfRangeByte_16 : decode prog_28_method_133_code 16 = .ok (.aload 4, 2) := by decide +kernel
theorem dAr_copyOfRangeByte_18 : decode prog_28_method_133_code 18 = .ok (.iconst 0, 1) := by decide +kernel
theorem dAr_copyOfRangeByte_19 : decode prog_28_method_133_code 19 = .ok (.aload_n 0, 1) := by decide +kernel
theorem dAr_copyOfRangeByte_20 : decode prog_28_method_133_code 20 = .ok (.arraylength, 1) := by decide +kernel
theorem dAr_copyOfRangeByte_21 : decode prog_28_method_133_code 21 = .ok (.iload_n 1, 1) := by decide +kernel
theorem dAr_copyOfRangeByte_22 : decode prog_28_method_133_code 22 = .ok (.isub, 1) := by decide +kernel
theorem dAr_copyOfRangeByte_23 : decode prog_28_method_133_code 23 = .ok (.iload_n 3, 1) := by decide +kernel
theorem dAr_copyOfRangeByte_24 : decode prog_28_method_133_code 24 = .ok (.invokestatic 304, 3) := by decide +kernel
theorem dAr_copyOfRangeByte_27 : decode prog_28_method_133_code 27 = .ok (.invokestatic 150, 3) := by decide +kernel
theorem dAr_copyOfRangeByte_30 : decode prog_28_method_133_code 30 = .ok (.aload 4, 2) := by decide +kernel
theorem dAr_copyOfRangeByte_32 : decode prog_28_method_133_code 32 = .ok (.areturn, 1) := by decide +kernel
theorem dAr_checkLength_0 : decode prog_28_method_131_code 0 = .ok (.iload_n 1, 1) := by decide +kernel
theorem dAr_checkLength_1 : decode prog_28_method_131_code 1 = .ok (.iload_n 0, 1) := by decide +kernel
theorem dAr_checkLength_2 : decode prog_28_method_131_code 2 = .ok (.if_icmp .ge 35, 3) := by decide +kernel
theorem dAr_checkLength_5 : decode prog_28_method_131_code 5 = .ok (.new 43, 3) := by decide +kernel
theorem dAr_checkLength_8 : decode prog_28_method_131_code 8 = .ok (.dup, 1) := by decide +kernel
theorem dAr_checkLength_9 : decode prog_28_method_131_code 9 = .ok (.new 45, 3) := by decide +kernel
theorem dAr_checkLength_12 : decode prog_28_method_131_code 12 = .ok (.dup, 1) := by decide +kernel
theorem dAr_checkLength_13 : decode prog_28_method_131_code 13 = .ok (.invokespecial 47, 3) := by decide +kernel
theorem dAr_checkLength_16 : decode prog_28_method_131_code 16 = .ok (.iload_n 0, 1) := by decide +kernel
theorem dAr_checkLength_17 : decode prog_28_method_131_code 17 = .ok (.invokevirtual 54, 3) := by decide +kernel
theorem dAr_checkLength_20 : decode prog_28_method_131_code 20 = .ok (.ldc_w 337, 3) := by decide +kernel
theorem dAr_checkLength_23 : decode prog_28_method_131_code 23 = .ok (.invokevirtual 50, 3) := by decide +kernel
theorem dAr_checkLength_26 : decode prog_28_method_131_code 26 = .ok (.iload_n 1, 1) := by decide +kernel
theorem dAr_checkLength_27 : decode prog_28_method_131_code 27 = .ok (.invokevirtual 54, 3) := by decide +kernel
theorem dAr_checkLength_30 : decode prog_28_method_131_code 30 = .ok (.invokevirtual 61, 3) := by decide +kernel
theorem dAr_checkLength_33 : decode prog_28_method_131_code 33 = .ok (.invokespecial 65, 3) := by decide +kernel
theorem dAr_checkLength_36 : decode prog_28_method_131_code 36 = .ok (.athrow, 1) := by decide +kernel
theorem dAr_checkLength_37 : decode prog_28_method_131_code 37 = .ok (.return_, 1) := by decide +kernel
theorem dAr_copyOf_1_0 : decode prog_28_method_119_code 0 = .ok (.aload_n 0, 1) := by decide +kernel
theorem dAr_copyOf_1_1 : decode prog_28_method_119_code 1 = .ok (.iload_n 1, 1) := by decide +kernel
theorem dAr_copyOf_1_2 : decode prog_28_method_119_code 2 = .ok (.aload_n 0, 1) := by decide +kernel
theorem dAr_copyOf_1_3 : decode prog_28_method_119_code 3 = .ok (.invokevirtual 86, 3) := by decide +kernel
theorem dAr_copyOf_1_6 : decode prog_28_method_119_code 6 = .ok (.invokestatic 300, 3) := by decide +kernel
theorem dAr_copyOf_1_9 : decode prog_28_method_119_code 9 = .ok (.areturn, 1) := by decide +kernel
theorem dAr_copyOf_2_0 : decode prog_28_method_120_code 0 = .ok (.aload_n 2, 1) := by decide +kernel
theorem dAr_copyOf_2_1 : decode prog_28_method_120_code 1 = .ok (.ldc 110, 2) := by decide +kernel
theorem dAr_copyOf_2_3 : decode prog_28_method_120_code 3 = .ok (.if_acmp .ne 10, 3) := by decide +kernel
theorem dAr_copyOf_2_6 : decode prog_28_method_120_code 6 = .ok (.iload_n 1, 1) := by decide +kernel
theorem dAr_copyOf_2_7 : decode prog_28_method_120_code 7 = .ok (.anewarray 2, 3) := by decide +kernel
theorem dAr_copyOf_2_10 : decode prog_28_method_120_code 10 = .ok (.goto 14, 3) := by decide +kernel
theorem dAr_copyOf_2_13 : decode prog_28_method_120_code 13 = .ok (.aload_n 2, 1) := by decide +kernel
theorem dAr_copyOf_2_14 : decode prog_28_method_120_code 14 = .ok (.invokevirtual 90, 3) := by decide +kernel
theorem dAr_copyOf_2_17 : decode prog_28_method_120_code 17 = .ok (.iload_n 1, 1) := by decide +kernel
theorem dAr_copyOf_2_18 : decode prog_28_method_120_code 18 = .ok (.invokestatic 95, 3) := by decide +kernel
theorem dAr_copyOf_2_21 : decode prog_28_method_120_code 21 = .ok (.checkcast 110, 3) := by decide +kernel
theorem dAr_copyOf_2_24 : decode prog_28_method_120_code 24 = .ok (.astore_n 3, 1) := by decide +kernel
theorem dAr_copyOf_2_25 : decode prog_28_method_120_code 25 = .ok (.aload_n 0, 1) := by decide +kernel
theorem dAr_copyOf_2_26 : decode prog_28_method_120_code 26 = .ok (.iconst 0, 1) := by decide +kernel
theorem dAr_copyOf_2_27 : decode prog_28_method_120_code 27 = .ok (.aload_n 3, 1) := by decide +kernel
theorem dAr_copyOf_2_28 : decode prog_28_method_120_code 28 = .ok (.iconst 0, 1) := by decide +kernel
theorem dAr_copyOf_2_29 : decode prog_28_method_120_code 29 = .ok (.aload_n 0, 1) := by decide +kernel
theorem dAr_copyOf_2_30 : decode prog_28_method_120_code 30 = .ok (.arraylength, 1) := by decide +kernel
theorem dAr_copyOf_2_31 : decode prog_28_method_120_code 31 = .ok (.iload_n 1, 1) := by decide +kernel
theorem dAr_copyOf_2_32 : decode prog_28_method_120_code 32 = .ok (.invokestatic 304, 3) := by decide +kernel
theorem dAr_copyOf_2_35 : decode prog_28_method_120_code 35 = .ok (.invokestatic 150, 3) := by decide +kernel
theorem dAr_copyOf_2_38 : decode prog_28_method_120_code 38 = .ok (.aload_n 3, 1) := by decide +kernel
theorem dAr_copyOf_2_39 : decode prog_28_method_120_code 39 = .ok (.areturn, 1) := by decide +kernel
theorem zk_AS_194 : zLkS "jdk/internal/util/ArraysSupport" 194 M_Ma_max 2 := ⟨zc_Ma_max, zt2 58 rfl, Or.inl (zt2 57 rfl)⟩
theorem zk_AS_201 : zLkS "jdk/internal/util/ArraysSupport" 201 M_AS_hugeLength 2 := ⟨zc_AS_hugeLength, zt2 62 rfl, Or.inl (zt2 61 rfl)⟩
theorem zk_Ar_304 : zLkS "java/util/Arrays" 304 M_Ma_min 2 := ⟨zc_Ma_min, zt2 76 rfl, Or.inl (zt2 75 rfl)⟩
theorem zk_Ar_13 : zLkS "java/util/Arrays" 13 M_Ar_rangeCheck 3 := ⟨zc_Ar_rangeCheck, zt2 152 rfl, Or.inl (zt2 151 rfl)⟩
theorem zk_Ar_339 : zLkS "java/util/Arrays" 339 M_Ar_copyOfRangeByte 3 := ⟨zc_Ar_copyOfRangeByte, zt2 206 rfl, Or.inl (zt2 205 rfl)⟩
theorem zk_Ar_343 : zLkS "java/util/Arrays" 343 M_Ar_checkLength 2 := ⟨zc_Ar_checkLength, zt2 209 rfl, Or.inl (zt2 208 rfl)⟩
theorem zk_Ar_300 : zLkS "java/util/Arrays" 300 M_Ar_copyOf_2 3 := ⟨zc_Ar_copyOf_2, zt4 157 rfl, Or.inl (zt4 156 rfl)⟩
theorem sAS_newLength_0 {G : zG} {d : Nat} {Q : Option Value → Heap → Prop} {H : Heap} {st : List Value} {o3 : Option Value} {x0 : Int32} {x1 : Int32} {x2 : Int32} {P : Int32 → Heap → Prop} (hd : 1 ≤ d) (hl : ((.int x0) :: st).length ≤ 4) (hc : zC G (d - 1) M_Ma_max [(.int x1), (.int x2)] H (zPi P)) (kk : ∀ (r : Int32) (H1 : Heap), P r H1 → zOk G H1 → H.size ≤ H1.size → zT H ≤ zT H1 → zW G d M_AS_newLength 6 [some (.int x0), some (.int x1), some (.int x2), o3] ((.int r) :: (.int x0) :: st) H1 Q) : zW G d M_AS_newLength 0 [some (.int x0), some (.int x1), some (.int x2), o3] st H Q :=
  zw_iload_n (i := 0) dAS_newLength_0 rfl rfl <| zw_iload_n (i := 1) dAS_newLength_1 rfl rfl <| zw_iload_n (i := 2) dAS_newLength_2 rfl rfl <| zw_callS [(.int x1), (.int x2)] _ dAS_newLength_3 hd zk_AS_194 rfl rfl hl hc (zPi_k kk)
theorem sAS_newLength_6 {G : zG} {d : Nat} {Q : Option Value → Heap → Prop} {H : Heap} {st : List Value} {o0 : Option Value} {o1 : Option Value} {o2 : Option Value} {o3 : Option Value} {xs0 : Int32} {xs1 : Int32} (kt : ((xs1 + xs0) ≤ (0 : Int32)) → zW G d M_AS_newLength 21 [o0, o1, o2, some (.int (xs1 + xs0))] st H Q) (kf : (¬ (xs1 + xs0) ≤ (0 : Int32)) → zW G d M_AS_newLength 13 [o0, o1, o2, some (.int (xs1 + xs0))] st H Q) : zW G d M_AS_newLength 6 [o0, o1, o2, o3] ((.int xs0) :: (.int xs1) :: st) H Q :=
  zw_iadd dAS_newLength_6 <| zw_istore_n (i := 3) dAS_newLength_7 rfl (Nat.le_of_ble_eq_true rfl) <| zw_iconst (0 : Int32) dAS_newLength_8 zki_0 <| zw_iload_n (i := 3) dAS_newLength_9 rfl rfl <| zw_icmp_ge 21 dAS_newLength_10 (by decide) kt kf
theorem sAS_newLength_13 {G : zG} {d : Nat} {Q : Option Value → Heap → Prop} {H : Heap} {st : List Value} {o0 : Option Value} {o1 : Option Value} {o2 : Option Value} {x3 : Int32} (kt : ((2147483639 : Int32) < x3) → zW G d M_AS_newLength 21 [o0, o1, o2, some (.int x3)] st H Q) (kf : (¬ (2147483639 : Int32) < x3) → zW G d M_AS_newLength 19 [o0, o1, o2, some (.int x3)] st H Q) : zW G d M_AS_newLength 13 [o0, o1, o2, some (.int x3)] st H Q :=
  zw_iload_n (i := 3) dAS_newLength_13 rfl rfl <| zw_ldc dAS_newLength_14 (zt2 60 rfl) <| zw_icmp_gt 21 dAS_newLength_16 (by decide) kt kf
theorem sAS_newLength_19 {G : zG} {d : Nat} {Q : Option Value → Heap → Prop} {H : Heap} {o0 : Option Value} {o1 : Option Value} {o2 : Option Value} {x3 : Int32} (hq : Q (some (.int x3)) H) : zW G d M_AS_newLength 19 [o0, o1, o2, some (.int x3)] [] H Q :=
  zw_iload_n (i := 3) dAS_newLength_19 rfl rfl <| zw_iret dAS_newLength_20 .int rfl rfl hq
theorem sAS_newLength_21 {G : zG} {d : Nat} {Q : Option Value → Heap → Prop} {H : Heap} {st : List Value} {o2 : Option Value} {o3 : Option Value} {x0 : Int32} {x1 : Int32} {P : Int32 → Heap → Prop} (hd : 1 ≤ d) (hl : st.length ≤ 4) (hc : zC G (d - 1) M_AS_hugeLength [(.int x0), (.int x1)] H (zPi P)) (kk : ∀ (r : Int32) (H1 : Heap), P r H1 → zOk G H1 → H.size ≤ H1.size → zT H ≤ zT H1 → zW G d M_AS_newLength 26 [some (.int x0), some (.int x1), o2, o3] ((.int r) :: st) H1 Q) : zW G d M_AS_newLength 21 [some (.int x0), some (.int x1), o2, o3] st H Q :=
  zw_iload_n (i := 0) dAS_newLength_21 rfl rfl <| zw_iload_n (i := 1) dAS_newLength_22 rfl rfl <| zw_callS [(.int x0), (.int x1)] _ dAS_newLength_23 hd zk_AS_201 rfl rfl hl hc (zPi_k kk)
theorem sAS_newLength_26 {G : zG} {d : Nat} {Q : Option Value → Heap → Prop} {H : Heap} {o0 : Option Value} {o1 : Option Value} {o2 : Option Value} {o3 : Option Value} {xs0 : Int32} (hq : Q (some (.int xs0)) H) : zW G d M_AS_newLength 26 [o0, o1, o2, o3] ((.int xs0) :: []) H Q :=
  zw_iret dAS_newLength_26 .int rfl rfl hq
theorem sMa_max_0 {G : zG} {d : Nat} {Q : Option Value → Heap → Prop} {H : Heap} {st : List Value} {x0 : Int32} {x1 : Int32} (kt : (x0 < x1) → zW G d M_Ma_max 9 [some (.int x0), some (.int x1)] st H Q) (kf : (¬ x0 < x1) → zW G d M_Ma_max 5 [some (.int x0), some (.int x1)] st H Q) : zW G d M_Ma_max 0 [some (.int x0), some (.int x1)] st H Q :=
  zw_iload_n (i := 0) dMa_max_0 rfl rfl <| zw_iload_n (i := 1) dMa_max_1 rfl rfl <| zw_icmp_lt 9 dMa_max_2 (by decide) kt kf
theorem sMa_max_5 {G : zG} {d : Nat} {Q : Option Value → Heap → Prop} {H : Heap} {o1 : Option Value} {x0 : Int32} (hq : Q (some (.int x0)) H) : zW G d M_Ma_max 5 [some (.int x0), o1] [] H Q :=
  zw_iload_n (i := 0) dMa_max_5 rfl rfl <| zw_goto 10 dMa_max_6 (by decide) <| zw_iret dMa_max_10 .int rfl rfl hq
theorem sMa_max_9 {G : zG} {d : Nat} {Q : Option Value → Heap → Prop} {H : Heap} {o0 : Option Value} {x1 : Int32} (hq : Q (some (.int x1)) H) : zW G d M_Ma_max 9 [o0, some (.int x1)] [] H Q :=
  zw_iload_n (i := 1) dMa_max_9 rfl rfl <| zw_iret dMa_max_10 .int rfl rfl hq
theorem sMa_max_10 {G : zG} {d : Nat} {Q : Option Value → Heap → Prop} {H : Heap} {o0 : Option Value} {o1 : Option Value} {xs0 : Int32} (hq : Q (some (.int xs0)) H) : zW G d M_Ma_max 10 [o0, o1] ((.int xs0) :: []) H Q :=
  zw_iret dMa_max_10 .int rfl rfl hq
theorem sAS_hugeLength_0 {G : zG} {d : Nat} {Q : Option Value → Heap → Prop} {H : Heap} {st : List Value} {o2 : Option Value} {x0 : Int32} {x1 : Int32} (kt : (0 ≤ (x0 + x1)) → zW G d M_AS_hugeLength 49 [some (.int x0), some (.int x1), some (.int (x0 + x1))] st H Q) (kf : (¬ 0 ≤ (x0 + x1)) → zW G d M_AS_hugeLength 8 [some (.int x0), some (.int x1), some (.int (x0 + x1))] st H Q) : zW G d M_AS_hugeLength 0 [some (.int x0), some (.int x1), o2] st H Q :=
  zw_iload_n (i := 0) dAS_hugeLength_0 rfl rfl <| zw_iload_n (i := 1) dAS_hugeLength_1 rfl rfl <| zw_iadd dAS_hugeLength_2 <| zw_istore_n (i := 2) dAS_hugeLength_3 rfl (Nat.le_of_ble_eq_true rfl) <| zw_iload_n (i := 2) dAS_hugeLength_4 rfl rfl <| zw_if_ge 49 dAS_hugeLength_5 (by decide) kt kf
theorem sAS_hugeLength_11 {G : zG} {d : Nat} {Q : Option Value → Heap → Prop} {H : Heap} {st : List Value} {o0 : Option Value} {o1 : Option Value} {o2 : Option Value} {ws0 : Value} (hcs0 : ws0.category = 1 := by first | rfl | exact zRf.cat (by assumption)) (kk : zW G d M_AS_hugeLength 12 [o0, o1, o2] (ws0 :: ws0 :: st) H Q) : zW G d M_AS_hugeLength 11 [o0, o1, o2] (ws0 :: st) H Q :=
  zw_dup dAS_hugeLength_11 hcs0 <| kk
theorem sAS_hugeLength_15 {G : zG} {d : Nat} {Q : Option Value → Heap → Prop} {H : Heap} {st : List Value} {o0 : Option Value} {o1 : Option Value} {o2 : Option Value} {ws0 : Value} (hcs0 : ws0.category = 1 := by first | rfl | exact zRf.cat (by assumption)) (kk : zW G d M_AS_hugeLength 16 [o0, o1, o2] (ws0 :: ws0 :: st) H Q) : zW G d M_AS_hugeLength 15 [o0, o1, o2] (ws0 :: st) H Q :=
  zw_dup dAS_hugeLength_15 hcs0 <| kk
theorem sAS_hugeLength_24 {G : zG} {d : Nat} {Q : Option Value → Heap → Prop} {H : Heap} {st : List Value} {o1 : Option Value} {o2 : Option Value} {x0 : Int32} (kk : zW G d M_AS_hugeLength 25 [some (.int x0), o1, o2] ((.int x0) :: st) H Q) : zW G d M_AS_hugeLength 24 [some (.int x0), o1, o2] st H Q :=
  zw_iload_n (i := 0) dAS_hugeLength_24 rfl rfl <| kk
theorem sAS_hugeLength_33 {G : zG} {d : Nat} {Q : Option Value → Heap → Prop} {H : Heap} {st : List Value} {o0 : Option Value} {o2 : Option Value} {x1 : Int32} (kk : zW G d M_AS_hugeLength 34 [o0, some (.int x1), o2] ((.int x1) :: st) H Q) : zW G d M_AS_hugeLength 33 [o0, some (.int x1), o2] st H Q :=
  zw_iload_n (i := 1) dAS_hugeLength_33 rfl rfl <| kk
theorem sAS_hugeLength_49 {G : zG} {d : Nat} {Q : Option Value → Heap → Prop} {H : Heap} {st : List Value} {o0 : Option Value} {o1 : Option Value} {x2 : Int32} (kt : ((2147483639 : Int32) < x2) → zW G d M_AS_hugeLength 58 [o0, o1, some (.int x2)] st H Q) (kf : (¬ (2147483639 : Int32) < x2) → zW G d M_AS_hugeLength 55 [o0, o1, some (.int x2)] st H Q) : zW G d M_AS_hugeLength 49 [o0, o1, some (.int x2)] st H Q :=
  zw_iload_n (i := 2) dAS_hugeLength_49 rfl rfl <| zw_ldc dAS_hugeLength_50 (zt2 60 rfl) <| zw_icmp_gt 58 dAS_hugeLength_52 (by decide) kt kf
theorem sAS_hugeLength_55 {G : zG} {d : Nat} {Q : Option Value → Heap → Prop} {H : Heap} {o0 : Option Value} {o1 : Option Value} {o2 : Option Value} (hq : Q (some (.int (2147483639 : Int32))) H) : zW G d M_AS_hugeLength 55 [o0, o1, o2] [] H Q :=
  zw_ldc dAS_hugeLength_55 (zt2 60 rfl) <| zw_iret dAS_hugeLength_57 .int rfl rfl hq
theorem sAS_hugeLength_58 {G : zG} {d : Nat} {Q : Option Value → Heap → Prop} {H : Heap} {o0 : Option Value} {o1 : Option Value} {x2 : Int32} (hq : Q (some (.int x2)) H) : zW G d M_AS_hugeLength 58 [o0, o1, some (.int x2)] [] H Q :=
  zw_iload_n (i := 2) dAS_hugeLength_58 rfl rfl <| zw_iret dAS_hugeLength_59 .int rfl rfl hq
theorem sAr_copyOf_0_0 {G : zG} {d : Nat} {Q : Option Value → Heap → Prop} {H : Heap} {st : List Value} {o2 : Option Value} {x1 : Int32} {a0 : Nat} {n1 : Nat} {t1 : FieldType} {g1 : Nat → Value} (ha1 : zArr G H a0 t1 n1 g1) (kt : (¬ x1 = (nI n1)) → zW G d M_Ar_copyOf_0 14 [some (.ref a0), some (.int x1), o2] st H Q) (kf : (x1 = (nI n1)) → zW G d M_Ar_copyOf_0 6 [some (.ref a0), some (.int x1), o2] st H Q) : zW G d M_Ar_copyOf_0 0 [some (.ref a0), some (.int x1), o2] st H Q :=
  zw_iload_n (i := 1) dAr_copyOf_0_0 rfl rfl <| zw_aload_n (i := 0) dAr_copyOf_0_1 rfl rfl zRf_ref <| zw_alen dAr_copyOf_0_2 ha1 <| zw_icmp_ne 14 dAr_copyOf_0_3 (by decide) kt kf
theorem sAr_copyOf_0_6 {G : zG} {d : Nat} {Q : Option Value → Heap → Prop} {H : Heap} {st : List Value} {o1 : Option Value} {o2 : Option Value} {v0 : Value} (hr0 : zRf v0 := by first | exact zRf_ref | exact zRf_null | exact zRf_rf _ | assumption) (kk : zW G d M_Ar_copyOf_0 7 [some v0, o1, o2] (v0 :: st) H Q) : zW G d M_Ar_copyOf_0 6 [some v0, o1, o2] st H Q :=
  zw_aload_n (i := 0) dAr_copyOf_0_6 rfl rfl hr0 <| kk
theorem sAr_copyOf_0_14 {G : zG} {d : Nat} {Q : Option Value → Heap → Prop} {H : Heap} {st : List Value} {o0 : Option Value} {o2 : Option Value} {x1 : Int32} {N : Nat} (hn : ¬ x1 < 0) (hN : (x1).toNatClampNeg = N) (hb : N * componentBytes .byte ≤ 536870912) (hc1 : H.size + 1 ≤ zCp G) (hs1 : zT H + N ≤ zSp G) (kk : ∀ H1 : Heap, zArr G H1 H.size .byte N (fun _ => defaultValue .byte) → zNw N H H1 → zW G d M_Ar_copyOf_0 17 [o0, some (.int x1), o2] ((.ref H.size) :: st) H1 Q) : zW G d M_Ar_copyOf_0 14 [o0, some (.int x1), o2] st H Q :=
  zw_iload_n (i := 1) dAr_copyOf_0_14 rfl rfl <| zw_newa .byte dAr_copyOf_0_15 rfl (zt1 68 rfl) hn hN hb hc1 hs1 kk
theorem sAr_copyOf_0_17 {G : zG} {d : Nat} {Q : Option Value → Heap → Prop} {H : Heap} {st : List Value} {o2 : Option Value} {vs0 : Value} {a0 : Nat} {x1 : Int32} {n1 : Nat} {t1 : FieldType} {g1 : Nat → Value} {P : Int32 → Heap → Prop} (hrs0 : zRf vs0 := by first | exact zRf_ref | exact zRf_null | exact zRf_rf _ | assumption) (ha1 : zArr G H a0 t1 n1 g1) (hd : 1 ≤ d) (hl : ((.int (0 : Int32)) :: vs0 :: (.int (0 : Int32)) :: (.ref a0) :: st).length ≤ 4) (hc : zC G (d - 1) M_Ma_min [(.int (nI n1)), (.int x1)] H (zPi P)) (kk : ∀ (r : Int32) (H1 : Heap), P r H1 → zOk G H1 → H.size ≤ H1.size → zT H ≤ zT H1 → zW G d M_Ar_copyOf_0 28 [some (.ref a0), some (.int x1), some vs0] ((.int r) :: (.int (0 : Int32)) :: vs0 :: (.int (0 : Int32)) :: (.ref a0) :: st) H1 Q) : zW G d M_Ar_copyOf_0 17 [some (.ref a0), some (.int x1), o2] (vs0 :: st) H Q :=
  zw_astore_n (i := 2) dAr_copyOf_0_17 rfl (Nat.le_of_ble_eq_true rfl) hrs0 <| zw_aload_n (i := 0) dAr_copyOf_0_18 rfl rfl zRf_ref <| zw_iconst (0 : Int32) dAr_copyOf_0_19 zki_0 <| zw_aload_n (i := 2) dAr_copyOf_0_20 rfl rfl hrs0 <| zw_iconst (0 : Int32) dAr_copyOf_0_21 zki_0 <| zw_aload_n (i := 0) dAr_copyOf_0_22 rfl rfl zRf_ref <| zw_alen dAr_copyOf_0_23 ha1 <| zw_iload_n (i := 1) dAr_copyOf_0_24 rfl rfl <| zw_callS [(.int (nI n1)), (.int x1)] _ dAr_copyOf_0_25 hd zk_Ar_304 rfl rfl hl hc (zPi_k kk)
theorem sAr_copyOf_0_31 {G : zG} {d : Nat} {Q : Option Value → Heap → Prop} {H : Heap} {o0 : Option Value} {o1 : Option Value} {v2 : Value} (hr2 : zRf v2 := by first | exact zRf_ref | exact zRf_null | exact zRf_rf _ | assumption) (hq : Q (some v2) H) : zW G d M_Ar_copyOf_0 31 [o0, o1, some v2] [] H Q :=
  zw_aload_n (i := 2) dAr_copyOf_0_31 rfl rfl hr2 <| zw_aret dAr_copyOf_0_32 (.array .byte) rfl (Or.inr ⟨_, rfl⟩) hr2 hq
theorem sMa_min_0 {G : zG} {d : Nat} {Q : Option Value → Heap → Prop} {H : Heap} {st : List Value} {x0 : Int32} {x1 : Int32} (kt : (x1 < x0) → zW G d M_Ma_min 9 [some (.int x0), some (.int x1)] st H Q) (kf : (¬ x1 < x0) → zW G d M_Ma_min 5 [some (.int x0), some (.int x1)] st H Q) : zW G d M_Ma_min 0 [some (.int x0), some (.int x1)] st H Q :=
  zw_iload_n (i := 0) dMa_min_0 rfl rfl <| zw_iload_n (i := 1) dMa_min_1 rfl rfl <| zw_icmp_gt 9 dMa_min_2 (by decide) kt kf
theorem sMa_min_5 {G : zG} {d : Nat} {Q : Option Value → Heap → Prop} {H : Heap} {o1 : Option Value} {x0 : Int32} (hq : Q (some (.int x0)) H) : zW G d M_Ma_min 5 [some (.int x0), o1] [] H Q :=
  zw_iload_n (i := 0) dMa_min_5 rfl rfl <| zw_goto 10 dMa_min_6 (by decide) <| zw_iret dMa_min_10 .int rfl rfl hq
theorem sMa_min_9 {G : zG} {d : Nat} {Q : Option Value → Heap → Prop} {H : Heap} {o0 : Option Value} {x1 : Int32} (hq : Q (some (.int x1)) H) : zW G d M_Ma_min 9 [o0, some (.int x1)] [] H Q :=
  zw_iload_n (i := 1) dMa_min_9 rfl rfl <| zw_iret dMa_min_10 .int rfl rfl hq
theorem sMa_min_10 {G : zG} {d : Nat} {Q : Option Value → Heap → Prop} {H : Heap} {o0 : Option Value} {o1 : Option Value} {xs0 : Int32} (hq : Q (some (.int xs0)) H) : zW G d M_Ma_min 10 [o0, o1] ((.int xs0) :: []) H Q :=
  zw_iret dMa_min_10 .int rfl rfl hq
theorem sAr_fill_0 {G : zG} {d : Nat} {Q : Option Value → Heap → Prop} {H : Heap} {st : List Value} {o3 : Option Value} {o4 : Option Value} {a0 : Nat} {x1 : Int32} {x2 : Int32} {n1 : Nat} {t1 : FieldType} {g1 : Nat → Value} {P : Heap → Prop} (ha1 : zArr G H a0 t1 n1 g1) (hd : 1 ≤ d) (hl : st.length ≤ 4) (hc : zC G (d - 1) M_Ar_rangeCheck [(.int (nI n1)), (.int x1), (.int x2)] H (zPv P)) (kk : ∀ H1 : Heap, P H1 → zOk G H1 → H.size ≤ H1.size → zT H ≤ zT H1 → zW G d M_Ar_fill 7 [some (.ref a0), some (.int x1), some (.int x2), o3, o4] st H1 Q) : zW G d M_Ar_fill 0 [some (.ref a0), some (.int x1), some (.int x2), o3, o4] st H Q :=
  zw_aload_n (i := 0) dAr_fill_0 rfl rfl zRf_ref <| zw_alen dAr_fill_1 ha1 <| zw_iload_n (i := 1) dAr_fill_2 rfl rfl <| zw_iload_n (i := 2) dAr_fill_3 rfl rfl <| zw_callS [(.int (nI n1)), (.int x1), (.int x2)] _ dAr_fill_4 hd zk_Ar_13 rfl rfl hl hc (zPv_k kk)
theorem sAr_fill_7 {G : zG} {d : Nat} {Q : Option Value → Heap → Prop} {H : Heap} {st : List Value} {o0 : Option Value} {o2 : Option Value} {o3 : Option Value} {o4 : Option Value} {x1 : Int32} (kk : zW G d M_Ar_fill 10 [o0, some (.int x1), o2, o3, some (.int x1)] st H Q) : zW G d M_Ar_fill 7 [o0, some (.int x1), o2, o3, o4] st H Q :=
  zw_iload_n (i := 1) dAr_fill_7 rfl rfl <| zw_istore (i := 4) dAr_fill_8 (Nat.le_of_ble_eq_true rfl) <| kk
theorem sAr_fill_10 {G : zG} {d : Nat} {Q : Option Value → Heap → Prop} {H : Heap} {st : List Value} {o0 : Option Value} {o1 : Option Value} {o3 : Option Value} {x4 : Int32} {x2 : Int32} (kt : (x2 ≤ x4) → zW G d M_Ar_fill 27 [o0, o1, some (.int x2), o3, some (.int x4)] st H Q) (kf : (¬ x2 ≤ x4) → zW G d M_Ar_fill 16 [o0, o1, some (.int x2), o3, some (.int x4)] st H Q) : zW G d M_Ar_fill 10 [o0, o1, some (.int x2), o3, some (.int x4)] st H Q :=
  zw_iload (i := 4) dAr_fill_10 rfl <| zw_iload_n (i := 2) dAr_fill_12 rfl rfl <| zw_icmp_ge 27 dAr_fill_13 (by decide) kt kf
theorem sAr_fill_16 {G : zG} {d : Nat} {Q : Option Value → Heap → Prop} {H : Heap} {st : List Value} {o1 : Option Value} {o2 : Option Value} {a0 : Nat} {x4 : Int32} {x3 : Int32} {n : Nat} {g : Nat → Value} (ha : zArr G H a0 .byte n g) (hi : vp_in x4 n) (hw : zFr G a0) (kk : ∀ H1 : Heap, zArr G H1 a0 .byte n (updV g (x4).toNatClampNeg (.int (x3).toInt8.toInt32)) → zUp a0 H H1 → zW G d M_Ar_fill 21 [some (.ref a0), o1, o2, some (.int x3), some (.int x4)] st H1 Q) : zW G d M_Ar_fill 16 [some (.ref a0), o1, o2, some (.int x3), some (.int x4)] st H Q :=
  zw_aload_n (i := 0) dAr_fill_16 rfl rfl zRf_ref <| zw_iload (i := 4) dAr_fill_17 rfl <| zw_iload_n (i := 3) dAr_fill_19 rfl rfl <| zw_bast dAr_fill_20 ha hi hw kk
theorem sAr_fill_21 {G : zG} {d : Nat} {Q : Option Value → Heap → Prop} {H : Heap} {st : List Value} {o0 : Option Value} {o1 : Option Value} {o2 : Option Value} {o3 : Option Value} {x4 : Int32} (kk : zW G d M_Ar_fill 10 [o0, o1, o2, o3, some (.int (x4 + (1 : Int32)))] st H Q) : zW G d M_Ar_fill 21 [o0, o1, o2, o3, some (.int x4)] st H Q :=
  zw_iinc (i := 4) (x4 + (1 : Int32)) dAr_fill_21 rfl (by rw [zki_1]) <| zw_goto 10 dAr_fill_24 (by decide) <| kk
theorem sAr_fill_27 {G : zG} {d : Nat} {Q : Option Value → Heap → Prop} {H : Heap} {o0 : Option Value} {o1 : Option Value} {o2 : Option Value} {o3 : Option Value} {o4 : Option Value} (hq : Q none H) : zW G d M_Ar_fill 27 [o0, o1, o2, o3, o4] [] H Q :=
  zw_vret dAr_fill_27 rfl hq
theorem sAr_rangeCheck_0 {G : zG} {d : Nat} {Q : Option Value → Heap → Prop} {H : Heap} {st : List Value} {o0 : Option Value} {x1 : Int32} {x2 : Int32} (kt : (x1 ≤ x2) → zW G d M_Ar_rangeCheck 46 [o0, some (.int x1), some (.int x2)] st H Q) (kf : (¬ x1 ≤ x2) → zW G d M_Ar_rangeCheck 5 [o0, some (.int x1), some (.int x2)] st H Q) : zW G d M_Ar_rangeCheck 0 [o0, some (.int x1), some (.int x2)] st H Q :=
  zw_iload_n (i := 1) dAr_rangeCheck_0 rfl rfl <| zw_iload_n (i := 2) dAr_rangeCheck_1 rfl rfl <| zw_icmp_le 46 dAr_rangeCheck_2 (by decide) kt kf
theorem sAr_rangeCheck_8 {G : zG} {d : Nat} {Q : Option Value → Heap → Prop} {H : Heap} {st : List Value} {o0 : Option Value} {o1 : Option Value} {o2 : Option Value} {ws0 : Value} (hcs0 : ws0.category = 1 := by first | rfl | exact zRf.cat (by assumption)) (kk : zW G d M_Ar_rangeCheck 9 [o0, o1, o2] (ws0 :: ws0 :: st) H Q) : zW G d M_Ar_rangeCheck 8 [o0, o1, o2] (ws0 :: st) H Q :=
  zw_dup dAr_rangeCheck_8 hcs0 <| kk
theorem sAr_rangeCheck_12 {G : zG} {d : Nat} {Q : Option Value → Heap → Prop} {H : Heap} {st : List Value} {o0 : Option Value} {o1 : Option Value} {o2 : Option Value} {ws0 : Value} (hcs0 : ws0.category = 1 := by first | rfl | exact zRf.cat (by assumption)) (kk : zW G d M_Ar_rangeCheck 13 [o0, o1, o2] (ws0 :: ws0 :: st) H Q) : zW G d M_Ar_rangeCheck 12 [o0, o1, o2] (ws0 :: st) H Q :=
  zw_dup dAr_rangeCheck_12 hcs0 <| kk
theorem sAr_rangeCheck_21 {G : zG} {d : Nat} {Q : Option Value → Heap → Prop} {H : Heap} {st : List Value} {o0 : Option Value} {o2 : Option Value} {x1 : Int32} (kk : zW G d M_Ar_rangeCheck 22 [o0, some (.int x1), o2] ((.int x1) :: st) H Q) : zW G d M_Ar_rangeCheck 21 [o0, some (.int x1), o2] st H Q :=
  zw_iload_n (i := 1) dAr_rangeCheck_21 rfl rfl <| kk
theorem sAr_rangeCheck_30 {G : zG} {d : Nat} {Q : Option Value → Heap → Prop} {H : Heap} {st : List Value} {o0 : Option Value} {o1 : Option Value} {x2 : Int32} (kk : zW G d M_Ar_rangeCheck 31 [o0, o1, some (.int x2)] ((.int x2) :: st) H Q) : zW G d M_Ar_rangeCheck 30 [o0, o1, some (.int x2)] st H Q :=
  zw_iload_n (i := 2) dAr_rangeCheck_30 rfl rfl <| kk
theorem sAr_rangeCheck_46 {G : zG} {d : Nat} {Q : Option Value → Heap → Prop} {H : Heap} {st : List Value} {o0 : Option Value} {o2 : Option Value} {x1 : Int32} (kt : (0 ≤ x1) → zW G d M_Ar_rangeCheck 59 [o0, some (.int x1), o2] st H Q) (kf : (¬ 0 ≤ x1) → zW G d M_Ar_rangeCheck 50 [o0, some (.int x1), o2] st H Q) : zW G d M_Ar_rangeCheck 46 [o0, some (.int x1), o2] st H Q :=
  zw_iload_n (i := 1) dAr_rangeCheck_46 rfl rfl <| zw_if_ge 59 dAr_rangeCheck_47 (by decide) kt kf
theorem sAr_rangeCheck_53 {G : zG} {d : Nat} {Q : Option Value → Heap → Prop} {H : Heap} {st : List Value} {o0 : Option Value} {o2 : Option Value} {ws0 : Value} {x1 : Int32} (hcs0 : ws0.category = 1 := by first | rfl | exact zRf.cat (by assumption)) (kk : zW G d M_Ar_rangeCheck 55 [o0, some (.int x1), o2] ((.int x1) :: ws0 :: ws0 :: st) H Q) : zW G d M_Ar_rangeCheck 53 [o0, some (.int x1), o2] (ws0 :: st) H Q :=
  zw_dup dAr_rangeCheck_53 hcs0 <| zw_iload_n (i := 1) dAr_rangeCheck_54 rfl rfl <| kk
theorem sAr_rangeCheck_59 {G : zG} {d : Nat} {Q : Option Value → Heap → Prop} {H : Heap} {st : List Value} {o1 : Option Value} {x2 : Int32} {x0 : Int32} (kt : (x2 ≤ x0) → zW G d M_Ar_rangeCheck 73 [some (.int x0), o1, some (.int x2)] st H Q) (kf : (¬ x2 ≤ x0) → zW G d M_Ar_rangeCheck 64 [some (.int x0), o1, some (.int x2)] st H Q) : zW G d M_Ar_rangeCheck 59 [some (.int x0), o1, some (.int x2)] st H Q :=
  zw_iload_n (i := 2) dAr_rangeCheck_59 rfl rfl <| zw_iload_n (i := 0) dAr_rangeCheck_60 rfl rfl <| zw_icmp_le 73 dAr_rangeCheck_61 (by decide) kt kf
theorem sAr_rangeCheck_67 {G : zG} {d : Nat} {Q : Option Value → Heap → Prop} {H : Heap} {st : List Value} {o0 : Option Value} {o1 : Option Value} {ws0 : Value} {x2 : Int32} (hcs0 : ws0.category = 1 := by first | rfl | exact zRf.cat (by assumption)) (kk : zW G d M_Ar_rangeCheck 69 [o0, o1, some (.int x2)] ((.int x2) :: ws0 :: ws0 :: st) H Q) : zW G d M_Ar_rangeCheck 67 [o0, o1, some (.int x2)] (ws0 :: st) H Q :=
  zw_dup dAr_rangeCheck_67 hcs0 <| zw_iload_n (i := 2) dAr_rangeCheck_68 rfl rfl <| kk
theorem sAr_rangeCheck_73 {G : zG} {d : Nat} {Q : Option Value → Heap → Prop} {H : Heap} {o0 : Option Value} {o1 : Option Value} {o2 : Option Value} (hq : Q none H) : zW G d M_Ar_rangeCheck 73 [o0, o1, o2] [] H Q :=
  zw_vret dAr_rangeCheck_73 rfl hq
theorem sAr_copyOfRange_0 {G : zG} {d : Nat} {Q : Option Value → Heap → Prop} {H : Heap} {st : List Value} {o0 : Option Value} {o2 : Option Value} {x1 : Int32} (kt : (¬ x1 = 0) → zW G d M_Ar_copyOfRange 10 [o0, some (.int x1), o2] st H Q) (kf : (x1 = 0) → zW G d M_Ar_copyOfRange 4 [o0, some (.int x1), o2] st H Q) : zW G d M_Ar_copyOfRange 0 [o0, some (.int x1), o2] st H Q :=
  zw_iload_n (i := 1) dAr_copyOfRange_0 rfl rfl <| zw_if_ne 10 dAr_copyOfRange_1 (by decide) kt kf
theorem sAr_copyOfRange_4 {G : zG} {d : Nat} {Q : Option Value → Heap → Prop} {H : Heap} {st : List Value} {o1 : Option Value} {x2 : Int32} {a0 : Nat} {n1 : Nat} {t1 : FieldType} {g1 : Nat → Value} (ha1 : zArr G H a0 t1 n1 g1) (kt : (x2 = (nI n1)) → zW G d M_Ar_copyOfRange 17 [some (.ref a0), o1, some (.int x2)] st H Q) (kf : (¬ x2 = (nI n1)) → zW G d M_Ar_copyOfRange 10 [some (.ref a0), o1, some (.int x2)] st H Q) : zW G d M_Ar_copyOfRange 4 [some (.ref a0), o1, some (.int x2)] st H Q :=
  zw_iload_n (i := 2) dAr_copyOfRange_4 rfl rfl <| zw_aload_n (i := 0) dAr_copyOfRange_5 rfl rfl zRf_ref <| zw_alen dAr_copyOfRange_6 ha1 <| zw_icmp_eq 17 dAr_copyOfRange_7 (by decide) kt kf
theorem sAr_copyOfRange_10 {G : zG} {d : Nat} {Q : Option Value → Heap → Prop} {H : Heap} {st : List Value} {v0 : Value} {x1 : Int32} {x2 : Int32} {P : Value → Heap → Prop} (hr0 : zRf v0 := by first | exact zRf_ref | exact zRf_null | exact zRf_rf _ | assumption) (hd : 1 ≤ d) (hl : st.length ≤ 4) (hc : zC G (d - 1) M_Ar_copyOfRangeByte [v0, (.int x1), (.int x2)] H (zPr P)) (kk : ∀ (r : Value) (H1 : Heap), zRf r → P r H1 → zOk G H1 → H.size ≤ H1.size → zT H ≤ zT H1 → zW G d M_Ar_copyOfRange 16 [some v0, some (.int x1), some (.int x2)] (r :: st) H1 Q) : zW G d M_Ar_copyOfRange 10 [some v0, some (.int x1), some (.int x2)] st H Q :=
  zw_aload_n (i := 0) dAr_copyOfRange_10 rfl rfl hr0 <| zw_iload_n (i := 1) dAr_copyOfRange_11 rfl rfl <| zw_iload_n (i := 2) dAr_copyOfRange_12 rfl rfl <| zw_callS [v0, (.int x1), (.int x2)] _ dAr_copyOfRange_13 hd zk_Ar_339 rfl rfl hl hc (zPr_k kk)
theorem sAr_copyOfRange_16 {G : zG} {d : Nat} {Q : Option Value → Heap → Prop} {H : Heap} {o0 : Option Value} {o1 : Option Value} {o2 : Option Value} {vs0 : Value} (hrs0 : zRf vs0 := by first | exact zRf_ref | exact zRf_null | exact zRf_rf _ | assumption) (hq : Q (some vs0) H) : zW G d M_Ar_copyOfRange 16 [o0, o1, o2] (vs0 :: []) H Q :=
  zw_aret dAr_copyOfRange_16 (.array .byte) rfl (Or.inr ⟨_, rfl⟩) hrs0 hq
theorem sAr_copyOfRange_17 {G : zG} {d : Nat} {Q : Option Value → Heap → Prop} {H : Heap} {st : List Value} {o1 : Option Value} {o2 : Option Value} {v0 : Value} (hr0 : zRf v0 := by first | exact zRf_ref | exact zRf_null | exact zRf_rf _ | assumption) (kk : zW G d M_Ar_copyOfRange 18 [some v0, o1, o2] (v0 :: st) H Q) : zW G d M_Ar_copyOfRange 17 [some v0, o1, o2] st H Q :=
  zw_aload_n (i := 0) dAr_copyOfRange_17 rfl rfl hr0 <| kk
theorem sAr_copyOfRangeByte_0 {G : zG} {d : Nat} {Q : Option Value → Heap → Prop} {H : Heap} {st : List Value} {o0 : Option Value} {o3 : Option Value} {o4 : Option Value} {x1 : Int32} {x2 : Int32} {P : Heap → Prop} (hd : 1 ≤ d) (hl : st.length ≤ 4) (hc : zC G (d - 1) M_Ar_checkLength [(.int x1), (.int x2)] H (zPv P)) (kk : ∀ H1 : Heap, P H1 → zOk G H1 → H.size ≤ H1.size → zT H ≤ zT H1 → zW G d M_Ar_copyOfRangeByte 5 [o0, some (.int x1), some (.int x2), o3, o4] st H1 Q) : zW G d M_Ar_copyOfRangeByte 0 [o0, some (.int x1), some (.int x2), o3, o4] st H Q :=
  zw_iload_n (i := 1) dAr_copyOfRangeByte_0 rfl rfl <| zw_iload_n (i := 2) dAr_copyOfRangeByte_1 rfl rfl <| zw_callS [(.int x1), (.int x2)] _ dAr_copyOfRangeByte_2 hd zk_Ar_343 rfl rfl hl hc (zPv_k kk)
theorem sAr_copyOfRangeByte_5 {G : zG} {d : Nat} {Q : Option Value → Heap → Prop} {H : Heap} {st : List Value} {o0 : Option Value} {o3 : Option Value} {o4 : Option Value} {x2 : Int32} {x1 : Int32} {N : Nat} (hn : ¬ (x2 - x1) < 0) (hN : ((x2 - x1)).toNatClampNeg = N) (hb : N * componentBytes .byte ≤ 536870912) (hc1 : H.size + 1 ≤ zCp G) (hs1 : zT H + N ≤ zSp G) (kk : ∀ H1 : Heap, zArr G H1 H.size .byte N (fun _ => defaultValue .byte) → zNw N H H1 → zW G d M_Ar_copyOfRangeByte 12 [o0, some (.int x1), some (.int x2), some (.int (x2 - x1)), o4] ((.ref H.size) :: st) H1 Q) : zW G d M_Ar_copyOfRangeByte 5 [o0, some (.int x1), some (.int x2), o3, o4] st H Q :=
  zw_iload_n (i := 2) dAr_copyOfRangeByte_5 rfl rfl <| zw_iload_n (i := 1) dAr_copyOfRangeByte_6 rfl rfl <| zw_isub dAr_copyOfRangeByte_7 <| zw_istore_n (i := 3) dAr_copyOfRangeByte_8 rfl (Nat.le_of_ble_eq_true rfl) <| zw_iload_n (i := 3) dAr_copyOfRangeByte_9 rfl rfl <| zw_newa .byte dAr_copyOfRangeByte_10 rfl (zt1 68 rfl) hn hN hb hc1 hs1 kk
theorem sAr_copyOfRangeByte_12 {G : zG} {d : Nat} {Q : Option Value → Heap → Prop} {H : Heap} {st : List Value} {o2 : Option Value} {o4 : Option Value} {vs0 : Value} {a0 : Nat} {x1 : Int32} {x3 : Int32} {n1 : Nat} {t1 : FieldType} {g1 : Nat → Value} {P : Int32 → Heap → Prop} (hrs0 : zRf vs0 := by first | exact zRf_ref | exact zRf_null | exact zRf_rf _ | assumption) (ha1 : zArr G H a0 t1 n1 g1) (hd : 1 ≤ d) (hl : ((.int (0 : Int32)) :: vs0 :: (.int x1) :: (.ref a0) :: st).length ≤ 4) (hc : zC G (d - 1) M_Ma_min [(.int ((nI n1) - x1)), (.int x3)] H (zPi P)) (kk : ∀ (r : Int32) (H1 : Heap), P r H1 → zOk G H1 → H.size ≤ H1.size → zT H ≤ zT H1 → zW G d M_Ar_copyOfRangeByte 27 [some (.ref a0), some (.int x1), o2, some (.int x3), some vs0] ((.int r) :: (.int (0 : Int32)) :: vs0 :: (.int x1) :: (.ref a0) :: st) H1 Q) : zW G d M_Ar_copyOfRangeByte 12 [some (.ref a0), some (.int x1), o2, some (.int x3), o4] (vs0 :: st) H Q :=
  zw_astore (i := 4) dAr_copyOfRangeByte_12 (Nat.le_of_ble_eq_true rfl) hrs0 <| zw_aload_n (i := 0) dAr_copyOfRangeByte_14 rfl rfl zRf_ref <| zw_iload_n (i := 1) dAr_copyOfRangeByte_15 rfl rfl <| zw_aload (i := 4) dAr_copyOfRangeByte_16 rfl hrs0 <| zw_iconst (0 : Int32) dAr_copyOfRangeByte_18 zki_0 <| zw_aload_n (i := 0) dAr_copyOfRangeByte_19 rfl rfl zRf_ref <| zw_alen dAr_copyOfRangeByte_20 ha1 <| zw_iload_n (i := 1) dAr_copyOfRangeByte_21 rfl rfl <| zw_isub dAr_copyOfRangeByte_22 <| zw_iload_n (i := 3) dAr_copyOfRangeByte_23 rfl rfl <| zw_callS [(.int ((nI n1) - x1)), (.int x3)] _ dAr_copyOfRangeByte_24 hd zk_Ar_304 rfl rfl hl hc (zPi_k kk)
theorem sAr_copyOfRangeByte_30 {G : zG} {d : Nat} {Q : Option Value → Heap → Prop} {H : Heap} {o0 : Option Value} {o1 : Option Value} {o2 : Option Value} {o3 : Option Value} {v4 : Value} (hr4 : zRf v4 := by first | exact zRf_ref | exact zRf_null | exact zRf_rf _ | assumption) (hq : Q (some v4) H) : zW G d M_Ar_copyOfRangeByte 30 [o0, o1, o2, o3, some v4] [] H Q :=
  zw_aload (i := 4) dAr_copyOfRangeByte_30 rfl hr4 <| zw_aret dAr_copyOfRangeByte_32 (.array .byte) rfl (Or.inr ⟨_, rfl⟩) hr4 hq
theorem sAr_checkLength_0 {G : zG} {d : Nat} {Q : Option Value → Heap → Prop} {H : Heap} {st : List Value} {x1 : Int32} {x0 : Int32} (kt : (x0 ≤ x1) → zW G d M_Ar_checkLength 37 [some (.int x0), some (.int x1)] st H Q) (kf : (¬ x0 ≤ x1) → zW G d M_Ar_checkLength 5 [some (.int x0), some (.int x1)] st H Q) : zW G d M_Ar_checkLength 0 [some (.int x0), some (.int x1)] st H Q :=
  zw_iload_n (i := 1) dAr_checkLength_0 rfl rfl <| zw_iload_n (i := 0) dAr_checkLength_1 rfl rfl <| zw_icmp_ge 37 dAr_checkLength_2 (by decide) kt kf
theorem sAr_checkLength_8 {G : zG} {d : Nat} {Q : Option Value → Heap → Prop} {H : Heap} {st : List Value} {o0 : Option Value} {o1 : Option Value} {ws0 : Value} (hcs0 : ws0.category = 1 := by first | rfl | exact zRf.cat (by assumption)) (kk : zW G d M_Ar_checkLength 9 [o0, o1] (ws0 :: ws0 :: st) H Q) : zW G d M_Ar_checkLength 8 [o0, o1] (ws0 :: st) H Q :=
  zw_dup dAr_checkLength_8 hcs0 <| kk
theorem sAr_checkLength_12 {G : zG} {d : Nat} {Q : Option Value → Heap → Prop} {H : Heap} {st : List Value} {o0 : Option Value} {o1 : Option Value} {ws0 : Value} (hcs0 : ws0.category = 1 := by first | rfl | exact zRf.cat (by assumption)) (kk : zW G d M_Ar_checkLength 13 [o0, o1] (ws0 :: ws0 :: st) H Q) : zW G d M_Ar_checkLength 12 [o0, o1] (ws0 :: st) H Q :=
  zw_dup dAr_checkLength_12 hcs0 <| kk
theorem sAr_checkLength_16 {G : zG} {d : Nat} {Q : Option Value → Heap → Prop} {H : Heap} {st : List Value} {o1 : Option Value} {x0 : Int32} (kk : zW G d M_Ar_checkLength 17 [some (.int x0), o1] ((.int x0) :: st) H Q) : zW G d M_Ar_checkLength 16 [some (.int x0), o1] st H Q :=
  zw_iload_n (i := 0) dAr_checkLength_16 rfl rfl <| kk
theorem sAr_checkLength_26 {G : zG} {d : Nat} {Q : Option Value → Heap → Prop} {H : Heap} {st : List Value} {o0 : Option Value} {x1 : Int32} (kk : zW G d M_Ar_checkLength 27 [o0, some (.int x1)] ((.int x1) :: st) H Q) : zW G d M_Ar_checkLength 26 [o0, some (.int x1)] st H Q :=
  zw_iload_n (i := 1) dAr_checkLength_26 rfl rfl <| kk
theorem sAr_checkLength_37 {G : zG} {d : Nat} {Q : Option Value → Heap → Prop} {H : Heap} {o0 : Option Value} {o1 : Option Value} (hq : Q none H) : zW G d M_Ar_checkLength 37 [o0, o1] [] H Q :=
  zw_vret dAr_checkLength_37 rfl hq
theorem sAr_copyOf_1_0 {G : zG} {d : Nat} {Q : Option Value → Heap → Prop} {H : Heap} {st : List Value} {v0 : Value} {x1 : Int32} (hr0 : zRf v0 := by first | exact zRf_ref | exact zRf_null | exact zRf_rf _ | assumption) (kk : zW G d M_Ar_copyOf_1 3 [some v0, some (.int x1)] (v0 :: (.int x1) :: v0 :: st) H Q) : zW G d M_Ar_copyOf_1 0 [some v0, some (.int x1)] st H Q :=
  zw_aload_n (i := 0) dAr_copyOf_1_0 rfl rfl hr0 <| zw_iload_n (i := 1) dAr_copyOf_1_1 rfl rfl <| zw_aload_n (i := 0) dAr_copyOf_1_2 rfl rfl hr0 <| kk
theorem sAr_copyOf_1_6 {G : zG} {d : Nat} {Q : Option Value → Heap → Prop} {H : Heap} {st : List Value} {o0 : Option Value} {o1 : Option Value} {vs0 : Value} {xs1 : Int32} {vs2 : Value} {P : Value → Heap → Prop} (hrs0 : zRf vs0 := by first | exact zRf_ref | exact zRf_null | exact zRf_rf _ | assumption) (hrs2 : zRf vs2 := by first | exact zRf_ref | exact zRf_null | exact zRf_rf _ | assumption) (hd : 1 ≤ d) (hl : st.length ≤ 4) (hc : zC G (d - 1) M_Ar_copyOf_2 [vs2, (.int xs1), vs0] H (zPr P)) (kk : ∀ (r : Value) (H1 : Heap), zRf r → P r H1 → zOk G H1 → H.size ≤ H1.size → zT H ≤ zT H1 → zW G d M_Ar_copyOf_1 9 [o0, o1] (r :: st) H1 Q) : zW G d M_Ar_copyOf_1 6 [o0, o1] (vs0 :: (.int xs1) :: vs2 :: st) H Q :=
  zw_callS [vs2, (.int xs1), vs0] _ dAr_copyOf_1_6 hd zk_Ar_300 rfl rfl hl hc (zPr_k kk)
theorem sAr_copyOf_1_9 {G : zG} {d : Nat} {Q : Option Value → Heap → Prop} {H : Heap} {o0 : Option Value} {o1 : Option Value} {vs0 : Value} (hrs0 : zRf vs0 := by first | exact zRf_ref | exact zRf_null | exact zRf_rf _ | assumption) (hq : Q (some vs0) H) : zW G d M_Ar_copyOf_1 9 [o0, o1] (vs0 :: []) H Q :=
  zw_aret dAr_copyOf_1_9 (.array (.object "java/lang/Object")) rfl (Or.inr ⟨_, rfl⟩) hrs0 hq
theorem sAr_copyOf_2_0 {G : zG} {d : Nat} {Q : Option Value → Heap → Prop} {H : Heap} {st : List Value} {o0 : Option Value} {o1 : Option Value} {o3 : Option Value} {v2 : Value} (hr2 : zRf v2 := by first | exact zRf_ref | exact zRf_null | exact zRf_rf _ | assumption) (kk : zW G d M_Ar_copyOf_2 1 [o0, o1, some v2, o3] (v2 :: st) H Q) : zW G d M_Ar_copyOf_2 0 [o0, o1, some v2, o3] st H Q :=
  zw_aload_n (i := 2) dAr_copyOf_2_0 rfl rfl hr2 <| kk
theorem sAr_copyOf_2_6 {G : zG} {d : Nat} {Q : Option Value → Heap → Prop} {H : Heap} {st : List Value} {o0 : Option Value} {o2 : Option Value} {o3 : Option Value} {x1 : Int32} (kk : zW G d M_Ar_copyOf_2 7 [o0, some (.int x1), o2, o3] ((.int x1) :: st) H Q) : zW G d M_Ar_copyOf_2 6 [o0, some (.int x1), o2, o3] st H Q :=
  zw_iload_n (i := 1) dAr_copyOf_2_6 rfl rfl <| kk
theorem sAr_copyOf_2_10 {G : zG} {d : Nat} {Q : Option Value → Heap → Prop} {H : Heap} {st : List Value} {o2 : Option Value} {o3 : Option Value} {vs0 : Value} {a0 : Nat} {x1 : Int32} {n1 : Nat} {t1 : FieldType} {g1 : Nat → Value} {P : Int32 → Heap → Prop} (hrs0 : zRf vs0 := by first | exact zRf_ref | exact zRf_null | exact zRf_rf _ | assumption) (ha1 : zArr G H a0 t1 n1 g1) (hd : 1 ≤ d) (hl : ((.int (0 : Int32)) :: vs0 :: (.int (0 : Int32)) :: (.ref a0) :: st).length ≤ 4) (hc : zC G (d - 1) M_Ma_min [(.int (nI n1)), (.int x1)] H (zPi P)) (kk : ∀ (r : Int32) (H1 : Heap), P r H1 → zOk G H1 → H.size ≤ H1.size → zT H ≤ zT H1 → zW G d M_Ar_copyOf_2 35 [some (.ref a0), some (.int x1), o2, some vs0] ((.int r) :: (.int (0 : Int32)) :: vs0 :: (.int (0 : Int32)) :: (.ref a0) :: st) H1 Q) : zW G d M_Ar_copyOf_2 10 [some (.ref a0), some (.int x1), o2, o3] (vs0 :: st) H Q :=
  zw_goto 24 dAr_copyOf_2_10 (by decide) <| zw_astore_n (i := 3) dAr_copyOf_2_24 rfl (Nat.le_of_ble_eq_true rfl) hrs0 <| zw_aload_n (i := 0) dAr_copyOf_2_25 rfl rfl zRf_ref <| zw_iconst (0 : Int32) dAr_copyOf_2_26 zki_0 <| zw_aload_n (i := 3) dAr_copyOf_2_27 rfl rfl hrs0 <| zw_iconst (0 : Int32) dAr_copyOf_2_28 zki_0 <| zw_aload_n (i := 0) dAr_copyOf_2_29 rfl rfl zRf_ref <| zw_alen dAr_copyOf_2_30 ha1 <| zw_iload_n (i := 1) dAr_copyOf_2_31 rfl rfl <| zw_callS [(.int (nI n1)), (.int x1)] _ dAr_copyOf_2_32 hd zk_Ar_304 rfl rfl hl hc (zPi_k kk)
theorem sAr_copyOf_2_13 {G : zG} {d : Nat} {Q : Option Value → Heap → Prop} {H : Heap} {st : List Value} {o0 : Option Value} {o1 : Option Value} {o3 : Option Value} {v2 : Value} (hr2 : zRf v2 := by first | exact zRf_ref | exact zRf_null | exact zRf_rf _ | assumption) (kk : zW G d M_Ar_copyOf_2 14 [o0, o1, some v2, o3] (v2 :: st) H Q) : zW G d M_Ar_copyOf_2 13 [o0, o1, some v2, o3] st H Q :=
  zw_aload_n (i := 2) dAr_copyOf_2_13 rfl rfl hr2 <| kk
theorem sAr_copyOf_2_17 {G : zG} {d : Nat} {Q : Option Value → Heap → Prop} {H : Heap} {st : List Value} {o0 : Option Value} {o2 : Option Value} {o3 : Option Value} {x1 : Int32} (kk : zW G d M_Ar_copyOf_2 18 [o0, some (.int x1), o2, o3] ((.int x1) :: st) H Q) : zW G d M_Ar_copyOf_2 17 [o0, some (.int x1), o2, o3] st H Q :=
  zw_iload_n (i := 1) dAr_copyOf_2_17 rfl rfl <| kk
theorem sAr_copyOf_2_24 {G : zG} {d : Nat} {Q : Option Value → Heap → Prop} {H : Heap} {st : List Value} {o2 : Option Value} {o3 : Option Value} {vs0 : Value} {a0 : Nat} {x1 : Int32} {n1 : Nat} {t1 : FieldType} {g1 : Nat → Value} {P : Int32 → Heap → Prop} (hrs0 : zRf vs0 := by first | exact zRf_ref | exact zRf_null | exact zRf_rf _ | assumption) (ha1 : zArr G H a0 t1 n1 g1) (hd : 1 ≤ d) (hl : ((.int (0 : Int32)) :: vs0 :: (.int (0 : Int32)) :: (.ref a0) :: st).length ≤ 4) (hc : zC G (d - 1) M_Ma_min [(.int (nI n1)), (.int x1)] H (zPi P)) (kk : ∀ (r : Int32) (H1 : Heap), P r H1 → zOk G H1 → H.size ≤ H1.size → zT H ≤ zT H1 → zW G d M_Ar_copyOf_2 35 [some (.ref a0), some (.int x1), o2, some vs0] ((.int r) :: (.int (0 : Int32)) :: vs0 :: (.int (0 : Int32)) :: (.ref a0) :: st) H1 Q) : zW G d M_Ar_copyOf_2 24 [some (.ref a0), some (.int x1), o2, o3] (vs0 :: st) H Q :=
  zw_astore_n (i := 3) dAr_copyOf_2_24 rfl (Nat.le_of_ble_eq_true rfl) hrs0 <| zw_aload_n (i := 0) dAr_copyOf_2_25 rfl rfl zRf_ref <| zw_iconst (0 : Int32) dAr_copyOf_2_26 zki_0 <| zw_aload_n (i := 3) dAr_copyOf_2_27 rfl rfl hrs0 <| zw_iconst (0 : Int32) dAr_copyOf_2_28 zki_0 <| zw_aload_n (i := 0) dAr_copyOf_2_29 rfl rfl zRf_ref <| zw_alen dAr_copyOf_2_30 ha1 <| zw_iload_n (i := 1) dAr_copyOf_2_31 rfl rfl <| zw_callS [(.int (nI n1)), (.int x1)] _ dAr_copyOf_2_32 hd zk_Ar_304 rfl rfl hl hc (zPi_k kk)
theorem sAr_copyOf_2_38 {G : zG} {d : Nat} {Q : Option Value → Heap → Prop} {H : Heap} {o0 : Option Value} {o1 : Option Value} {o2 : Option Value} {v3 : Value} (hr3 : zRf v3 := by first | exact zRf_ref | exact zRf_null | exact zRf_rf _ | assumption) (hq : Q (some v3) H) : zW G d M_Ar_copyOf_2 38 [o0, o1, o2, some v3] [] H Q :=
  zw_aload_n (i := 3) dAr_copyOf_2_38 rfl rfl hr3 <| zw_aret dAr_copyOf_2_39 (.array (.object "java/lang/Object")) rfl (Or.inr ⟨_, rfl⟩) hr3 hq

