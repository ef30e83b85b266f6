theorem dSb_init_0 : decode prog_21_method_1_code 0 = .ok (.aload_n 0, 1) := by decide +kernel
theorem dSb_init_1 : decode prog_21_method_1_code 1 = .ok (.bipush 16, 2) := by decide +kernel
theorem dSb_init_3 : decode prog_21_method_1_code 3 = .ok (.invokespecial 1, 3) := by decide +kernel
theorem dSb_init_6 : decode prog_21_method_1_code 6 = .ok (.return_, 1) := by decide +kernel
theorem dAb_init_0 : decode prog_15_method_2_code 0 = .ok (.aload_n 0, 1) := by decide +kernel
theorem dAb_init_1 : decode prog_15_method_2_code 1 = .ok (.invokespecial 3, 3) := by decide +kernel
theorem dAb_init_4 : decode prog_15_method_2_code 4 = .ok (.getstatic 18, 3) := by decide +kernel
theorem dAb_init_7 : decode prog_15_method_2_code 7 = .ok (.ifCond .eq 18, 3) := by decide +kernel
theorem dAb_init_10 : decode prog_15_method_2_code 10 = .ok (.aload_n 0, 1) := by decide +kernel
theorem dAb_init_11 : decode prog_15_method_2_code 11 = .ok (.iload_n 1, 1) := by decide +kernel
theorem dAb_init_12 : decode prog_15_method_2_code 12 = .ok (.newarray .byte, 2) := by decide +kernel
theorem dAb_init_14 : decode prog_15_method_2_code 14 = .ok (.putfield 15, 3) := by decide +kernel
theorem dAb_init_17 : decode prog_15_method_2_code 17 = .ok (.aload_n 0, 1) := by decide +kernel
theorem dAb_init_18 : decode prog_15_method_2_code 18 = .ok (.iconst 0, 1) := by decide +kernel
theorem dAb_init_19 : decode prog_15_method_2_code 19 = .ok (.putfield 22, 3) := by decide +kernel
theorem dAb_init_22 : decode prog_15_method_2_code 22 = .ok (.goto 16, 3) := by decide +kernel
theorem dAb_init_25 : decode prog_15_method_2_code 25 = .ok (.aload_n 0, 1) := by decide +kernel
theorem dAb_init_26 : decode prog_15_method_2_code 26 = .ok (.iload_n 1, 1) := by decide +kernel
theorem dAb_init_27 : decode prog_15_method_2_code 27 = .ok (.invokestatic 26, 3) := by decide +kernel
theorem dAb_init_30 : decode prog_15_method_2_code 30 = .ok (.putfield 15, 3) := by decide +kernel
theorem dAb_init_33 : decode prog_15_method_2_code 33 = .ok (.aload_n 0, 1) := by decide +kernel
theorem dAb_init_34 : decode prog_15_method_2_code 34 = .ok (.iconst 1, 1) := by decide +kernel
theorem dAb_init_35 : decode prog_15_method_2_code 35 = .ok (.putfield 22, 3) := by decide +kernel
theorem dAb_init_38 : decode prog_15_method_2_code 38 = .ok (.return_, 1) := by decide +kernel
theorem dSb_length_0 : decode prog_21_method_93_code 0 = .ok (.aload_n 0, 1) := by decide +kernel
theorem dSb_length_1 : decode prog_21_method_93_code 1 = .ok (.invokespecial 343, 3) := by decide +kernel
theorem dSb_length_4 : decode prog_21_method_93_code 4 = .ok (.ireturn, 1) := by decide +kernel
theorem dAb_length_0 : decode prog_15_method_6_code 0 = .ok (.aload_n 0, 1) := by decide +kernel
theorem dAb_length_1 : decode prog_15_method_6_code 1 = .ok (.getfield 79, 3) := by decide +kernel
theorem dAb_length_4 : decode prog_15_method_6_code 4 = .ok (.ireturn, 1) := by decide +kernel
theorem dSb_append_0_0 : decode prog_21_method_14_code 0 = .ok (.aload_n 0, 1) := by decide +kernel
theorem dSb_append_0_1 : decode prog_21_method_14_code 1 = .ok (.iload_n 1, 1) := by decide +kernel
theorem dSb_append_0_2 : decode prog_21_method_14_code 2 = .ok (.invokespecial 50, 3) := by decide +kernel
theorem dSb_append_0_5 : decode prog_21_method_14_code 5 = .ok (.pop, 1) := by decide +kernel
theorem dSb_append_0_6 : decode prog_21_method_14_code 6 = .ok (.aload_n 0, 1) := by decide +kernel
theorem dSb_append_0_7 : decode prog_21_method_14_code 7 = .ok (.areturn, 1) := by decide +kernel
theorem dAb_append_0_0 : decode prog_15_method_31_code 0 = .ok (.aload_n 0, 1) := by decide +kernel
theorem dAb_append_0_1 : decode prog_15_method_31_code 1 = .ok (.aload_n 0, 1) := by decide +kernel
theorem dAb_append_0_2 : decode prog_15_method_31_code 2 = .ok (.getfield 79, 3) := by decide +kernel
theorem dAb_append_0_5 : decode prog_15_method_31_code 5 = .ok (.iconst 1, 1) := by decide +kernel
theorem dAb_append_0_6 : decode prog_15_method_31_code 6 = .ok (.iadd, 1) := by decide +kernel
theorem dAb_append_0_7 : decode prog_15_method_31_code 7 = .ok (.invokevirtual 100, 3) := by decide +kernel
theorem dAb_append_0_10 : decode prog_15_method_31_code 10 = .ok (.aload_n 0, 1) := by decide +kernel
theorem dAb_append_0_11 : decode prog_15_method_31_code 11 = .ok (.invokevirtual 83, 3) := by decide +kernel
theorem dAb_append_0_14 : decode prog_15_method_31_code 14 = .ok (.ifCond .eq 31, 3) := by decide +kernel
theorem dAb_append_0_17 : decode prog_15_method_31_code 17 = .ok (.iload_n 1, 1) := by decide +kernel
theorem dAb_append_0_18 : decode prog_15_method_31_code 18 = .ok (.invokestatic 191, 3) := by decide +kernel
theorem dAb_append_0_21 : decode prog_15_method_31_code 21 = .ok (.ifCond .eq 24, 3) := by decide +kernel
theorem dAb_append_0_24 : decode prog_15_method_31_code 24 = .ok (.aload_n 0, 1) := by decide +kernel
theorem dAb_append_0_25 : decode prog_15_method_31_code 25 = .ok (.getfield 15, 3) := by decide +kernel
theorem dAb_append_0_28 : decode prog_15_method_31_code 28 = .ok (.aload_n 0, 1) := by decide +kernel
theorem dAb_append_0_29 : decode prog_15_method_31_code 29 = .ok (.dup, 1) := by decide +kernel
theorem dAb_append_0_30 : decode prog_15_method_31_code 30 = .ok (.getfield 79, 3) := by decide +kernel
theorem dAb_append_0_33 : decode prog_15_method_31_code 33 = .ok (.dup_x1, 1) := by decide +kernel
theorem dAb_append_0_34 : decode prog_15_method_31_code 34 = .ok (.iconst 1, 1) := by decide +kernel
theorem dAb_append_0_35 : decode prog_15_method_31_code 35 = .ok (.iadd, 1) := by decide +kernel
theorem dAb_append_0_36 : decode prog_15_method_31_code 36 = .ok (.putfield 79, 3) := by decide +kernel
theorem dAb_append_0_39 : decode prog_15_method_31_code 39 = .ok (.iload_n 1, 1) := by decide +kernel
theorem dAb_append_0_40 : decode prog_15_method_31_code 40 = .ok (.i2b, 1) := by decide +kernel
theorem dAb_append_0_41 : decode prog_15_method_31_code 41 = .ok (.bastore, 1) := by decide +kernel
theorem dAb_append_0_42 : decode prog_15_method_31_code 42 = .ok (.goto 33, 3) := by decide +kernel
theorem dAb_append_0_45 : decode prog_15_method_31_code 45 = .ok (.aload_n 0, 1) := by decide +kernel
theorem dAb_append_0_46 : decode prog_15_method_31_code 46 = .ok (.invokevirtual 83, 3) := by decide +kernel
theorem dAb_append_0_49 : decode prog_15_method_31_code 49 = .ok (.ifCond .eq 7, 3) := by decide +kernel
theorem dAb_append_0_52 : decode prog_15_method_31_code 52 = .ok (.aload_n 0, 1) := by decide +kernel
theorem dAb_append_0_53 : decode prog_15_method_31_code 53 = .ok (.invokevirtual 195, 3) := by decide +kernel
theorem dAb_append_0_56 : decode prog_15_method_31_code 56 = .ok (.aload_n 0, 1) := by decide +kernel
theorem dAb_append_0_57 : decode prog_15_method_31_code 57 = .ok (.getfield 15, 3) := by decide +kernel
theorem dAb_append_0_60 : decode prog_15_method_31_code 60 = .ok (.aload_n 0, 1) := by decide +kernel
theorem dAb_append_0_61 : decode prog_15_method_31_code 61 = .ok (.dup, 1) := by decide +kernel
theorem dAb_append_0_62 : decode prog_15_method_31_code 62 = .ok (.getfield 79, 3) := by decide +kernel
theorem dAb_append_0_65 : decode prog_15_method_31_code 65 = .ok (.dup_x1, 1) := by decide +kernel
theorem dAb_append_0_66 : decode prog_15_method_31_code 66 = .ok (.iconst 1, 1) := by decide +kernel
theorem dAb_append_0_67 : decode prog_15_method_31_code 67 = .ok (.iadd, 1) := by decide +kernel
theorem dAb_append_0_68 : decode prog_15_method_31_code 68 = .ok (.putfield 79, 3) := by decide +kernel
theorem dAb_append_0_71 : decode prog_15_method_31_code 71 = .ok (.iload_n 1, 1) := by decide +kernel
theorem dAb_append_0_72 : decode prog_15_method_31_code 72 = .ok (.invokestatic 197, 3) := by decide +kernel
theorem dAb_append_0_75 : decode prog_15_method_31_code 75 = .ok (.aload_n 0, 1) := by decide +kernel
theorem dAb_append_0_76 : decode prog_15_method_31_code 76 = .ok (.areturn, 1) := by decide +kernel
theorem dAb_ensureCapacityInternal_0 : decode prog_15_method_9_code 0 = .ok (.aload_n 0, 1) := by decide +kernel
theorem dAb_ensureCapacityInternal_1 : decode prog_15_method_9_code 1 = .ok (.getfield 15, 3) := by decide +kernel
theorem dAb_ensureCapacityInternal_4 : decode prog_15_method_9_code 4 = .ok (.arraylength, 1) := by decide +kernel
theorem dAb_ensureCapacityInternal_5 : decode prog_15_method_9_code 5 = .ok (.aload_n 0, 1) := by decide +kernel
theorem dAb_ensureCapacityInternal_6 : decode prog_15_method_9_code 6 = .ok (.getfield 22, 3) := by decide +kernel
theorem dAb_ensureCapacityInternal_9 : decode prog_15_method_9_code 9 = .ok (.ishr, 1) := by decide +kernel
theorem dAb_ensureCapacityInternal_10 : decode prog_15_method_9_code 10 = .ok (.istore_n 2, 1) := by decide +kernel
theorem dAb_ensureCapacityInternal_11 : decode prog_15_method_9_code 11 = .ok (.iload_n 1, 1) := by decide +kernel
theorem dAb_ensureCapacityInternal_12 : decode prog_15_method_9_code 12 = .ok (.iload_n 2, 1) := by decide +kernel
theorem dAb_ensureCapacityInternal_13 : decode prog_15_method_9_code 13 = .ok (.isub, 1) := by decide +kernel
theorem dAb_ensureCapacityInternal_14 : decode prog_15_method_9_code 14 = .ok (.ifCond .le 24, 3) := by decide +kernel
theorem dAb_ensureCapacityInternal_17 : decode prog_15_method_9_code 17 = .ok (.aload_n 0, 1) := by decide +kernel
theorem dAb_ensureCapacityInternal_18 : decode prog_15_method_9_code 18 = .ok (.aload_n 0, 1) := by decide +kernel
theorem dAb_ensureCapacityInternal_19 : decode prog_15_method_9_code 19 = .ok (.getfield 15, 3) := by decide +kernel
theorem dAb_ensureCapacityInternal_22 : decode prog_15_method_9_code 22 = .ok (.aload_n 0, 1) := by decide +kernel
theorem dAb_ensureCapacityInternal_23 : decode prog_15_method_9_code 23 = .ok (.iload_n 1, 1) := by decide +kernel
theorem dAb_ensureCapacityInternal_24 : decode prog_15_method_9_code 24 = .ok (.invokevirtual 104, 3) := by decide +kernel
theorem dAb_ensureCapacityInternal_27 : decode prog_15_method_9_code 27 = .ok (.aload_n 0, 1) := by decide +kernel
theorem dAb_ensureCapacityInternal_28 : decode prog_15_method_9_code 28 = .ok (.getfield 22, 3) := by decide +kernel
theorem dAb_ensureCapacityInternal_31 : decode prog_15_method_9_code 31 = .ok (.ishl, 1) := by decide +kernel
theorem dAb_ensureCapacityInternal_32 : decode prog_15_method_9_code 32 = .ok (.invokestatic 108, 3) := by decide +kernel
theorem dAb_ensureCapacityInternal_35 : decode prog_15_method_9_code 35 = .ok (.putfield 15, 3) := by decide +kernel
theorem dAb_ensureCapacityInternal_38 : decode prog_15_method_9_code 38 = .ok (.return_, 1) := by decide +kernel
theorem dAb_newCapacity_0 : decode prog_15_method_10_code 0 = .ok (.aload_n 0, 1) := by decide +kernel
theorem dAb_newCapacity_1 : decode prog_15_method_10_code 1 = .ok (.getfield 15, 3) := by decide +kernel
theorem dAb_newCapacity_4 : decode prog_15_method_10_code 4 = .ok (.arraylength, 1) := by decide +kernel
theorem dAb_newCapacity_5 : decode prog_15_method_10_code 5 = .ok (.istore_n 2, 1) := by decide +kernel
theorem dAb_newCapacity_6 : decode prog_15_method_10_code 6 = .ok (.iload_n 1, 1) := by decide +kernel
theorem dAb_newCapacity_7 : decode prog_15_method_10_code 7 = .ok (.aload_n 0, 1) := by decide +kernel
theorem dAb_newCapacity_8 : decode prog_15_method_10_code 8 = .ok (.getfield 22, 3) := by decide +kernel
theorem dAb_newCapacity_11 : decode prog_15_method_10_code 11 = .ok (.ishl, 1) := by decide +kernel
theorem dAb_newCapacity_12 : decode prog_15_method_10_code 12 = .ok (.istore_n 3, 1) := by decide +kernel
theorem dAb_newCapacity_13 : decode prog_15_method_10_code 13 = .ok (.iload_n 3, 1) := by decide +kernel
theorem dAb_newCapacity_14 : decode prog_15_method_10_code 14 = .ok (.iload_n 2, 1) := by decide +kernel
theorem dAb_newCapacity_15 : decode prog_15_method_10_code 15 = .ok (.isub, 1) := by decide +kernel
theorem dAb_newCapacity_16 : decode prog_15_method_10_code 16 = .ok (.istore 4, 2) := by decide +kernel
theorem dAb_newCapacity_18 : decode prog_15_method_10_code 18 = .ok (.iload_n 2, 1) := by decide +kernel
theorem dAb_newCapacity_19 : decode prog_15_method_10_code 19 = .ok (.iload 4, 2) := by decide +kernel
theorem dAb_newCapacity_21 : decode prog_15_method_10_code 21 = .ok (.iload_n 2, 1) := by decide +kernel
theorem dAb_newCapacity_22 : decode prog_15_method_10_code 22 = .ok (.iconst 2, 1) := by decide +kernel
theorem dAb_newCapacity_23 : decode prog_15_method_10_code 23 = .ok (.aload_n 0, 1) := by decide +kernel
theorem dAb_newCapacity_24 : decode prog_15_method_10_code 24 = .ok (.getfield 22, 3) := by decide +kernel
theorem dAb_newCapacity_27 : decode prog_15_method_10_code 27 = .ok (.ishl, 1) := by decide +kernel
theorem dAb_newCapacity_28 : decode prog_15_method_10_code 28 = .ok (.iadd, 1) := by decide +kernel
theorem dAb_newCapacity_29 : decode prog_15_method_10_code 29 = .ok (.invokestatic 114, 3) := by decide +kernel
theorem dAb_newCapacity_32 : decode prog_15_method_10_code 32 = .ok (.istore 5, 2) := by decide +kernel
theorem dAb_newCapacity_34 : decode prog_15_method_10_code 34 = .ok (.iload 5, 2) := by decide +kernel
theorem dAb_newCapacity_36 : decode prog_15_method_10_code 36 = .ok (.ldc 39, 2) := by decide +kernel
theorem dAb_newCapacity_38 : decode prog_15_method_10_code 38 = .ok (.if_icmp .ne 13, 3) := by decide +kernel
theorem dAb_newCapacity_44 : decode prog_15_method_10_code 44 = .ok (.dup, 1) := by decide +kernel
theorem dAb_newCapacity_51 : decode prog_15_method_10_code 51 = .ok (.iload 5, 2) := by decide +kernel
theorem dAb_newCapacity_53 : decode prog_15_method_10_code 53 = .ok (.aload_n 0, 1) := by decide +kernel
theorem dAb_newCapacity_54 : decode prog_15_method_10_code 54 = .ok (.getfield 22, 3) := by decide +kernel
theorem dAb_newCapacity_57 : decode prog_15_method_10_code 57 = .ok (.ishr, 1) := by decide +kernel
theorem dAb_newCapacity_58 : decode prog_15_method_10_code 58 = .ok (.ireturn, 1) := by decide +kernel
theorem dAb_isLatin1_0 : decode prog_15_method_68_code 0 = .ok (.getstatic 18, 3) := by decide +kernel
theorem dAb_isLatin1_3 : decode prog_15_method_68_code 3 = .ok (.ifCond .eq 14, 3) := by decide +kernel
theorem dAb_isLatin1_6 : decode prog_15_method_68_code 6 = .ok (.aload_n 0, 1) := by decide +kernel
theorem dAb_isLatin1_7 : decode prog_15_method_68_code 7 = .ok (.getfield 22, 3) := by decide +kernel
theorem dAb_isLatin1_10 : decode prog_15_method_68_code 10 = .ok (.ifCond .ne 7, 3) := by decide +kernel
theorem dAb_isLatin1_13 : decode prog_15_method_68_code 13 = .ok (.iconst 1, 1) := by decide +kernel
theorem dAb_isLatin1_14 : decode prog_15_method_68_code 14 = .ok (.goto 4, 3) := by decide +kernel
theorem dAb_isLatin1_17 : decode prog_15_method_68_code 17 = .ok (.iconst 0, 1) := by decide +kernel
theorem dAb_isLatin1_18 : decode prog_15_method_68_code 18 = .ok (.ireturn, 1) := by decide +kernel
theorem dAb_inflate_0 : decode prog_15_method_11_code 0 = .ok (.aload_n 0, 1) := by decide +kernel
theorem dAb_inflate_1 : decode prog_15_method_11_code 1 = .ok (.invokevirtual 83, 3) := by decide +kernel
theorem dAb_inflate_4 : decode prog_15_method_11_code 4 = .ok (.ifCond .ne 4, 3) := by decide +kernel
theorem dAb_inflate_7 : decode prog_15_method_11_code 7 = .ok (.return_, 1) := by decide +kernel
theorem dAb_inflate_8 : decode prog_15_method_11_code 8 = .ok (.aload_n 0, 1) := by decide +kernel
theorem dAb_inflate_9 : decode prog_15_method_11_code 9 = .ok (.getfield 15, 3) := by decide +kernel
theorem dAb_inflate_12 : decode prog_15_method_11_code 12 = .ok (.arraylength, 1) := by decide +kernel
theorem dAb_inflate_13 : decode prog_15_method_11_code 13 = .ok (.invokestatic 26, 3) := by decide +kernel
theorem dAb_inflate_16 : decode prog_15_method_11_code 16 = .ok (.astore_n 1, 1) := by decide +kernel
theorem dAb_inflate_17 : decode prog_15_method_11_code 17 = .ok (.aload_n 0, 1) := by decide +kernel
theorem dAb_inflate_18 : decode prog_15_method_11_code 18 = .ok (.getfield 15, 3) := by decide +kernel
theorem dAb_inflate_21 : decode prog_15_method_11_code 21 = .ok (.iconst 0, 1) := by decide +kernel
theorem dAb_inflate_22 : decode prog_15_method_11_code 22 = .ok (.aload_n 1, 1) := by decide +kernel
theorem dAb_inflate_23 : decode prog_15_method_11_code 23 = .ok (.iconst 0, 1) := by decide +kernel
theorem dAb_inflate_24 : decode prog_15_method_11_code 24 = .ok (.aload_n 0, 1) := by decide +kernel
theorem dAb_inflate_25 : decode prog_15_method_11_code 25 = .ok (.getfield 79, 3) := by decide +kernel
theorem dAb_inflate_28 : decode prog_15_method_11_code 28 = .ok (.invokestatic 125, 3) := by decide +kernel
theorem dAb_inflate_31 : decode prog_15_method_11_code 31 = .ok (.aload_n 0, 1) := by decide +kernel
theorem dAb_inflate_32 : decode prog_15_method_11_code 32 = .ok (.aload_n 1, 1) := by decide +kernel
theorem dAb_inflate_33 : decode prog_15_method_11_code 33 = .ok (.putfield 15, 3) := by decide +kernel
theorem dAb_inflate_36 : decode prog_15_method_11_code 36 = .ok (.aload_n 0, 1) := by decide +kernel
theorem dAb_inflate_37 : decode prog_15_method_11_code 37 = .ok (.iconst 1, 1) := by decide +kernel
theorem dAb_inflate_38 : decode prog_15_method_11_code 38 = .ok (.putfield 22, 3) := by decide +kernel
theorem dAb_inflate_41 : decode prog_15_method_11_code 41 = .ok (.return_, 1) := by decide +kernel
theorem dSb_setLength_0 : decode prog_21_method_89_code 0 = .ok (.aload_n 0, 1) := by decide +kernel
theorem dSb_setLength_1 : decode prog_21_method_89_code 1 = .ok (.iload_n 1, 1) := by decide +kernel
theorem dSb_setLength_2 : decode prog_21_method_89_code 2 = .ok (.invokespecial 333, 3) := by decide +kernel
theorem dSb_setLength_5 : decode prog_21_method_89_code 5 = .ok (.return_, 1) := by decide +kernel
theorem dAb_setLength_0 : decode prog_15_method_13_code 0 = .ok (.iload_n 1, 1) := by decide +kernel
theorem dAb_setLength_1 : decode prog_15_method_13_code 1 = .ok (.ifCond .ge 12, 3) := by decide +kernel
theorem dAb_setLength_7 : decode prog_15_method_13_code 7 = .ok (.dup, 1) := by decide +kernel
theorem dAb_setLength_8 : decode prog_15_method_13_code 8 = .ok (.iload_n 1, 1) := by decide +kernel
theorem dAb_setLength_13 : decode prog_15_method_13_code 13 = .ok (.aload_n 0, 1) := by decide +kernel
theorem dAb_setLength_14 : decode prog_15_method_13_code 14 = .ok (.iload_n 1, 1) := by decide +kernel
theorem dAb_setLength_15 : decode prog_15_method_13_code 15 = .ok (.invokevirtual 100, 3) := by decide +kernel
theorem dAb_setLength_18 : decode prog_15_method_13_code 18 = .ok (.aload_n 0, 1) := by decide +kernel
theorem dAb_setLength_19 : decode prog_15_method_13_code 19 = .ok (.getfield 79, 3) := by decide +kernel
theorem dAb_setLength_22 : decode prog_15_method_13_code 22 = .ok (.iload_n 1, 1) := by decide +kernel
theorem dAb_setLength_23 : decode prog_15_method_13_code 23 = .ok (.if_icmp .ge 40, 3) := by decide +kernel
theorem dAb_setLength_26 : decode prog_15_method_13_code 26 = .ok (.aload_n 0, 1) := by decide +kernel
theorem dAb_setLength_27 : decode prog_15_method_13_code 27 = .ok (.invokevirtual 83, 3) := by decide +kernel
theorem dAb_setLength_30 : decode prog_15_method_13_code 30 = .ok (.ifCond .eq 18, 3) := by decide +kernel
theorem dAb_setLength_33 : decode prog_15_method_13_code 33 = .ok (.aload_n 0, 1) := by decide +kernel
theorem dAb_setLength_34 : decode prog_15_method_13_code 34 = .ok (.getfield 15, 3) := by decide +kernel
theorem dAb_setLength_37 : decode prog_15_method_13_code 37 = .ok (.aload_n 0, 1) := by decide +kernel
theorem dAb_setLength_38 : decode prog_15_method_13_code 38 = .ok (.getfield 79, 3) := by decide +kernel
theorem dAb_setLength_41 : decode prog_15_method_13_code 41 = .ok (.iload_n 1, 1) := by decide +kernel
theorem dAb_setLength_42 : decode prog_15_method_13_code 42 = .ok (.invokestatic 133, 3) := by decide +kernel
theorem dAb_setLength_45 : decode prog_15_method_13_code 45 = .ok (.goto 31, 3) := by decide +kernel
theorem dAb_setLength_48 : decode prog_15_method_13_code 48 = .ok (.aload_n 0, 1) := by decide +kernel
theorem dAb_setLength_49 : decode prog_15_method_13_code 49 = .ok (.getfield 15, 3) := by decide +kernel
theorem dAb_setLength_52 : decode prog_15_method_13_code 52 = .ok (.aload_n 0, 1) := by decide +kernel
theorem dAb_setLength_53 : decode prog_15_method_13_code 53 = .ok (.getfield 79, 3) := by decide +kernel
theorem dAb_setLength_56 : decode prog_15_method_13_code 56 = .ok (.iload_n 1, 1) := by decide +kernel
theorem dAb_setLength_57 : decode prog_15_method_13_code 57 = .ok (.invokestatic 137, 3) := by decide +kernel
theorem dAb_setLength_60 : decode prog_15_method_13_code 60 = .ok (.goto 16, 3) := by decide +kernel
theorem dAb_setLength_63 : decode prog_15_method_13_code 63 = .ok (.aload_n 0, 1) := by decide +kernel
theorem dAb_setLength_64 : decode prog_15_method_13_code 64 = .ok (.getfield 79, 3) := by decide +kernel
theorem dAb_setLength_67 : decode prog_15_method_13_code 67 = .ok (.iload_n 1, 1) := by decide +kernel
theorem dAb_setLength_68 : decode prog_15_method_13_code 68 = .ok (.if_icmp .le 8, 3) := by decide +kernel
theorem dAb_setLength_71 : decode prog_15_method_13_code 71 = .ok (.aload_n 0, 1) := by decide +kernel
theorem dAb_setLength_72 : decode prog_15_method_13_code 72 = .ok (.iconst 1, 1) := by decide +kernel
theorem dAb_setLength_73 : decode prog_15_method_13_code 73 = .ok (.putfield 73, 3) := by decide +kernel
theorem dAb_setLength_76 : decode prog_15_method_13_code 76 = .ok (.aload_n 0, 1) := by decide +kernel
theorem dAb_setLength_77 : decode prog_15_method_13_code 77 = .ok (.iload_n 1, 1) := by decide +kernel
theorem dAb_setLength_78 : decode prog_15_method_13_code 78 = .ok (.putfield 79, 3) := by decide +kernel
theorem dAb_setLength_81 : decode prog_15_method_13_code 81 = .ok (.return_, 1) := by decide +kernel
theorem dSb_charAt_0 : decode prog_21_method_88_code 0 = .ok (.aload_n 0, 1) := by decide +kernel
theorem dSb_charAt_1 : decode prog_21_method_88_code 1 = .ok (.iload_n 1, 1) := by decide +kernel
theorem dSb_charAt_2 : decode prog_21_method_88_code 2 = .ok (.invokespecial 329, 3) := by decide +kernel
theorem dSb_charAt_5 : decode prog_21_method_88_code 5 = .ok (.ireturn, 1) := by decide +kernel
theorem dAb_charAt_0 : decode prog_15_method_14_code 0 = .ok (.aload_n 0, 1) := by decide +kernel
theorem dAb_charAt_1 : decode prog_15_method_14_code 1 = .ok (.getfield 22, 3) := by decide +kernel
theorem dAb_charAt_4 : decode prog_15_method_14_code 4 = .ok (.istore_n 2, 1) := by decide +kernel
theorem dAb_charAt_5 : decode prog_15_method_14_code 5 = .ok (.aload_n 0, 1) := by decide +kernel
theorem dAb_charAt_6 : decode prog_15_method_14_code 6 = .ok (.getfield 15, 3) := by decide +kernel
theorem dAb_charAt_9 : decode prog_15_method_14_code 9 = .ok (.astore_n 3, 1) := by decide +kernel
theorem dAb_charAt_10 : decode prog_15_method_14_code 10 = .ok (.aload_n 0, 1) := by decide +kernel
theorem dAb_charAt_11 : decode prog_15_method_14_code 11 = .ok (.getfield 79, 3) := by decide +kernel
theorem dAb_charAt_14 : decode prog_15_method_14_code 14 = .ok (.aload_n 3, 1) := by decide +kernel
theorem dAb_charAt_15 : decode prog_15_method_14_code 15 = .ok (.arraylength, 1) := by decide +kernel
theorem dAb_charAt_16 : decode prog_15_method_14_code 16 = .ok (.iload_n 2, 1) := by decide +kernel
theorem dAb_charAt_17 : decode prog_15_method_14_code 17 = .ok (.ishr, 1) := by decide +kernel
theorem dAb_charAt_18 : decode prog_15_method_14_code 18 = .ok (.invokestatic 138, 3) := by decide +kernel
theorem dAb_charAt_21 : decode prog_15_method_14_code 21 = .ok (.istore 4, 2) := by decide +kernel
theorem dAb_charAt_23 : decode prog_15_method_14_code 23 = .ok (.iload_n 1, 1) := by decide +kernel
theorem dAb_charAt_24 : decode prog_15_method_14_code 24 = .ok (.iload 4, 2) := by decide +kernel
theorem dAb_charAt_26 : decode prog_15_method_14_code 26 = .ok (.invokestatic 144, 3) := by decide +kernel
theorem dAb_charAt_29 : decode prog_15_method_14_code 29 = .ok (.iload_n 2, 1) := by decide +kernel
theorem dAb_charAt_30 : decode prog_15_method_14_code 30 = .ok (.ifCond .ne 12, 3) := by decide +kernel
theorem dAb_charAt_33 : decode prog_15_method_14_code 33 = .ok (.aload_n 3, 1) := by decide +kernel
theorem dAb_charAt_34 : decode prog_15_method_14_code 34 = .ok (.iload_n 1, 1) := by decide +kernel
theorem dAb_charAt_35 : decode prog_15_method_14_code 35 = .ok (.baload, 1) := by decide +kernel
theorem dAb_charAt_36 : decode prog_15_method_14_code 36 = .ok (.sipush 255, 3) := by decide +kernel
theorem dAb_charAt_39 : decode prog_15_method_14_code 39 = .ok (.iand, 1) := by decide +kernel
theorem dAb_charAt_40 : decode prog_15_method_14_code 40 = .ok (.i2c, 1) := by decide +kernel
theorem dAb_charAt_41 : decode prog_15_method_14_code 41 = .ok (.ireturn, 1) := by decide +kernel
theorem dAb_charAt_42 : decode prog_15_method_14_code 42 = .ok (.aload_n 3, 1) := by decide +kernel
theorem dAb_charAt_43 : decode prog_15_method_14_code 43 = .ok (.iload_n 1, 1) := by decide +kernel
theorem dAb_charAt_44 : decode prog_15_method_14_code 44 = .ok (.invokestatic 148, 3) := by decide +kernel
theorem dAb_charAt_47 : decode prog_15_method_14_code 47 = .ok (.ireturn, 1) := by decide +kernel
theorem dSb_toString_0 : decode prog_21_method_42_code 0 = .ok (.new 18, 3) := by decide +kernel
theorem dSb_toString_3 : decode prog_21_method_42_code 3 = .ok (.dup, 1) := by decide +kernel
theorem dSb_toString_4 : decode prog_21_method_42_code 4 = .ok (.aload_n 0, 1) := by decide +kernel
theorem dSb_toString_5 : decode prog_21_method_42_code 5 = .ok (.invokespecial 137, 3) := by decide +kernel
theorem dSb_toString_8 : decode prog_21_method_42_code 8 = .ok (.areturn, 1) := by decide +kernel
theorem dAb_getValue_0 : decode prog_15_method_64_code 0 = .ok (.aload_n 0, 1) := by decide +kernel
theorem dAb_getValue_1 : decode prog_15_method_64_code 1 = .ok (.getfield 15, 3) := by decide +kernel
theorem dAb_getValue_4 : decode prog_15_method_64_code 4 = .ok (.areturn, 1) := by decide +kernel
theorem dSb_append_1_0 : decode prog_21_method_7_code 0 = .ok (.aload_n 0, 1) := by decide +kernel
theorem dSb_append_1_1 : decode prog_21_method_7_code 1 = .ok (.aload_n 1, 1) := by decide +kernel
theorem dSb_append_1_2 : decode prog_21_method_7_code 2 = .ok (.invokespecial 29, 3) := by decide +kernel
theorem dSb_append_1_5 : decode prog_21_method_7_code 5 = .ok (.pop, 1) := by decide +kernel
theorem dSb_append_1_6 : decode prog_21_method_7_code 6 = .ok (.aload_n 0, 1) := by decide +kernel
theorem dSb_append_1_7 : decode prog_21_method_7_code 7 = .ok (.areturn, 1) := by decide +kernel
theorem dAb_append_1_0 : decode prog_15_method_22_code 0 = .ok (.aload_n 1, 1) := by decide +kernel
theorem dAb_append_1_1 : decode prog_15_method_22_code 1 = .ok (.ifnonnull 8, 3) := by decide +kernel
theorem dAb_append_1_4 : decode prog_15_method_22_code 4 = .ok (.aload_n 0, 1) := by decide +kernel
theorem dAb_append_1_5 : decode prog_15_method_22_code 5 = .ok (.invokevirtual 204, 3) := by decide +kernel
theorem dAb_append_1_8 : decode prog_15_method_22_code 8 = .ok (.areturn, 1) := by decide +kernel
theorem dAb_append_1_9 : decode prog_15_method_22_code 9 = .ok (.aload_n 1, 1) := by decide +kernel
theorem dAb_append_1_10 : decode prog_15_method_22_code 10 = .ok (.invokevirtual 32, 3) := by decide +kernel
theorem dAb_append_1_13 : decode prog_15_method_22_code 13 = .ok (.istore_n 2, 1) := by decide +kernel
theorem dAb_append_1_14 : decode prog_15_method_22_code 14 = .ok (.aload_n 0, 1) := by decide +kernel
theorem dAb_append_1_15 : decode prog_15_method_22_code 15 = .ok (.aload_n 0, 1) := by decide +kernel
theorem dAb_append_1_16 : decode prog_15_method_22_code 16 = .ok (.getfield 79, 3) := by decide +kernel
theorem dAb_append_1_19 : decode prog_15_method_22_code 19 = .ok (.iload_n 2, 1) := by decide +kernel
theorem dAb_append_1_20 : decode prog_15_method_22_code 20 = .ok (.iadd, 1) := by decide +kernel
theorem dAb_append_1_21 : decode prog_15_method_22_code 21 = .ok (.invokevirtual 100, 3) := by decide +kernel
theorem dAb_append_1_24 : decode prog_15_method_22_code 24 = .ok (.aload_n 0, 1) := by decide +kernel
theorem dAb_append_1_25 : decode prog_15_method_22_code 25 = .ok (.aload_n 0, 1) := by decide +kernel
theorem dAb_append_1_26 : decode prog_15_method_22_code 26 = .ok (.getfield 79, 3) := by decide +kernel
theorem dAb_append_1_29 : decode prog_15_method_22_code 29 = .ok (.aload_n 1, 1) := by decide +kernel
theorem dAb_append_1_30 : decode prog_15_method_22_code 30 = .ok (.invokevirtual 208, 3) := by decide +kernel
theorem dAb_append_1_33 : decode prog_15_method_22_code 33 = .ok (.aload_n 0, 1) := by decide +kernel
theorem dAb_append_1_34 : decode prog_15_method_22_code 34 = .ok (.dup, 1) := by decide +kernel
theorem dAb_append_1_35 : decode prog_15_method_22_code 35 = .ok (.getfield 79, 3) := by decide +kernel
theorem dAb_append_1_38 : decode prog_15_method_22_code 38 = .ok (.iload_n 2, 1) := by decide +kernel
theorem dAb_append_1_39 : decode prog_15_method_22_code 39 = .ok (.iadd, 1) := by decide +kernel
theorem dAb_append_1_40 : decode prog_15_method_22_code 40 = .ok (.putfield 79, 3) := by decide +kernel
theorem dAb_append_1_43 : decode prog_15_method_22_code 43 = .ok (.aload_n 0, 1) := by decide +kernel
theorem dAb_append_1_44 : decode prog_15_method_22_code 44 = .ok (.areturn, 1) := by decide +kernel
theorem dAb_appendNull_0 : decode prog_15_method_26_code 0 = .ok (.aload_n 0, 1) := by decide +kernel
theorem dAb_appendNull_1 : decode prog_15_method_26_code 1 = .ok (.aload_n 0, 1) := by decide +kernel
theorem dAb_appendNull_2 : decode prog_15_method_26_code 2 = .ok (.getfield 79, 3) := by decide +kernel
theorem dAb_appendNull_5 : decode prog_15_method_26_code 5 = .ok (.iconst 4, 1) := by decide +kernel
theorem dAb_appendNull_6 : decode prog_15_method_26_code 6 = .ok (.iadd, 1) := by decide +kernel
theorem dAb_appendNull_7 : decode prog_15_method_26_code 7 = .ok (.invokevirtual 100, 3) := by decide +kernel
theorem dAb_appendNull_10 : decode prog_15_method_26_code 10 = .ok (.aload_n 0, 1) := by decide +kernel
theorem dAb_appendNull_11 : decode prog_15_method_26_code 11 = .ok (.getfield 79, 3) := by decide +kernel
theorem dAb_appendNull_14 : decode prog_15_method_26_code 14 = .ok (.istore_n 1, 1) := by decide +kernel
theorem dAb_appendNull_15 : decode prog_15_method_26_code 15 = .ok (.aload_n 0, 1) := by decide +kernel
theorem dAb_appendNull_16 : decode prog_15_method_26_code 16 = .ok (.getfield 15, 3) := by decide +kernel
theorem dAb_appendNull_19 : decode prog_15_method_26_code 19 = .ok (.astore_n 2, 1) := by decide +kernel
theorem dAb_appendNull_20 : decode prog_15_method_26_code 20 = .ok (.aload_n 0, 1) := by decide +kernel
theorem dAb_appendNull_21 : decode prog_15_method_26_code 21 = .ok (.invokevirtual 83, 3) := by decide +kernel
theorem dAb_appendNull_24 : decode prog_15_method_26_code 24 = .ok (.ifCond .eq 38, 3) := by decide +kernel
theorem dAb_appendNull_27 : decode prog_15_method_26_code 27 = .ok (.aload_n 2, 1) := by decide +kernel
theorem dAb_appendNull_28 : decode prog_15_method_26_code 28 = .ok (.iload_n 1, 1) := by decide +kernel
theorem dAb_appendNull_29 : decode prog_15_method_26_code 29 = .ok (.iinc 1 1, 3) := by decide +kernel
theorem dAb_appendNull_32 : decode prog_15_method_26_code 32 = .ok (.bipush 110, 2) := by decide +kernel
theorem dAb_appendNull_34 : decode prog_15_method_26_code 34 = .ok (.bastore, 1) := by decide +kernel
theorem dAb_appendNull_35 : decode prog_15_method_26_code 35 = .ok (.aload_n 2, 1) := by decide +kernel
theorem dAb_appendNull_36 : decode prog_15_method_26_code 36 = .ok (.iload_n 1, 1) := by decide +kernel
theorem dAb_appendNull_37 : decode prog_15_method_26_code 37 = .ok (.iinc 1 1, 3) := by decide +kernel
theorem dAb_appendNull_40 : decode prog_15_method_26_code 40 = .ok (.bipush 117, 2) := by decide +kernel
theorem dAb_appendNull_42 : decode prog_15_method_26_code 42 = .ok (.bastore, 1) := by decide +kernel
theorem dAb_appendNull_43 : decode prog_15_method_26_code 43 = .ok (.aload_n 2, 1) := by decide +kernel
theorem dAb_appendNull_44 : decode prog_15_method_26_code 44 = .ok (.iload_n 1, 1) := by decide +kernel
theorem dAb_appendNull_45 : decode prog_15_method_26_code 45 = .ok (.iinc 1 1, 3) := by decide +kernel
theorem dAb_appendNull_48 : decode prog_15_method_26_code 48 = .ok (.bipush 108, 2) := by decide +kernel
theorem dAb_appendNull_50 : decode prog_15_method_26_code 50 = .ok (.bastore, 1) := by decide +kernel
theorem dAb_appendNull_51 : decode prog_15_method_26_code 51 = .ok (.aload_n 2, 1) := by decide +kernel
theorem dAb_appendNull_52 : decode prog_15_method_26_code 52 = .ok (.iload_n 1, 1) := by decide +kernel
theorem dAb_appendNull_53 : decode prog_15_method_26_code 53 = .ok (.iinc 1 1, 3) := by decide +kernel
theorem dAb_appendNull_56 : decode prog_15_method_26_code 56 = .ok (.bipush 108, 2) := by decide +kernel
theorem dAb_appendNull_58 : decode prog_15_method_26_code 58 = .ok (.bastore, 1) := by decide +kernel
theorem dAb_appendNull_59 : decode prog_15_method_26_code 59 = .ok (.goto 17, 3) := by decide +kernel
theorem dAb_appendNull_62 : decode prog_15_method_26_code 62 = .ok (.aload_n 2, 1) := by decide +kernel
theorem dAb_appendNull_63 : decode prog_15_method_26_code 63 = .ok (.iload_n 1, 1) := by decide +kernel
theorem dAb_appendNull_64 : decode prog_15_method_26_code 64 = .ok (.bipush 110, 2) := by decide +kernel
theorem dAb_appendNull_66 : decode prog_15_method_26_code 66 = .ok (.bipush 117, 2) := by decide +kernel
theorem dAb_appendNull_68 : decode prog_15_method_26_code 68 = .ok (.bipush 108, 2) := by decide +kernel
theorem dAb_appendNull_70 : decode prog_15_method_26_code 70 = .ok (.bipush 108, 2) := by decide +kernel
theorem dAb_appendNull_72 : decode prog_15_method_26_code 72 = .ok (.invokestatic 226, 3) := by decide +kernel
theorem dAb_appendNull_75 : decode prog_15_method_26_code 75 = .ok (.istore_n 1, 1) := by decide +kernel
theorem dAb_appendNull_76 : decode prog_15_method_26_code 76 = .ok (.aload_n 0, 1) := by decide +kernel
theorem dAb_appendNull_77 : decode prog_15_method_26_code 77 = .ok (.iload_n 1, 1) := by decide +kernel
theorem dAb_appendNull_78 : decode prog_15_method_26_code 78 = .ok (.putfield 79, 3) := by decide +kernel
theorem dAb_appendNull_81 : decode prog_15_method_26_code 81 = .ok (.aload_n 0, 1) := by decide +kernel
theorem dAb_appendNull_82 : decode prog_15_method_26_code 82 = .ok (.areturn, 1) := by decide +kernel
theorem dAb_putStringAt_0 : decode prog_15_method_73_code 0 = .ok (.aload_n 0, 1) := by decide +kernel
theorem dAb_putStringAt_1 : decode prog_15_method_73_code 1 = .ok (.aload_n 2, 1) := by decide +kernel
theorem dAb_putStringAt_2 : decode prog_15_method_73_code 2 = .ok (.invokevirtual 397, 3) := by decide +kernel
theorem dAb_putStringAt_5 : decode prog_15_method_73_code 5 = .ok (.aload_n 2, 1) := by decide +kernel
theorem dAb_putStringAt_6 : decode prog_15_method_73_code 6 = .ok (.aload_n 0, 1) := by decide +kernel
theorem dAb_putStringAt_7 : decode prog_15_method_73_code 7 = .ok (.getfield 15, 3) := by decide +kernel
theorem dAb_putStringAt_10 : decode prog_15_method_73_code 10 = .ok (.iload_n 1, 1) := by decide +kernel
theorem dAb_putStringAt_11 : decode prog_15_method_73_code 11 = .ok (.aload_n 0, 1) := by decide +kernel
theorem dAb_putStringAt_12 : decode prog_15_method_73_code 12 = .ok (.getfield 22, 3) := by decide +kernel
theorem dAb_putStringAt_15 : decode prog_15_method_73_code 15 = .ok (.invokevirtual 399, 3) := by decide +kernel
theorem dAb_putStringAt_18 : decode prog_15_method_73_code 18 = .ok (.return_, 1) := by decide +kernel
theorem dAb_inflateIfNeededFor_0 : decode prog_15_method_71_code 0 = .ok (.getstatic 18, 3) := by decide +kernel
theorem dAb_inflateIfNeededFor_3 : decode prog_15_method_71_code 3 = .ok (.ifCond .eq 18, 3) := by decide +kernel
theorem dAb_inflateIfNeededFor_6 : decode prog_15_method_71_code 6 = .ok (.aload_n 0, 1) := by decide +kernel
theorem dAb_inflateIfNeededFor_7 : decode prog_15_method_71_code 7 = .ok (.getfield 22, 3) := by decide +kernel
theorem dAb_inflateIfNeededFor_10 : decode prog_15_method_71_code 10 = .ok (.aload_n 1, 1) := by decide +kernel
theorem dAb_inflateIfNeededFor_11 : decode prog_15_method_71_code 11 = .ok (.invokevirtual 40, 3) := by decide +kernel
theorem dAb_inflateIfNeededFor_14 : decode prog_15_method_71_code 14 = .ok (.if_icmp .eq 7, 3) := by decide +kernel
theorem dAb_inflateIfNeededFor_17 : decode prog_15_method_71_code 17 = .ok (.aload_n 0, 1) := by decide +kernel
theorem dAb_inflateIfNeededFor_18 : decode prog_15_method_71_code 18 = .ok (.invokevirtual 195, 3) := by decide +kernel
theorem dAb_inflateIfNeededFor_21 : decode prog_15_method_71_code 21 = .ok (.return_, 1) := by decide +kernel
theorem zk_Sb_1 : zLkI "java/lang/StringBuilder" 1 M_Ab_init 1 := ⟨zc_Ab_init, rfl, rfl, zt1 42 rfl, Or.inl (zt1 41 rfl)⟩
theorem zf_Ab_15 : zFl "java/lang/AbstractStringBuilder" 15 1 0 := ⟨_, _, _, "java/lang/AbstractStringBuilder", rfl, Nat.le_of_ble_eq_true rfl, in_Sb, Or.inl (zt1 54 rfl), Or.inl rfl⟩
theorem zp_Ab_init_15 : zPf M_Ab_init 15 1 0 (.array .byte) := ⟨zf_Ab_15, _, _, _, ty_Sb, rfl, tyok_Sb, nm_Sb, rfl, Or.inl rfl⟩
theorem zf_Ab_22 : zFl "java/lang/AbstractStringBuilder" 22 1 1 := ⟨_, _, _, "java/lang/AbstractStringBuilder", rfl, Nat.le_of_ble_eq_true rfl, in_Sb, Or.inl (zt1 55 rfl), Or.inl rfl⟩
theorem zp_Ab_init_22 : zPf M_Ab_init 22 1 1 .byte := ⟨zf_Ab_22, _, _, _, ty_Sb, rfl, tyok_Sb, nm_Sb, rfl, Or.inl rfl⟩
theorem zk_Ab_26 : zLkS "java/lang/AbstractStringBuilder" 26 M_U16_newBytesFor 1 := ⟨zc_U16_newBytesFor, zt1 48 rfl, Or.inl (zt1 47 rfl)⟩
theorem zk_Sb_343 : zLkSU "java/lang/StringBuilder" 343 1 M_Ab_length 0 := ⟨zc_Ab_length, ⟨_, _, _, rfl⟩, zt2 32 rfl, zt6 151 rfl, zt1 67 rfl, zt2 33 rfl, by decide +kernel⟩
theorem zf_Ab_79 : zFl "java/lang/AbstractStringBuilder" 79 1 3 := ⟨_, _, _, "java/lang/AbstractStringBuilder", rfl, Nat.le_of_ble_eq_true rfl, in_Sb, Or.inl (zt1 58 rfl), Or.inl rfl⟩
theorem zk_Sb_50 : zLkSU "java/lang/StringBuilder" 50 1 M_Ab_append_0 1 := ⟨zc_Ab_append_0, ⟨_, _, _, rfl⟩, zt2 43 rfl, zt6 152 rfl, zt1 67 rfl, zt2 44 rfl, by decide +kernel⟩
theorem zk_Ab_100 : zLkV "java/lang/AbstractStringBuilder" 100 1 M_Ab_ensureCapacityInternal 1 := ⟨zc_Ab_ensureCapacityInternal, ⟨_, _, _, rfl, Or.inr ⟨zt2 47 rfl, zt6 153 rfl⟩⟩, zt2 48 rfl, Or.inl (zt2 46 rfl)⟩
theorem zk_Ab_83 : zLkV "java/lang/AbstractStringBuilder" 83 1 M_Ab_isLatin1 0 := ⟨zc_Ab_isLatin1, ⟨_, _, _, rfl, Or.inl (zt2 84 rfl)⟩, zt2 82 rfl, Or.inl (zt2 81 rfl)⟩
theorem zk_Ab_191 : zLkS "java/lang/AbstractStringBuilder" 191 M_L1_canEncode_0 1 := ⟨zc_L1_canEncode_0, zt2 87 rfl, Or.inl (zt2 86 rfl)⟩
theorem zp_Ab_append_0_79 : zPf M_Ab_append_0 79 1 3 .int := ⟨zf_Ab_79, _, _, _, ty_Sb, rfl, tyok_Sb, nm_Sb, rfl, Or.inl rfl⟩
theorem zk_Ab_195 : zLkV "java/lang/AbstractStringBuilder" 195 1 M_Ab_inflate 0 := ⟨zc_Ab_inflate, ⟨_, _, _, rfl, Or.inr ⟨zt2 90 rfl, zt6 155 rfl⟩⟩, zt2 91 rfl, Or.inl (zt2 89 rfl)⟩
theorem zk_Ab_197 : zLkS "java/lang/AbstractStringBuilder" 197 M_U16_putCharSB 3 := ⟨zc_U16_putCharSB, zt2 123 rfl, Or.inl (zt2 122 rfl)⟩
theorem zk_Ab_104 : zLkV "java/lang/AbstractStringBuilder" 104 1 M_Ab_newCapacity 1 := ⟨zc_Ab_newCapacity, ⟨_, _, _, rfl, Or.inr ⟨zt2 51 rfl, zt6 154 rfl⟩⟩, zt2 52 rfl, Or.inl (zt2 50 rfl)⟩
theorem zk_Ab_108 : zLkS "java/lang/AbstractStringBuilder" 108 M_Ar_copyOf_0 2 := ⟨zc_Ar_copyOf_0, zt2 66 rfl, Or.inl (zt2 65 rfl)⟩
theorem zp_Ab_ensureCapacityInternal_15 : zPf M_Ab_ensureCapacityInternal 15 1 0 (.array .byte) := ⟨zf_Ab_15, _, _, _, ty_Sb, rfl, tyok_Sb, nm_Sb, rfl, Or.inl rfl⟩
theorem zk_Ab_114 : zLkS "java/lang/AbstractStringBuilder" 114 M_AS_newLength 3 := ⟨zc_AS_newLength, zt2 55 rfl, Or.inl (zt2 54 rfl)⟩
theorem zk_Ab_125 : zLkS "java/lang/AbstractStringBuilder" 125 M_L1_inflate 5 := ⟨zc_L1_inflate, zt2 94 rfl, Or.inl (zt2 93 rfl)⟩
theorem zp_Ab_inflate_15 : zPf M_Ab_inflate 15 1 0 (.array .byte) := ⟨zf_Ab_15, _, _, _, ty_Sb, rfl, tyok_Sb, nm_Sb, rfl, Or.inl rfl⟩
theorem zp_Ab_inflate_22 : zPf M_Ab_inflate 22 1 1 .byte := ⟨zf_Ab_22, _, _, _, ty_Sb, rfl, tyok_Sb, nm_Sb, rfl, Or.inl rfl⟩
theorem zk_Sb_333 : zLkSU "java/lang/StringBuilder" 333 1 M_Ab_setLength 1 := ⟨zc_Ab_setLength, ⟨_, _, _, rfl⟩, zt2 142 rfl, zt6 156 rfl, zt1 67 rfl, zt2 143 rfl, by decide +kernel⟩
theorem zk_Ab_133 : zLkS "java/lang/AbstractStringBuilder" 133 M_L1_fillNull 3 := ⟨zc_L1_fillNull, zt2 146 rfl, Or.inl (zt2 145 rfl)⟩
theorem zp_Ab_setLength_79 : zPf M_Ab_setLength 79 1 3 .int := ⟨zf_Ab_79, _, _, _, ty_Sb, rfl, tyok_Sb, nm_Sb, rfl, Or.inl rfl⟩
theorem zk_Ab_137 : zLkS "java/lang/AbstractStringBuilder" 137 M_U16_fillNull 3 := ⟨zc_U16_fillNull, zt2 155 rfl, Or.inl (zt2 154 rfl)⟩
theorem zf_Ab_73 : zFl "java/lang/AbstractStringBuilder" 73 1 2 := ⟨_, _, _, "java/lang/AbstractStringBuilder", rfl, Nat.le_of_ble_eq_true rfl, in_Sb, Or.inl (zt1 56 rfl), Or.inl rfl⟩
theorem zp_Ab_setLength_73 : zPf M_Ab_setLength 73 1 2 .boolean := ⟨zf_Ab_73, _, _, _, ty_Sb, rfl, tyok_Sb, nm_Sb, rfl, Or.inl rfl⟩
theorem zk_Sb_329 : zLkSU "java/lang/StringBuilder" 329 1 M_Ab_charAt 1 := ⟨zc_Ab_charAt, ⟨_, _, _, rfl⟩, zt2 166 rfl, zt6 157 rfl, zt1 67 rfl, zt2 167 rfl, by decide +kernel⟩
theorem zk_Ab_138 : zLkS "java/lang/AbstractStringBuilder" 138 M_Ma_min 2 := ⟨zc_Ma_min, zt2 76 rfl, Or.inl (zt2 169 rfl)⟩
theorem zk_Ab_144 : zLkS "java/lang/AbstractStringBuilder" 144 M_St_checkIndex 2 := ⟨zc_St_checkIndex, zt2 129 rfl, Or.inl (zt2 170 rfl)⟩
theorem zk_Ab_148 : zLkS "java/lang/AbstractStringBuilder" 148 M_U16_getChar 2 := ⟨zc_U16_getChar, zt2 172 rfl, Or.inl (zt2 171 rfl)⟩
theorem zn_Sb_toString_18 : zNf M_Sb_toString 18 8 4 [.null, .int 0, .int 0, .int 0] := ⟨_, _, _, ty_St, rfl, in_St, tyok_St, zt2 186 rfl, zt2 187 rfl, zt1 4 rfl, Nat.le_of_ble_eq_true rfl, zDf_St⟩
theorem zk_Sb_137 : zLkI "java/lang/StringBuilder" 137 M_St_init_0 1 := ⟨zc_St_init_0, rfl, rfl, zt2 189 rfl, Or.inl (zt2 188 rfl)⟩
theorem zk_Sb_29 : zLkSU "java/lang/StringBuilder" 29 1 M_Ab_append_1 1 := ⟨zc_Ab_append_1, ⟨_, _, _, rfl⟩, zt3 177 rfl, zt6 159 rfl, zt1 67 rfl, zt3 178 rfl, by decide +kernel⟩
theorem zk_Ab_204 : zLkV "java/lang/AbstractStringBuilder" 204 1 M_Ab_appendNull 0 := ⟨zc_Ab_appendNull, ⟨_, _, _, rfl, Or.inr ⟨zt3 181 rfl, zt6 160 rfl⟩⟩, zt3 182 rfl, Or.inl (zt3 180 rfl)⟩
theorem zk_Ab_32 : zLkV "java/lang/AbstractStringBuilder" 32 8 M_St_length 0 := ⟨zc_St_length, ⟨_, _, _, rfl, Or.inl (zt2 239 rfl)⟩, zt2 238 rfl, Or.inl (zt3 187 rfl)⟩
theorem zk_Ab_208 : zLkV "java/lang/AbstractStringBuilder" 208 1 M_Ab_putStringAt 2 := ⟨zc_Ab_putStringAt, ⟨_, _, _, rfl, Or.inr ⟨zt3 189 rfl, zt6 161 rfl⟩⟩, zt3 190 rfl, Or.inl (zt3 188 rfl)⟩
theorem zp_Ab_append_1_79 : zPf M_Ab_append_1 79 1 3 .int := ⟨zf_Ab_79, _, _, _, ty_Sb, rfl, tyok_Sb, nm_Sb, rfl, Or.inl rfl⟩
theorem zp_Ab_appendNull_79 : zPf M_Ab_appendNull 79 1 3 .int := ⟨zf_Ab_79, _, _, _, ty_Sb, rfl, tyok_Sb, nm_Sb, rfl, Or.inl rfl⟩
theorem zk_Ab_226 : zLkS "java/lang/AbstractStringBuilder" 226 M_U16_putCharsAt 6 := ⟨zc_U16_putCharsAt, zt3 185 rfl, Or.inl (zt3 184 rfl)⟩
theorem zk_Ab_397 : zLkV "java/lang/AbstractStringBuilder" 397 1 M_Ab_inflateIfNeededFor 1 := ⟨zc_Ab_inflateIfNeededFor, ⟨_, _, _, rfl, Or.inr ⟨zt3 193 rfl, zt6 162 rfl⟩⟩, zt3 194 rfl, Or.inl (zt3 192 rfl)⟩
theorem zk_Ab_399 : zLkV "java/lang/AbstractStringBuilder" 399 8 M_St_getBytes 3 := ⟨zc_St_getBytes, ⟨_, _, _, rfl, Or.inl (zt3 199 rfl)⟩, zt3 198 rfl, Or.inl (zt3 197 rfl)⟩
theorem zk_Ab_40 : zLkV "java/lang/AbstractStringBuilder" 40 8 M_St_coder 0 := ⟨zc_St_coder, ⟨_, _, _, rfl, Or.inl (zt3 3 rfl)⟩, zt3 2 rfl, Or.inl (zt3 196 rfl)⟩
theorem sSb_init_0 {G : zG} {d : Nat} {Q : Option Value → Heap → Prop} {H : Heap} {st : List Value} {a0 : Nat} {P : Heap → Prop} (hd : 1 ≤ d) (hl : st.length ≤ 4) (hc : zC G (d - 1) M_Ab_init [(.ref a0), (.int (16 : Int32))] H (zPv P)) (kk : ∀ H1 : Heap, P H1 → zOk G H1 → H.size ≤ H1.size → zT H ≤ zT H1 → zW G d M_Sb_init 6 [some (.ref a0)] st H1 Q) : zW G d M_Sb_init 0 [some (.ref a0)] st H Q :=
  zw_aload_n (i := 0) dSb_init_0 rfl rfl zRf_ref <| zw_bipush (16 : Int32) dSb_init_1 zkb_16 <| zw_callI [(.int (16 : Int32))] _ dSb_init_3 hd zk_Sb_1 rfl rfl hl hc (zPv_k kk)
theorem sSb_init_6 {G : zG} {d : Nat} {Q : Option Value → Heap → Prop} {H : Heap} {o0 : Option Value} (hq : Q none H) : zW G d M_Sb_init 6 [o0] [] H Q :=
  zw_vret dSb_init_6 rfl hq
theorem sAb_init_0 {G : zG} {d : Nat} {Q : Option Value → Heap → Prop} {H : Heap} {st : List Value} {o1 : Option Value} {a0 : Nat} (hd : 1 ≤ d) (hl : st.length ≤ 4) (kk : zW G d M_Ab_init 4 [some (.ref a0), o1] st H Q) : zW G d M_Ab_init 0 [some (.ref a0), o1] st H Q :=
  zw_aload_n (i := 0) dAb_init_0 rfl rfl zRf_ref <| zw_objInit dAb_init_1 hd (zt1 44 rfl) zo_inst zo_code hl kk
theorem sAb_init_4 {G : zG} {d : Nat} {Q : Option Value → Heap → Prop} {H : Heap} {st : List Value} {o0 : Option Value} {o1 : Option Value} (hz1 : va_Z "java/lang/String" "COMPACT_STRINGS" "Z" (.int 1) (zFr G) (zS G) (zS G).heap) (kt : ((1 : Int32) = 0) → zW G d M_Ab_init 25 [o0, o1] st H Q) (kf : (¬ (1 : Int32) = 0) → zW G d M_Ab_init 10 [o0, o1] st H Q) : zW G d M_Ab_init 4 [o0, o1] st H Q :=
  zw_gets dAb_init_4 hz1 (zt1 45 rfl) (Or.inl rfl) <| zw_if_eq 25 dAb_init_7 (by decide) kt kf
theorem sAb_init_10 {G : zG} {d : Nat} {Q : Option Value → Heap → Prop} {H : Heap} {st : List Value} {v0 : Value} {x1 : Int32} {N : Nat} (hr0 : zRf v0 := by first | exact zRf_ref | exact zRf_null | exact zRf_rf _ | assumption) (hn : ¬ x1 < 0) (hN : (x1).toNatClampNeg = N) (hb : N * componentBytes .byte ≤ 536870912) (hc1 : H.size + 1 ≤ zCp G) (hs1 : zT H + N ≤ zSp G) (kk : ∀ H1 : Heap, zArr G H1 H.size .byte N (fun _ => defaultValue .byte) → zNw N H H1 → zW G d M_Ab_init 14 [some v0, some (.int x1)] ((.ref H.size) :: v0 :: st) H1 Q) : zW G d M_Ab_init 10 [some v0, some (.int x1)] st H Q :=
  zw_aload_n (i := 0) dAb_init_10 rfl rfl hr0 <| zw_iload_n (i := 1) dAb_init_11 rfl rfl <| zw_newa .byte dAb_init_12 rfl (zt1 68 rfl) hn hN hb hc1 hs1 kk
theorem sAb_init_14 {G : zG} {d : Nat} {Q : Option Value → Heap → Prop} {H : Heap} {st : List Value} {o0 : Option Value} {o1 : Option Value} {vs0 : Value} {as1 : Nat} {b0 : Value} {b1 : Value} {b2 : Value} {b3 : Value} (hrs0 : zRf vs0 := by first | exact zRf_ref | exact zRf_null | exact zRf_rf _ | assumption) (ho : zObj G H as1 1 [b0, b1, b2, b3]) (hw : zFr G as1) (kk : ∀ H1 : Heap, zObj G H1 as1 1 [vs0, b1, b2, b3] → zUp as1 H H1 → zW G d M_Ab_init 17 [o0, o1] st H1 Q) : zW G d M_Ab_init 14 [o0, o1] (vs0 :: (.ref as1) :: st) H Q :=
  zw_putf (k := 0) dAb_init_14 zp_Ab_init_15 ho (Nat.le_of_ble_eq_true rfl) (Nat.le_of_ble_eq_true rfl) hw (zNarA hrs0) (zFitA hrs0) kk
theorem sAb_init_17 {G : zG} {d : Nat} {Q : Option Value → Heap → Prop} {H : Heap} {st : List Value} {o1 : Option Value} {a0 : Nat} {b0 : Value} {b1 : Value} {b2 : Value} {b3 : Value} (ho : zObj G H a0 1 [b0, b1, b2, b3]) (hw : zFr G a0) (hn : narrow .byte (.int (0 : Int32)) = (.int (0 : Int32))) (hfit : fits .byte (.int (0 : Int32)) = true) (kk : ∀ H1 : Heap, zObj G H1 a0 1 [b0, (.int (0 : Int32)), b2, b3] → zUp a0 H H1 → zW G d M_Ab_init 22 [some (.ref a0), o1] st H1 Q) : zW G d M_Ab_init 17 [some (.ref a0), o1] st H Q :=
  zw_aload_n (i := 0) dAb_init_17 rfl rfl zRf_ref <| zw_iconst (0 : Int32) dAb_init_18 zki_0 <| zw_putf (k := 1) dAb_init_19 zp_Ab_init_22 ho (Nat.le_of_ble_eq_true rfl) (Nat.le_of_ble_eq_true rfl) hw hn hfit kk
theorem sAb_init_22 {G : zG} {d : Nat} {Q : Option Value → Heap → Prop} {H : Heap} {o0 : Option Value} {o1 : Option Value} (hq : Q none H) : zW G d M_Ab_init 22 [o0, o1] [] H Q :=
  zw_goto 38 dAb_init_22 (by decide) <| zw_vret dAb_init_38 rfl hq
theorem sAb_init_25 {G : zG} {d : Nat} {Q : Option Value → Heap → Prop} {H : Heap} {st : List Value} {v0 : Value} {x1 : Int32} {P : Value → Heap → Prop} (hr0 : zRf v0 := by first | exact zRf_ref | exact zRf_null | exact zRf_rf _ | assumption) (hd : 1 ≤ d) (hl : (v0 :: st).length ≤ 4) (hc : zC G (d - 1) M_U16_newBytesFor [(.int x1)] H (zPr P)) (kk : ∀ (r : Value) (H1 : Heap), zRf r → P r H1 → zOk G H1 → H.size ≤ H1.size → zT H ≤ zT H1 → zW G d M_Ab_init 30 [some v0, some (.int x1)] (r :: v0 :: st) H1 Q) : zW G d M_Ab_init 25 [some v0, some (.int x1)] st H Q :=
  zw_aload_n (i := 0) dAb_init_25 rfl rfl hr0 <| zw_iload_n (i := 1) dAb_init_26 rfl rfl <| zw_callS [(.int x1)] _ dAb_init_27 hd zk_Ab_26 rfl rfl hl hc (zPr_k kk)
theorem sAb_init_30 {G : zG} {d : Nat} {Q : Option Value → Heap → Prop} {H : Heap} {st : List Value} {o0 : Option Value} {o1 : Option Value} {vs0 : Value} {as1 : Nat} {b0 : Value} {b1 : Value} {b2 : Value} {b3 : Value} (hrs0 : zRf vs0 := by first | exact zRf_ref | exact zRf_null | exact zRf_rf _ | assumption) (ho : zObj G H as1 1 [b0, b1, b2, b3]) (hw : zFr G as1) (kk : ∀ H1 : Heap, zObj G H1 as1 1 [vs0, b1, b2, b3] → zUp as1 H H1 → zW G d M_Ab_init 33 [o0, o1] st H1 Q) : zW G d M_Ab_init 30 [o0, o1] (vs0 :: (.ref as1) :: st) H Q :=
  zw_putf (k := 0) dAb_init_30 zp_Ab_init_15 ho (Nat.le_of_ble_eq_true rfl) (Nat.le_of_ble_eq_true rfl) hw (zNarA hrs0) (zFitA hrs0) kk
theorem sAb_init_33 {G : zG} {d : Nat} {Q : Option Value → Heap → Prop} {H : Heap} {st : List Value} {o1 : Option Value} {a0 : Nat} {b0 : Value} {b1 : Value} {b2 : Value} {b3 : Value} (ho : zObj G H a0 1 [b0, b1, b2, b3]) (hw : zFr G a0) (hn : narrow .byte (.int (1 : Int32)) = (.int (1 : Int32))) (hfit : fits .byte (.int (1 : Int32)) = true) (kk : ∀ H1 : Heap, zObj G H1 a0 1 [b0, (.int (1 : Int32)), b2, b3] → zUp a0 H H1 → zW G d M_Ab_init 38 [some (.ref a0), o1] st H1 Q) : zW G d M_Ab_init 33 [some (.ref a0), o1] st H Q :=
  zw_aload_n (i := 0) dAb_init_33 rfl rfl zRf_ref <| zw_iconst (1 : Int32) dAb_init_34 zki_1 <| zw_putf (k := 1) dAb_init_35 zp_Ab_init_22 ho (Nat.le_of_ble_eq_true rfl) (Nat.le_of_ble_eq_true rfl) hw hn hfit kk
theorem sAb_init_38 {G : zG} {d : Nat} {Q : Option Value → Heap → Prop} {H : Heap} {o0 : Option Value} {o1 : Option Value} (hq : Q none H) : zW G d M_Ab_init 38 [o0, o1] [] H Q :=
  zw_vret dAb_init_38 rfl hq
theorem sSb_length_0 {G : zG} {d : Nat} {Q : Option Value → Heap → Prop} {H : Heap} {st : List Value} {a0 : Nat} {P : Int32 → Heap → Prop} (hd : 1 ≤ d) (hl : st.length ≤ 4) (ho : zIs G H a0 1) (hc : zC G (d - 1) M_Ab_length [(.ref a0)] H (zPi P)) (kk : ∀ (r : Int32) (H1 : Heap), P r H1 → zOk G H1 → H.size ≤ H1.size → zT H ≤ zT H1 → zW G d M_Sb_length 4 [some (.ref a0)] ((.int r) :: st) H1 Q) : zW G d M_Sb_length 0 [some (.ref a0)] st H Q :=
  zw_aload_n (i := 0) dSb_length_0 rfl rfl zRf_ref <| zw_callSU [] _ dSb_length_1 hd zk_Sb_343 ho rfl rfl hl hc (zPi_k kk)
theorem sSb_length_4 {G : zG} {d : Nat} {Q : Option Value → Heap → Prop} {H : Heap} {o0 : Option Value} {xs0 : Int32} (hq : Q (some (.int xs0)) H) : zW G d M_Sb_length 4 [o0] ((.int xs0) :: []) H Q :=
  zw_iret dSb_length_4 .int rfl rfl hq
theorem sAb_length_0 {G : zG} {d : Nat} {Q : Option Value → Heap → Prop} {H : Heap} {a0 : Nat} {xf1 : Int32} (hf1 : zFd G H a0 1 3 (.int xf1)) (hq : Q (some (.int xf1)) H) : zW G d M_Ab_length 0 [some (.ref a0)] [] H Q :=
  zw_aload_n (i := 0) dAb_length_0 rfl rfl zRf_ref <| zw_getf dAb_length_1 zf_Ab_79 hf1 <| zw_iret dAb_length_4 .int rfl rfl hq
theorem sSb_append_0_0 {G : zG} {d : Nat} {Q : Option Value → Heap → Prop} {H : Heap} {st : List Value} {a0 : Nat} {x1 : Int32} {P : Value → Heap → Prop} (hd : 1 ≤ d) (hl : st.length ≤ 4) (ho : zIs G H a0 1) (hc : zC G (d - 1) M_Ab_append_0 [(.ref a0), (.int x1)] H (zPr P)) (kk : ∀ (r : Value) (H1 : Heap), zRf r → P r H1 → zOk G H1 → H.size ≤ H1.size → zT H ≤ zT H1 → zW G d M_Sb_append_0 5 [some (.ref a0), some (.int x1)] (r :: st) H1 Q) : zW G d M_Sb_append_0 0 [some (.ref a0), some (.int x1)] st H Q :=
  zw_aload_n (i := 0) dSb_append_0_0 rfl rfl zRf_ref <| zw_iload_n (i := 1) dSb_append_0_1 rfl rfl <| zw_callSU [(.int x1)] _ dSb_append_0_2 hd zk_Sb_50 ho rfl rfl hl hc (zPr_k kk)
theorem sSb_append_0_5 {G : zG} {d : Nat} {Q : Option Value → Heap → Prop} {H : Heap} {o1 : Option Value} {ws0 : Value} {v0 : Value} (hcs0 : ws0.category = 1 := by first | rfl | exact zRf.cat (by assumption)) (hr0 : zRf v0 := by first | exact zRf_ref | exact zRf_null | exact zRf_rf _ | assumption) (hq : Q (some v0) H) : zW G d M_Sb_append_0 5 [some v0, o1] (ws0 :: []) H Q :=
  zw_pop dSb_append_0_5 hcs0 <| zw_aload_n (i := 0) dSb_append_0_6 rfl rfl hr0 <| zw_aret dSb_append_0_7 (.object "java/lang/StringBuilder") rfl (Or.inl ⟨_, rfl⟩) hr0 hq
theorem sAb_append_0_0 {G : zG} {d : Nat} {Q : Option Value → Heap → Prop} {H : Heap} {st : List Value} {o1 : Option Value} {a0 : Nat} {xf1 : Int32} {P : Heap → Prop} (hf1 : zFd G H a0 1 3 (.int xf1)) (hd : 1 ≤ d) (hl : st.length ≤ 4) (ho : zIs G H a0 1) (hc : zC G (d - 1) M_Ab_ensureCapacityInternal [(.ref a0), (.int (xf1 + (1 : Int32)))] H (zPv P)) (kk : ∀ H1 : Heap, P H1 → zOk G H1 → H.size ≤ H1.size → zT H ≤ zT H1 → zW G d M_Ab_append_0 10 [some (.ref a0), o1] st H1 Q) : zW G d M_Ab_append_0 0 [some (.ref a0), o1] st H Q :=
  zw_aload_n (i := 0) dAb_append_0_0 rfl rfl zRf_ref <| zw_aload_n (i := 0) dAb_append_0_1 rfl rfl zRf_ref <| zw_getf dAb_append_0_2 zf_Ab_79 hf1 <| zw_iconst (1 : Int32) dAb_append_0_5 zki_1 <| zw_iadd dAb_append_0_6 <| zw_callV [(.int (xf1 + (1 : Int32)))] _ dAb_append_0_7 hd zk_Ab_100 ho rfl rfl hl hc (zPv_k kk)
theorem sAb_append_0_10 {G : zG} {d : Nat} {Q : Option Value → Heap → Prop} {H : Heap} {st : List Value} {o1 : Option Value} {a0 : Nat} {P : Int32 → Heap → Prop} (hd : 1 ≤ d) (hl : st.length ≤ 4) (ho : zIs G H a0 1) (hc : zC G (d - 1) M_Ab_isLatin1 [(.ref a0)] H (zPi P)) (kk : ∀ (r : Int32) (H1 : Heap), P r H1 → zOk G H1 → H.size ≤ H1.size → zT H ≤ zT H1 → zW G d M_Ab_append_0 14 [some (.ref a0), o1] ((.int r) :: st) H1 Q) : zW G d M_Ab_append_0 10 [some (.ref a0), o1] st H Q :=
  zw_aload_n (i := 0) dAb_append_0_10 rfl rfl zRf_ref <| zw_callV [] _ dAb_append_0_11 hd zk_Ab_83 ho rfl rfl hl hc (zPi_k kk)
theorem sAb_append_0_14 {G : zG} {d : Nat} {Q : Option Value → Heap → Prop} {H : Heap} {st : List Value} {o0 : Option Value} {o1 : Option Value} {xs0 : Int32} (kt : (xs0 = 0) → zW G d M_Ab_append_0 45 [o0, o1] st H Q) (kf : (¬ xs0 = 0) → zW G d M_Ab_append_0 17 [o0, o1] st H Q) : zW G d M_Ab_append_0 14 [o0, o1] ((.int xs0) :: st) H Q :=
  zw_if_eq 45 dAb_append_0_14 (by decide) kt kf
theorem sAb_append_0_17 {G : zG} {d : Nat} {Q : Option Value → Heap → Prop} {H : Heap} {st : List Value} {o0 : Option Value} {x1 : Int32} {P : Int32 → Heap → Prop} (hd : 1 ≤ d) (hl : st.length ≤ 4) (hc : zC G (d - 1) M_L1_canEncode_0 [(.int x1)] H (zPi P)) (kk : ∀ (r : Int32) (H1 : Heap), P r H1 → zOk G H1 → H.size ≤ H1.size → zT H ≤ zT H1 → zW G d M_Ab_append_0 21 [o0, some (.int x1)] ((.int r) :: st) H1 Q) : zW G d M_Ab_append_0 17 [o0, some (.int x1)] st H Q :=
  zw_iload_n (i := 1) dAb_append_0_17 rfl rfl <| zw_callS [(.int x1)] _ dAb_append_0_18 hd zk_Ab_191 rfl rfl hl hc (zPi_k kk)
theorem sAb_append_0_21 {G : zG} {d : Nat} {Q : Option Value → Heap → Prop} {H : Heap} {st : List Value} {o0 : Option Value} {o1 : Option Value} {xs0 : Int32} (kt : (xs0 = 0) → zW G d M_Ab_append_0 45 [o0, o1] st H Q) (kf : (¬ xs0 = 0) → zW G d M_Ab_append_0 24 [o0, o1] st H Q) : zW G d M_Ab_append_0 21 [o0, o1] ((.int xs0) :: st) H Q :=
  zw_if_eq 45 dAb_append_0_21 (by decide) kt kf
theorem sAb_append_0_24 {G : zG} {d : Nat} {Q : Option Value → Heap → Prop} {H : Heap} {st : List Value} {o1 : Option Value} {a0 : Nat} {vf1 : Value} {xf2 : Int32} {b0 : Value} {b1 : Value} {b2 : Value} {b3 : Value} (hrf1 : zRf vf1 := by first | exact zRf_ref | exact zRf_null | exact zRf_rf _ | assumption) (hf1 : zFd G H a0 1 0 vf1) (hf2 : zFd G H a0 1 3 (.int xf2)) (ho : zObj G H a0 1 [b0, b1, b2, b3]) (hw : zFr G a0) (kk : ∀ H1 : Heap, zObj G H1 a0 1 [b0, b1, b2, (.int (xf2 + (1 : Int32)))] → zUp a0 H H1 → zW G d M_Ab_append_0 39 [some (.ref a0), o1] ((.int xf2) :: vf1 :: st) H1 Q) : zW G d M_Ab_append_0 24 [some (.ref a0), o1] st H Q :=
  zw_aload_n (i := 0) dAb_append_0_24 rfl rfl zRf_ref <| zw_getf dAb_append_0_25 zf_Ab_15 hf1 <| zw_aload_n (i := 0) dAb_append_0_28 rfl rfl zRf_ref <| zw_dup dAb_append_0_29 rfl <| zw_getf dAb_append_0_30 zf_Ab_79 hf2 <| zw_dup_x1 dAb_append_0_33 rfl rfl <| zw_iconst (1 : Int32) dAb_append_0_34 zki_1 <| zw_iadd dAb_append_0_35 <| zw_putf (k := 3) dAb_append_0_36 zp_Ab_append_0_79 ho (Nat.le_of_ble_eq_true rfl) (Nat.le_of_ble_eq_true rfl) hw rfl rfl kk
theorem sAb_append_0_39 {G : zG} {d : Nat} {Q : Option Value → Heap → Prop} {H : Heap} {st : List Value} {o0 : Option Value} {x1 : Int32} {xs0 : Int32} {as1 : Nat} {n : Nat} {g : Nat → Value} (ha : zArr G H as1 .byte n g) (hi : vp_in xs0 n) (hw : zFr G as1) (kk : ∀ H1 : Heap, zArr G H1 as1 .byte n (updV g (xs0).toNatClampNeg (.int ((x1).toInt8.toInt32).toInt8.toInt32)) → zUp as1 H H1 → zW G d M_Ab_append_0 42 [o0, some (.int x1)] st H1 Q) : zW G d M_Ab_append_0 39 [o0, some (.int x1)] ((.int xs0) :: (.ref as1) :: st) H Q :=
  zw_iload_n (i := 1) dAb_append_0_39 rfl rfl <| zw_i2b dAb_append_0_40 <| zw_bast dAb_append_0_41 ha hi hw kk
theorem sAb_append_0_42 {G : zG} {d : Nat} {Q : Option Value → Heap → Prop} {H : Heap} {o1 : Option Value} {v0 : Value} (hr0 : zRf v0 := by first | exact zRf_ref | exact zRf_null | exact zRf_rf _ | assumption) (hq : Q (some v0) H) : zW G d M_Ab_append_0 42 [some v0, o1] [] H Q :=
  zw_goto 75 dAb_append_0_42 (by decide) <| zw_aload_n (i := 0) dAb_append_0_75 rfl rfl hr0 <| zw_aret dAb_append_0_76 (.object "java/lang/AbstractStringBuilder") rfl (Or.inl ⟨_, rfl⟩) hr0 hq
theorem sAb_append_0_45 {G : zG} {d : Nat} {Q : Option Value → Heap → Prop} {H : Heap} {st : List Value} {o1 : Option Value} {a0 : Nat} {P : Int32 → Heap → Prop} (hd : 1 ≤ d) (hl : st.length ≤ 4) (ho : zIs G H a0 1) (hc : zC G (d - 1) M_Ab_isLatin1 [(.ref a0)] H (zPi P)) (kk : ∀ (r : Int32) (H1 : Heap), P r H1 → zOk G H1 → H.size ≤ H1.size → zT H ≤ zT H1 → zW G d M_Ab_append_0 49 [some (.ref a0), o1] ((.int r) :: st) H1 Q) : zW G d M_Ab_append_0 45 [some (.ref a0), o1] st H Q :=
  zw_aload_n (i := 0) dAb_append_0_45 rfl rfl zRf_ref <| zw_callV [] _ dAb_append_0_46 hd zk_Ab_83 ho rfl rfl hl hc (zPi_k kk)
theorem sAb_append_0_49 {G : zG} {d : Nat} {Q : Option Value → Heap → Prop} {H : Heap} {st : List Value} {o0 : Option Value} {o1 : Option Value} {xs0 : Int32} (kt : (xs0 = 0) → zW G d M_Ab_append_0 56 [o0, o1] st H Q) (kf : (¬ xs0 = 0) → zW G d M_Ab_append_0 52 [o0, o1] st H Q) : zW G d M_Ab_append_0 49 [o0, o1] ((.int xs0) :: st) H Q :=
  zw_if_eq 56 dAb_append_0_49 (by decide) kt kf
theorem sAb_append_0_52 {G : zG} {d : Nat} {Q : Option Value → Heap → Prop} {H : Heap} {st : List Value} {o1 : Option Value} {a0 : Nat} {P : Heap → Prop} (hd : 1 ≤ d) (hl : st.length ≤ 4) (ho : zIs G H a0 1) (hc : zC G (d - 1) M_Ab_inflate [(.ref a0)] H (zPv P)) (kk : ∀ H1 : Heap, P H1 → zOk G H1 → H.size ≤ H1.size → zT H ≤ zT H1 → zW G d M_Ab_append_0 56 [some (.ref a0), o1] st H1 Q) : zW G d M_Ab_append_0 52 [some (.ref a0), o1] st H Q :=
  zw_aload_n (i := 0) dAb_append_0_52 rfl rfl zRf_ref <| zw_callV [] _ dAb_append_0_53 hd zk_Ab_195 ho rfl rfl hl hc (zPv_k kk)
theorem sAb_append_0_56 {G : zG} {d : Nat} {Q : Option Value → Heap → Prop} {H : Heap} {st : List Value} {o1 : Option Value} {a0 : Nat} {vf1 : Value} {xf2 : Int32} {b0 : Value} {b1 : Value} {b2 : Value} {b3 : Value} (hrf1 : zRf vf1 := by first | exact zRf_ref | exact zRf_null | exact zRf_rf _ | assumption) (hf1 : zFd G H a0 1 0 vf1) (hf2 : zFd G H a0 1 3 (.int xf2)) (ho : zObj G H a0 1 [b0, b1, b2, b3]) (hw : zFr G a0) (kk : ∀ H1 : Heap, zObj G H1 a0 1 [b0, b1, b2, (.int (xf2 + (1 : Int32)))] → zUp a0 H H1 → zW G d M_Ab_append_0 71 [some (.ref a0), o1] ((.int xf2) :: vf1 :: st) H1 Q) : zW G d M_Ab_append_0 56 [some (.ref a0), o1] st H Q :=
  zw_aload_n (i := 0) dAb_append_0_56 rfl rfl zRf_ref <| zw_getf dAb_append_0_57 zf_Ab_15 hf1 <| zw_aload_n (i := 0) dAb_append_0_60 rfl rfl zRf_ref <| zw_dup dAb_append_0_61 rfl <| zw_getf dAb_append_0_62 zf_Ab_79 hf2 <| zw_dup_x1 dAb_append_0_65 rfl rfl <| zw_iconst (1 : Int32) dAb_append_0_66 zki_1 <| zw_iadd dAb_append_0_67 <| zw_putf (k := 3) dAb_append_0_68 zp_Ab_append_0_79 ho (Nat.le_of_ble_eq_true rfl) (Nat.le_of_ble_eq_true rfl) hw rfl rfl kk
theorem sAb_append_0_71 {G : zG} {d : Nat} {Q : Option Value → Heap → Prop} {H : Heap} {st : List Value} {o0 : Option Value} {x1 : Int32} {xs0 : Int32} {vs1 : Value} {P : Heap → Prop} (hrs1 : zRf vs1 := by first | exact zRf_ref | exact zRf_null | exact zRf_rf _ | assumption) (hd : 1 ≤ d) (hl : st.length ≤ 4) (hc : zC G (d - 1) M_U16_putCharSB [vs1, (.int xs0), (.int x1)] H (zPv P)) (kk : ∀ H1 : Heap, P H1 → zOk G H1 → H.size ≤ H1.size → zT H ≤ zT H1 → zW G d M_Ab_append_0 75 [o0, some (.int x1)] st H1 Q) : zW G d M_Ab_append_0 71 [o0, some (.int x1)] ((.int xs0) :: vs1 :: st) H Q :=
  zw_iload_n (i := 1) dAb_append_0_71 rfl rfl <| zw_callS [vs1, (.int xs0), (.int x1)] _ dAb_append_0_72 hd zk_Ab_197 rfl rfl hl hc (zPv_k kk)
theorem sAb_append_0_75 {G : zG} {d : Nat} {Q : Option Value → Heap → Prop} {H : Heap} {o1 : Option Value} {v0 : Value} (hr0 : zRf v0 := by first | exact zRf_ref | exact zRf_null | exact zRf_rf _ | assumption) (hq : Q (some v0) H) : zW G d M_Ab_append_0 75 [some v0, o1] [] H Q :=
  zw_aload_n (i := 0) dAb_append_0_75 rfl rfl hr0 <| zw_aret dAb_append_0_76 (.object "java/lang/AbstractStringBuilder") rfl (Or.inl ⟨_, rfl⟩) hr0 hq
theorem sAb_ensureCapacityInternal_0 {G : zG} {d : Nat} {Q : Option Value → Heap → Prop} {H : Heap} {st : List Value} {o2 : Option Value} {a0 : Nat} {af1 : Nat} {xf3 : Int32} {x1 : Int32} {n2 : Nat} {t2 : FieldType} {g2 : Nat → Value} (hf1 : zFd G H a0 1 0 (.ref af1)) (ha2 : zArr G H af1 t2 n2 g2) (hf3 : zFd G H a0 1 1 (.int xf3)) (kt : ((x1 - ((nI n2) >>> (xf3 &&& 31))) ≤ 0) → zW G d M_Ab_ensureCapacityInternal 38 [some (.ref a0), some (.int x1), some (.int ((nI n2) >>> (xf3 &&& 31)))] st H Q) (kf : (¬ (x1 - ((nI n2) >>> (xf3 &&& 31))) ≤ 0) → zW G d M_Ab_ensureCapacityInternal 17 [some (.ref a0), some (.int x1), some (.int ((nI n2) >>> (xf3 &&& 31)))] st H Q) : zW G d M_Ab_ensureCapacityInternal 0 [some (.ref a0), some (.int x1), o2] st H Q :=
  zw_aload_n (i := 0) dAb_ensureCapacityInternal_0 rfl rfl zRf_ref <| zw_getf dAb_ensureCapacityInternal_1 zf_Ab_15 hf1 <| zw_alen dAb_ensureCapacityInternal_4 ha2 <| zw_aload_n (i := 0) dAb_ensureCapacityInternal_5 rfl rfl zRf_ref <| zw_getf dAb_ensureCapacityInternal_6 zf_Ab_22 hf3 <| zw_ishr dAb_ensureCapacityInternal_9 <| zw_istore_n (i := 2) dAb_ensureCapacityInternal_10 rfl (Nat.le_of_ble_eq_true rfl) <| zw_iload_n (i := 1) dAb_ensureCapacityInternal_11 rfl rfl <| zw_iload_n (i := 2) dAb_ensureCapacityInternal_12 rfl rfl <| zw_isub dAb_ensureCapacityInternal_13 <| zw_if_le 38 dAb_ensureCapacityInternal_14 (by decide) kt kf
theorem sAb_ensureCapacityInternal_17 {G : zG} {d : Nat} {Q : Option Value → Heap → Prop} {H : Heap} {st : List Value} {o2 : Option Value} {a0 : Nat} {vf1 : Value} {x1 : Int32} {P : Int32 → Heap → Prop} (hrf1 : zRf vf1 := by first | exact zRf_ref | exact zRf_null | exact zRf_rf _ | assumption) (hf1 : zFd G H a0 1 0 vf1) (hd : 1 ≤ d) (hl : (vf1 :: (.ref a0) :: st).length ≤ 4) (ho : zIs G H a0 1) (hc : zC G (d - 1) M_Ab_newCapacity [(.ref a0), (.int x1)] H (zPi P)) (kk : ∀ (r : Int32) (H1 : Heap), P r H1 → zOk G H1 → H.size ≤ H1.size → zT H ≤ zT H1 → zW G d M_Ab_ensureCapacityInternal 27 [some (.ref a0), some (.int x1), o2] ((.int r) :: vf1 :: (.ref a0) :: st) H1 Q) : zW G d M_Ab_ensureCapacityInternal 17 [some (.ref a0), some (.int x1), o2] st H Q :=
  zw_aload_n (i := 0) dAb_ensureCapacityInternal_17 rfl rfl zRf_ref <| zw_aload_n (i := 0) dAb_ensureCapacityInternal_18 rfl rfl zRf_ref <| zw_getf dAb_ensureCapacityInternal_19 zf_Ab_15 hf1 <| zw_aload_n (i := 0) dAb_ensureCapacityInternal_22 rfl rfl zRf_ref <| zw_iload_n (i := 1) dAb_ensureCapacityInternal_23 rfl rfl <| zw_callV [(.int x1)] _ dAb_ensureCapacityInternal_24 hd zk_Ab_104 ho rfl rfl hl hc (zPi_k kk)
theorem sAb_ensureCapacityInternal_27 {G : zG} {d : Nat} {Q : Option Value → Heap → Prop} {H : Heap} {st : List Value} {o1 : Option Value} {o2 : Option Value} {a0 : Nat} {xf1 : Int32} {xs0 : Int32} {vs1 : Value} {P : Value → Heap → Prop} (hrs1 : zRf vs1 := by first | exact zRf_ref | exact zRf_null | exact zRf_rf _ | assumption) (hf1 : zFd G H a0 1 1 (.int xf1)) (hd : 1 ≤ d) (hl : st.length ≤ 4) (hc : zC G (d - 1) M_Ar_copyOf_0 [vs1, (.int (xs0 <<< (xf1 &&& 31)))] H (zPr P)) (kk : ∀ (r : Value) (H1 : Heap), zRf r → P r H1 → zOk G H1 → H.size ≤ H1.size → zT H ≤ zT H1 → zW G d M_Ab_ensureCapacityInternal 35 [some (.ref a0), o1, o2] (r :: st) H1 Q) : zW G d M_Ab_ensureCapacityInternal 27 [some (.ref a0), o1, o2] ((.int xs0) :: vs1 :: st) H Q :=
  zw_aload_n (i := 0) dAb_ensureCapacityInternal_27 rfl rfl zRf_ref <| zw_getf dAb_ensureCapacityInternal_28 zf_Ab_22 hf1 <| zw_ishl dAb_ensureCapacityInternal_31 <| zw_callS [vs1, (.int (xs0 <<< (xf1 &&& 31)))] _ dAb_ensureCapacityInternal_32 hd zk_Ab_108 rfl rfl hl hc (zPr_k kk)
theorem sAb_ensureCapacityInternal_35 {G : zG} {d : Nat} {Q : Option Value → Heap → Prop} {H : Heap} {st : List Value} {o0 : Option Value} {o1 : Option Value} {o2 : Option Value} {vs0 : Value} {as1 : Nat} {b0 : Value} {b1 : Value} {b2 : Value} {b3 : Value} (hrs0 : zRf vs0 := by first | exact zRf_ref | exact zRf_null | exact zRf_rf _ | assumption) (ho : zObj G H as1 1 [b0, b1, b2, b3]) (hw : zFr G as1) (kk : ∀ H1 : Heap, zObj G H1 as1 1 [vs0, b1, b2, b3] → zUp as1 H H1 → zW G d M_Ab_ensureCapacityInternal 38 [o0, o1, o2] st H1 Q) : zW G d M_Ab_ensureCapacityInternal 35 [o0, o1, o2] (vs0 :: (.ref as1) :: st) H Q :=
  zw_putf (k := 0) dAb_ensureCapacityInternal_35 zp_Ab_ensureCapacityInternal_15 ho (Nat.le_of_ble_eq_true rfl) (Nat.le_of_ble_eq_true rfl) hw (zNarA hrs0) (zFitA hrs0) kk
theorem sAb_ensureCapacityInternal_38 {G : zG} {d : Nat} {Q : Option Value → Heap → Prop} {H : Heap} {o0 : Option Value} {o1 : Option Value} {o2 : Option Value} (hq : Q none H) : zW G d M_Ab_ensureCapacityInternal 38 [o0, o1, o2] [] H Q :=
  zw_vret dAb_ensureCapacityInternal_38 rfl hq
theorem sAb_newCapacity_0 {G : zG} {d : Nat} {Q : Option Value → Heap → Prop} {H : Heap} {st : List Value} {o2 : Option Value} {o3 : Option Value} {o4 : Option Value} {o5 : Option Value} {a0 : Nat} {af1 : Nat} {x1 : Int32} {xf3 : Int32} {xf4 : Int32} {n2 : Nat} {t2 : FieldType} {g2 : Nat → Value} {P : Int32 → Heap → Prop} (hf1 : zFd G H a0 1 0 (.ref af1)) (ha2 : zArr G H af1 t2 n2 g2) (hf3 : zFd G H a0 1 1 (.int xf3)) (hf4 : zFd G H a0 1 1 (.int xf4)) (hd : 1 ≤ d) (hl : st.length ≤ 4) (hc : zC G (d - 1) M_AS_newLength [(.int (nI n2)), (.int ((x1 <<< (xf3 &&& 31)) - (nI n2))), (.int ((nI n2) + ((2 : Int32) <<< (xf4 &&& 31))))] H (zPi P)) (kk : ∀ (r : Int32) (H1 : Heap), P r H1 → zOk G H1 → H.size ≤ H1.size → zT H ≤ zT H1 → zW G d M_Ab_newCapacity 32 [some (.ref a0), some (.int x1), some (.int (nI n2)), some (.int (x1 <<< (xf3 &&& 31))), some (.int ((x1 <<< (xf3 &&& 31)) - (nI n2))), o5] ((.int r) :: st) H1 Q) : zW G d M_Ab_newCapacity 0 [some (.ref a0), some (.int x1), o2, o3, o4, o5] st H Q :=
  zw_aload_n (i := 0) dAb_newCapacity_0 rfl rfl zRf_ref <| zw_getf dAb_newCapacity_1 zf_Ab_15 hf1 <| zw_alen dAb_newCapacity_4 ha2 <| zw_istore_n (i := 2) dAb_newCapacity_5 rfl (Nat.le_of_ble_eq_true rfl) <| zw_iload_n (i := 1) dAb_newCapacity_6 rfl rfl <| zw_aload_n (i := 0) dAb_newCapacity_7 rfl rfl zRf_ref <| zw_getf dAb_newCapacity_8 zf_Ab_22 hf3 <| zw_ishl dAb_newCapacity_11 <| zw_istore_n (i := 3) dAb_newCapacity_12 rfl (Nat.le_of_ble_eq_true rfl) <| zw_iload_n (i := 3) dAb_newCapacity_13 rfl rfl <| zw_iload_n (i := 2) dAb_newCapacity_14 rfl rfl <| zw_isub dAb_newCapacity_15 <| zw_istore (i := 4) dAb_newCapacity_16 (Nat.le_of_ble_eq_true rfl) <| zw_iload_n (i := 2) dAb_newCapacity_18 rfl rfl <| zw_iload (i := 4) dAb_newCapacity_19 rfl <| zw_iload_n (i := 2) dAb_newCapacity_21 rfl rfl <| zw_iconst (2 : Int32) dAb_newCapacity_22 zki_2 <| zw_aload_n (i := 0) dAb_newCapacity_23 rfl rfl zRf_ref <| zw_getf dAb_newCapacity_24 zf_Ab_22 hf4 <| zw_ishl dAb_newCapacity_27 <| zw_iadd dAb_newCapacity_28 <| zw_callS [(.int (nI n2)), (.int ((x1 <<< (xf3 &&& 31)) - (nI n2))), (.int ((nI n2) + ((2 : Int32) <<< (xf4 &&& 31))))] _ dAb_newCapacity_29 hd zk_Ab_114 rfl rfl hl hc (zPi_k kk)
theorem sAb_newCapacity_32 {G : zG} {d : Nat} {Q : Option Value → Heap → Prop} {H : Heap} {st : List Value} {o0 : Option Value} {o1 : Option Value} {o2 : Option Value} {o3 : Option Value} {o4 : Option Value} {o5 : Option Value} {xs0 : Int32} (kt : (¬ xs0 = (2147483647 : Int32)) → zW G d M_Ab_newCapacity 51 [o0, o1, o2, o3, o4, some (.int xs0)] st H Q) (kf : (xs0 = (2147483647 : Int32)) → zW G d M_Ab_newCapacity 41 [o0, o1, o2, o3, o4, some (.int xs0)] st H Q) : zW G d M_Ab_newCapacity 32 [o0, o1, o2, o3, o4, o5] ((.int xs0) :: st) H Q :=
  zw_istore (i := 5) dAb_newCapacity_32 (Nat.le_of_ble_eq_true rfl) <| zw_iload (i := 5) dAb_newCapacity_34 rfl <| zw_ldc dAb_newCapacity_36 (zt2 64 rfl) <| zw_icmp_ne 51 dAb_newCapacity_38 (by decide) kt kf
theorem sAb_newCapacity_44 {G : zG} {d : Nat} {Q : Option Value → Heap → Prop} {H : Heap} {st : List Value} {o0 : Option Value} {o1 : Option Value} {o2 : Option Value} {o3 : Option Value} {o4 : Option Value} {o5 : Option Value} {ws0 : Value} (hcs0 : ws0.category = 1 := by first | rfl | exact zRf.cat (by assumption)) (kk : zW G d M_Ab_newCapacity 45 [o0, o1, o2, o3, o4, o5] (ws0 :: ws0 :: st) H Q) : zW G d M_Ab_newCapacity 44 [o0, o1, o2, o3, o4, o5] (ws0 :: st) H Q :=
  zw_dup dAb_newCapacity_44 hcs0 <| kk
theorem sAb_newCapacity_51 {G : zG} {d : Nat} {Q : Option Value → Heap → Prop} {H : Heap} {o1 : Option Value} {o2 : Option Value} {o3 : Option Value} {o4 : Option Value} {x5 : Int32} {a0 : Nat} {xf1 : Int32} (hf1 : zFd G H a0 1 1 (.int xf1)) (hq : Q (some (.int (x5 >>> (xf1 &&& 31)))) H) : zW G d M_Ab_newCapacity 51 [some (.ref a0), o1, o2, o3, o4, some (.int x5)] [] H Q :=
  zw_iload (i := 5) dAb_newCapacity_51 rfl <| zw_aload_n (i := 0) dAb_newCapacity_53 rfl rfl zRf_ref <| zw_getf dAb_newCapacity_54 zf_Ab_22 hf1 <| zw_ishr dAb_newCapacity_57 <| zw_iret dAb_newCapacity_58 .int rfl rfl hq
theorem sAb_isLatin1_0 {G : zG} {d : Nat} {Q : Option Value → Heap → Prop} {H : Heap} {st : List Value} {o0 : Option Value} (hz1 : va_Z "java/lang/String" "COMPACT_STRINGS" "Z" (.int 1) (zFr G) (zS G) (zS G).heap) (kt : ((1 : Int32) = 0) → zW G d M_Ab_isLatin1 17 [o0] st H Q) (kf : (¬ (1 : Int32) = 0) → zW G d M_Ab_isLatin1 6 [o0] st H Q) : zW G d M_Ab_isLatin1 0 [o0] st H Q :=
  zw_gets dAb_isLatin1_0 hz1 (zt1 45 rfl) (Or.inl rfl) <| zw_if_eq 17 dAb_isLatin1_3 (by decide) kt kf
theorem sAb_isLatin1_6 {G : zG} {d : Nat} {Q : Option Value → Heap → Prop} {H : Heap} {st : List Value} {a0 : Nat} {xf1 : Int32} (hf1 : zFd G H a0 1 1 (.int xf1)) (kt : (¬ xf1 = 0) → zW G d M_Ab_isLatin1 17 [some (.ref a0)] st H Q) (kf : (xf1 = 0) → zW G d M_Ab_isLatin1 13 [some (.ref a0)] st H Q) : zW G d M_Ab_isLatin1 6 [some (.ref a0)] st H Q :=
  zw_aload_n (i := 0) dAb_isLatin1_6 rfl rfl zRf_ref <| zw_getf dAb_isLatin1_7 zf_Ab_22 hf1 <| zw_if_ne 17 dAb_isLatin1_10 (by decide) kt kf
theorem sAb_isLatin1_13 {G : zG} {d : Nat} {Q : Option Value → Heap → Prop} {H : Heap} {o0 : Option Value} (hn : narrow .boolean (.int (1 : Int32)) = .int (1 : Int32)) (hq : Q (some (.int (1 : Int32))) H) : zW G d M_Ab_isLatin1 13 [o0] [] H Q :=
  zw_iconst (1 : Int32) dAb_isLatin1_13 zki_1 <| zw_goto 18 dAb_isLatin1_14 (by decide) <| zw_iret dAb_isLatin1_18 .boolean rfl hn hq
theorem sAb_isLatin1_17 {G : zG} {d : Nat} {Q : Option Value → Heap → Prop} {H : Heap} {o0 : Option Value} (hn : narrow .boolean (.int (0 : Int32)) = .int (0 : Int32)) (hq : Q (some (.int (0 : Int32))) H) : zW G d M_Ab_isLatin1 17 [o0] [] H Q :=
  zw_iconst (0 : Int32) dAb_isLatin1_17 zki_0 <| zw_iret dAb_isLatin1_18 .boolean rfl hn hq
theorem sAb_isLatin1_18 {G : zG} {d : Nat} {Q : Option Value → Heap → Prop} {H : Heap} {o0 : Option Value} {xs0 : Int32} (hn : narrow .boolean (.int xs0) = .int xs0) (hq : Q (some (.int xs0)) H) : zW G d M_Ab_isLatin1 18 [o0] ((.int xs0) :: []) H Q :=
  zw_iret dAb_isLatin1_18 .boolean rfl hn hq
theorem sAb_inflate_0 {G : zG} {d : Nat} {Q : Option Value → Heap → Prop} {H : Heap} {st : List Value} {o1 : Option Value} {a0 : Nat} {P : Int32 → Heap → Prop} (hd : 1 ≤ d) (hl : st.length ≤ 4) (ho : zIs G H a0 1) (hc : zC G (d - 1) M_Ab_isLatin1 [(.ref a0)] H (zPi P)) (kk : ∀ (r : Int32) (H1 : Heap), P r H1 → zOk G H1 → H.size ≤ H1.size → zT H ≤ zT H1 → zW G d M_Ab_inflate 4 [some (.ref a0), o1] ((.int r) :: st) H1 Q) : zW G d M_Ab_inflate 0 [some (.ref a0), o1] st H Q :=
  zw_aload_n (i := 0) dAb_inflate_0 rfl rfl zRf_ref <| zw_callV [] _ dAb_inflate_1 hd zk_Ab_83 ho rfl rfl hl hc (zPi_k kk)
theorem sAb_inflate_4 {G : zG} {d : Nat} {Q : Option Value → Heap → Prop} {H : Heap} {st : List Value} {o0 : Option Value} {o1 : Option Value} {xs0 : Int32} (kt : (¬ xs0 = 0) → zW G d M_Ab_inflate 8 [o0, o1] st H Q) (kf : (xs0 = 0) → zW G d M_Ab_inflate 7 [o0, o1] st H Q) : zW G d M_Ab_inflate 4 [o0, o1] ((.int xs0) :: st) H Q :=
  zw_if_ne 8 dAb_inflate_4 (by decide) kt kf
theorem sAb_inflate_7 {G : zG} {d : Nat} {Q : Option Value → Heap → Prop} {H : Heap} {o0 : Option Value} {o1 : Option Value} (hq : Q none H) : zW G d M_Ab_inflate 7 [o0, o1] [] H Q :=
  zw_vret dAb_inflate_7 rfl hq
theorem sAb_inflate_8 {G : zG} {d : Nat} {Q : Option Value → Heap → Prop} {H : Heap} {st : List Value} {o1 : Option Value} {a0 : Nat} {af1 : Nat} {n2 : Nat} {t2 : FieldType} {g2 : Nat → Value} {P : Value → Heap → Prop} (hf1 : zFd G H a0 1 0 (.ref af1)) (ha2 : zArr G H af1 t2 n2 g2) (hd : 1 ≤ d) (hl : st.length ≤ 4) (hc : zC G (d - 1) M_U16_newBytesFor [(.int (nI n2))] H (zPr P)) (kk : ∀ (r : Value) (H1 : Heap), zRf r → P r H1 → zOk G H1 → H.size ≤ H1.size → zT H ≤ zT H1 → zW G d M_Ab_inflate 16 [some (.ref a0), o1] (r :: st) H1 Q) : zW G d M_Ab_inflate 8 [some (.ref a0), o1] st H Q :=
  zw_aload_n (i := 0) dAb_inflate_8 rfl rfl zRf_ref <| zw_getf dAb_inflate_9 zf_Ab_15 hf1 <| zw_alen dAb_inflate_12 ha2 <| zw_callS [(.int (nI n2))] _ dAb_inflate_13 hd zk_Ab_26 rfl rfl hl hc (zPr_k kk)
theorem sAb_inflate_16 {G : zG} {d : Nat} {Q : Option Value → Heap → Prop} {H : Heap} {st : List Value} {o1 : Option Value} {vs0 : Value} {a0 : Nat} {vf1 : Value} {xf2 : Int32} {P : Heap → Prop} (hrs0 : zRf vs0 := by first | exact zRf_ref | exact zRf_null | exact zRf_rf _ | assumption) (hrf1 : zRf vf1 := by first | exact zRf_ref | exact zRf_null | exact zRf_rf _ | assumption) (hf1 : zFd G H a0 1 0 vf1) (hf2 : zFd G H a0 1 3 (.int xf2)) (hd : 1 ≤ d) (hl : st.length ≤ 4) (hc : zC G (d - 1) M_L1_inflate [vf1, (.int (0 : Int32)), vs0, (.int (0 : Int32)), (.int xf2)] H (zPv P)) (kk : ∀ H1 : Heap, P H1 → zOk G H1 → H.size ≤ H1.size → zT H ≤ zT H1 → zW G d M_Ab_inflate 31 [some (.ref a0), some vs0] st H1 Q) : zW G d M_Ab_inflate 16 [some (.ref a0), o1] (vs0 :: st) H Q :=
  zw_astore_n (i := 1) dAb_inflate_16 rfl (Nat.le_of_ble_eq_true rfl) hrs0 <| zw_aload_n (i := 0) dAb_inflate_17 rfl rfl zRf_ref <| zw_getf dAb_inflate_18 zf_Ab_15 hf1 <| zw_iconst (0 : Int32) dAb_inflate_21 zki_0 <| zw_aload_n (i := 1) dAb_inflate_22 rfl rfl hrs0 <| zw_iconst (0 : Int32) dAb_inflate_23 zki_0 <| zw_aload_n (i := 0) dAb_inflate_24 rfl rfl zRf_ref <| zw_getf dAb_inflate_25 zf_Ab_79 hf2 <| zw_callS [vf1, (.int (0 : Int32)), vs0, (.int (0 : Int32)), (.int xf2)] _ dAb_inflate_28 hd zk_Ab_125 rfl rfl hl hc (zPv_k kk)
theorem sAb_inflate_31 {G : zG} {d : Nat} {Q : Option Value → Heap → Prop} {H : Heap} {st : List Value} {a0 : Nat} {v1 : Value} {b0 : Value} {b1 : Value} {b2 : Value} {b3 : Value} (hr1 : zRf v1 := by first | exact zRf_ref | exact zRf_null | exact zRf_rf _ | assumption) (ho : zObj G H a0 1 [b0, b1, b2, b3]) (hw : zFr G a0) (kk : ∀ H1 : Heap, zObj G H1 a0 1 [v1, b1, b2, b3] → zUp a0 H H1 → zW G d M_Ab_inflate 36 [some (.ref a0), some v1] st H1 Q) : zW G d M_Ab_inflate 31 [some (.ref a0), some v1] st H Q :=
  zw_aload_n (i := 0) dAb_inflate_31 rfl rfl zRf_ref <| zw_aload_n (i := 1) dAb_inflate_32 rfl rfl hr1 <| zw_putf (k := 0) dAb_inflate_33 zp_Ab_inflate_15 ho (Nat.le_of_ble_eq_true rfl) (Nat.le_of_ble_eq_true rfl) hw (zNarA hr1) (zFitA hr1) kk
theorem sAb_inflate_36 {G : zG} {d : Nat} {Q : Option Value → Heap → Prop} {H : Heap} {st : List Value} {o1 : Option Value} {a0 : Nat} {b0 : Value} {b1 : Value} {b2 : Value} {b3 : Value} (ho : zObj G H a0 1 [b0, b1, b2, b3]) (hw : zFr G a0) (hn : narrow .byte (.int (1 : Int32)) = (.int (1 : Int32))) (hfit : fits .byte (.int (1 : Int32)) = true) (kk : ∀ H1 : Heap, zObj G H1 a0 1 [b0, (.int (1 : Int32)), b2, b3] → zUp a0 H H1 → zW G d M_Ab_inflate 41 [some (.ref a0), o1] st H1 Q) : zW G d M_Ab_inflate 36 [some (.ref a0), o1] st H Q :=
  zw_aload_n (i := 0) dAb_inflate_36 rfl rfl zRf_ref <| zw_iconst (1 : Int32) dAb_inflate_37 zki_1 <| zw_putf (k := 1) dAb_inflate_38 zp_Ab_inflate_22 ho (Nat.le_of_ble_eq_true rfl) (Nat.le_of_ble_eq_true rfl) hw hn hfit kk
theorem sAb_inflate_41 {G : zG} {d : Nat} {Q : Option Value → Heap → Prop} {H : Heap} {o0 : Option Value} {o1 : Option Value} (hq : Q none H) : zW G d M_Ab_inflate 41 [o0, o1] [] H Q :=
  zw_vret dAb_inflate_41 rfl hq
theorem sSb_setLength_0 {G : zG} {d : Nat} {Q : Option Value → Heap → Prop} {H : Heap} {st : List Value} {a0 : Nat} {x1 : Int32} {P : Heap → Prop} (hd : 1 ≤ d) (hl : st.length ≤ 4) (ho : zIs G H a0 1) (hc : zC G (d - 1) M_Ab_setLength [(.ref a0), (.int x1)] H (zPv P)) (kk : ∀ H1 : Heap, P H1 → zOk G H1 → H.size ≤ H1.size → zT H ≤ zT H1 → zW G d M_Sb_setLength 5 [some (.ref a0), some (.int x1)] st H1 Q) : zW G d M_Sb_setLength 0 [some (.ref a0), some (.int x1)] st H Q :=
  zw_aload_n (i := 0) dSb_setLength_0 rfl rfl zRf_ref <| zw_iload_n (i := 1) dSb_setLength_1 rfl rfl <| zw_callSU [(.int x1)] _ dSb_setLength_2 hd zk_Sb_333 ho rfl rfl hl hc (zPv_k kk)
theorem sSb_setLength_5 {G : zG} {d : Nat} {Q : Option Value → Heap → Prop} {H : Heap} {o0 : Option Value} {o1 : Option Value} (hq : Q none H) : zW G d M_Sb_setLength 5 [o0, o1] [] H Q :=
  zw_vret dSb_setLength_5 rfl hq
theorem sAb_setLength_0 {G : zG} {d : Nat} {Q : Option Value → Heap → Prop} {H : Heap} {st : List Value} {o0 : Option Value} {x1 : Int32} (kt : (0 ≤ x1) → zW G d M_Ab_setLength 13 [o0, some (.int x1)] st H Q) (kf : (¬ 0 ≤ x1) → zW G d M_Ab_setLength 4 [o0, some (.int x1)] st H Q) : zW G d M_Ab_setLength 0 [o0, some (.int x1)] st H Q :=
  zw_iload_n (i := 1) dAb_setLength_0 rfl rfl <| zw_if_ge 13 dAb_setLength_1 (by decide) kt kf
theorem sAb_setLength_7 {G : zG} {d : Nat} {Q : Option Value → Heap → Prop} {H : Heap} {st : List Value} {o0 : Option Value} {ws0 : Value} {x1 : Int32} (hcs0 : ws0.category = 1 := by first | rfl | exact zRf.cat (by assumption)) (kk : zW G d M_Ab_setLength 9 [o0, some (.int x1)] ((.int x1) :: ws0 :: ws0 :: st) H Q) : zW G d M_Ab_setLength 7 [o0, some (.int x1)] (ws0 :: st) H Q :=
  zw_dup dAb_setLength_7 hcs0 <| zw_iload_n (i := 1) dAb_setLength_8 rfl rfl <| kk
theorem sAb_setLength_13 {G : zG} {d : Nat} {Q : Option Value → Heap → Prop} {H : Heap} {st : List Value} {a0 : Nat} {x1 : Int32} {P : Heap → Prop} (hd : 1 ≤ d) (hl : st.length ≤ 4) (ho : zIs G H a0 1) (hc : zC G (d - 1) M_Ab_ensureCapacityInternal [(.ref a0), (.int x1)] H (zPv P)) (kk : ∀ H1 : Heap, P H1 → zOk G H1 → H.size ≤ H1.size → zT H ≤ zT H1 → zW G d M_Ab_setLength 18 [some (.ref a0), some (.int x1)] st H1 Q) : zW G d M_Ab_setLength 13 [some (.ref a0), some (.int x1)] st H Q :=
  zw_aload_n (i := 0) dAb_setLength_13 rfl rfl zRf_ref <| zw_iload_n (i := 1) dAb_setLength_14 rfl rfl <| zw_callV [(.int x1)] _ dAb_setLength_15 hd zk_Ab_100 ho rfl rfl hl hc (zPv_k kk)
theorem sAb_setLength_18 {G : zG} {d : Nat} {Q : Option Value → Heap → Prop} {H : Heap} {st : List Value} {a0 : Nat} {xf1 : Int32} {x1 : Int32} (hf1 : zFd G H a0 1 3 (.int xf1)) (kt : (x1 ≤ xf1) → zW G d M_Ab_setLength 63 [some (.ref a0), some (.int x1)] st H Q) (kf : (¬ x1 ≤ xf1) → zW G d M_Ab_setLength 26 [some (.ref a0), some (.int x1)] st H Q) : zW G d M_Ab_setLength 18 [some (.ref a0), some (.int x1)] st H Q :=
  zw_aload_n (i := 0) dAb_setLength_18 rfl rfl zRf_ref <| zw_getf dAb_setLength_19 zf_Ab_79 hf1 <| zw_iload_n (i := 1) dAb_setLength_22 rfl rfl <| zw_icmp_ge 63 dAb_setLength_23 (by decide) kt kf
theorem sAb_setLength_26 {G : zG} {d : Nat} {Q : Option Value → Heap → Prop} {H : Heap} {st : List Value} {o1 : Option Value} {a0 : Nat} {P : Int32 → Heap → Prop} (hd : 1 ≤ d) (hl : st.length ≤ 4) (ho : zIs G H a0 1) (hc : zC G (d - 1) M_Ab_isLatin1 [(.ref a0)] H (zPi P)) (kk : ∀ (r : Int32) (H1 : Heap), P r H1 → zOk G H1 → H.size ≤ H1.size → zT H ≤ zT H1 → zW G d M_Ab_setLength 30 [some (.ref a0), o1] ((.int r) :: st) H1 Q) : zW G d M_Ab_setLength 26 [some (.ref a0), o1] st H Q :=
  zw_aload_n (i := 0) dAb_setLength_26 rfl rfl zRf_ref <| zw_callV [] _ dAb_setLength_27 hd zk_Ab_83 ho rfl rfl hl hc (zPi_k kk)
theorem sAb_setLength_30 {G : zG} {d : Nat} {Q : Option Value → Heap → Prop} {H : Heap} {st : List Value} {o0 : Option Value} {o1 : Option Value} {xs0 : Int32} (kt : (xs0 = 0) → zW G d M_Ab_setLength 48 [o0, o1] st H Q) (kf : (¬ xs0 = 0) → zW G d M_Ab_setLength 33 [o0, o1] st H Q) : zW G d M_Ab_setLength 30 [o0, o1] ((.int xs0) :: st) H Q :=
  zw_if_eq 48 dAb_setLength_30 (by decide) kt kf
theorem sAb_setLength_33 {G : zG} {d : Nat} {Q : Option Value → Heap → Prop} {H : Heap} {st : List Value} {a0 : Nat} {vf1 : Value} {xf2 : Int32} {x1 : Int32} {P : Heap → Prop} (hrf1 : zRf vf1 := by first | exact zRf_ref | exact zRf_null | exact zRf_rf _ | assumption) (hf1 : zFd G H a0 1 0 vf1) (hf2 : zFd G H a0 1 3 (.int xf2)) (hd : 1 ≤ d) (hl : st.length ≤ 4) (hc : zC G (d - 1) M_L1_fillNull [vf1, (.int xf2), (.int x1)] H (zPv P)) (kk : ∀ H1 : Heap, P H1 → zOk G H1 → H.size ≤ H1.size → zT H ≤ zT H1 → zW G d M_Ab_setLength 45 [some (.ref a0), some (.int x1)] st H1 Q) : zW G d M_Ab_setLength 33 [some (.ref a0), some (.int x1)] st H Q :=
  zw_aload_n (i := 0) dAb_setLength_33 rfl rfl zRf_ref <| zw_getf dAb_setLength_34 zf_Ab_15 hf1 <| zw_aload_n (i := 0) dAb_setLength_37 rfl rfl zRf_ref <| zw_getf dAb_setLength_38 zf_Ab_79 hf2 <| zw_iload_n (i := 1) dAb_setLength_41 rfl rfl <| zw_callS [vf1, (.int xf2), (.int x1)] _ dAb_setLength_42 hd zk_Ab_133 rfl rfl hl hc (zPv_k kk)
theorem sAb_setLength_45 {G : zG} {d : Nat} {Q : Option Value → Heap → Prop} {H : Heap} {st : List Value} {a0 : Nat} {x1 : Int32} {b0 : Value} {b1 : Value} {b2 : Value} {b3 : Value} (ho : zObj G H a0 1 [b0, b1, b2, b3]) (hw : zFr G a0) (kk : ∀ H1 : Heap, zObj G H1 a0 1 [b0, b1, b2, (.int x1)] → zUp a0 H H1 → zW G d M_Ab_setLength 81 [some (.ref a0), some (.int x1)] st H1 Q) : zW G d M_Ab_setLength 45 [some (.ref a0), some (.int x1)] st H Q :=
  zw_goto 76 dAb_setLength_45 (by decide) <| zw_aload_n (i := 0) dAb_setLength_76 rfl rfl zRf_ref <| zw_iload_n (i := 1) dAb_setLength_77 rfl rfl <| zw_putf (k := 3) dAb_setLength_78 zp_Ab_setLength_79 ho (Nat.le_of_ble_eq_true rfl) (Nat.le_of_ble_eq_true rfl) hw rfl rfl kk
theorem sAb_setLength_48 {G : zG} {d : Nat} {Q : Option Value → Heap → Prop} {H : Heap} {st : List Value} {a0 : Nat} {vf1 : Value} {xf2 : Int32} {x1 : Int32} {P : Heap → Prop} (hrf1 : zRf vf1 := by first | exact zRf_ref | exact zRf_null | exact zRf_rf _ | assumption) (hf1 : zFd G H a0 1 0 vf1) (hf2 : zFd G H a0 1 3 (.int xf2)) (hd : 1 ≤ d) (hl : st.length ≤ 4) (hc : zC G (d - 1) M_U16_fillNull [vf1, (.int xf2), (.int x1)] H (zPv P)) (kk : ∀ H1 : Heap, P H1 → zOk G H1 → H.size ≤ H1.size → zT H ≤ zT H1 → zW G d M_Ab_setLength 60 [some (.ref a0), some (.int x1)] st H1 Q) : zW G d M_Ab_setLength 48 [some (.ref a0), some (.int x1)] st H Q :=
  zw_aload_n (i := 0) dAb_setLength_48 rfl rfl zRf_ref <| zw_getf dAb_setLength_49 zf_Ab_15 hf1 <| zw_aload_n (i := 0) dAb_setLength_52 rfl rfl zRf_ref <| zw_getf dAb_setLength_53 zf_Ab_79 hf2 <| zw_iload_n (i := 1) dAb_setLength_56 rfl rfl <| zw_callS [vf1, (.int xf2), (.int x1)] _ dAb_setLength_57 hd zk_Ab_137 rfl rfl hl hc (zPv_k kk)
theorem sAb_setLength_60 {G : zG} {d : Nat} {Q : Option Value → Heap → Prop} {H : Heap} {st : List Value} {a0 : Nat} {x1 : Int32} {b0 : Value} {b1 : Value} {b2 : Value} {b3 : Value} (ho : zObj G H a0 1 [b0, b1, b2, b3]) (hw : zFr G a0) (kk : ∀ H1 : Heap, zObj G H1 a0 1 [b0, b1, b2, (.int x1)] → zUp a0 H H1 → zW G d M_Ab_setLength 81 [some (.ref a0), some (.int x1)] st H1 Q) : zW G d M_Ab_setLength 60 [some (.ref a0), some (.int x1)] st H Q :=
  zw_goto 76 dAb_setLength_60 (by decide) <| zw_aload_n (i := 0) dAb_setLength_76 rfl rfl zRf_ref <| zw_iload_n (i := 1) dAb_setLength_77 rfl rfl <| zw_putf (k := 3) dAb_setLength_78 zp_Ab_setLength_79 ho (Nat.le_of_ble_eq_true rfl) (Nat.le_of_ble_eq_true rfl) hw rfl rfl kk
theorem sAb_setLength_63 {G : zG} {d : Nat} {Q : Option Value → Heap → Prop} {H : Heap} {st : List Value} {a0 : Nat} {xf1 : Int32} {x1 : Int32} (hf1 : zFd G H a0 1 3 (.int xf1)) (kt : (xf1 ≤ x1) → zW G d M_Ab_setLength 76 [some (.ref a0), some (.int x1)] st H Q) (kf : (¬ xf1 ≤ x1) → zW G d M_Ab_setLength 71 [some (.ref a0), some (.int x1)] st H Q) : zW G d M_Ab_setLength 63 [some (.ref a0), some (.int x1)] st H Q :=
  zw_aload_n (i := 0) dAb_setLength_63 rfl rfl zRf_ref <| zw_getf dAb_setLength_64 zf_Ab_79 hf1 <| zw_iload_n (i := 1) dAb_setLength_67 rfl rfl <| zw_icmp_le 76 dAb_setLength_68 (by decide) kt kf
theorem sAb_setLength_71 {G : zG} {d : Nat} {Q : Option Value → Heap → Prop} {H : Heap} {st : List Value} {o1 : Option Value} {a0 : Nat} {b0 : Value} {b1 : Value} {b2 : Value} {b3 : Value} (ho : zObj G H a0 1 [b0, b1, b2, b3]) (hw : zFr G a0) (hn : narrow .boolean (.int (1 : Int32)) = (.int (1 : Int32))) (hfit : fits .boolean (.int (1 : Int32)) = true) (kk : ∀ H1 : Heap, zObj G H1 a0 1 [b0, b1, (.int (1 : Int32)), b3] → zUp a0 H H1 → zW G d M_Ab_setLength 76 [some (.ref a0), o1] st H1 Q) : zW G d M_Ab_setLength 71 [some (.ref a0), o1] st H Q :=
  zw_aload_n (i := 0) dAb_setLength_71 rfl rfl zRf_ref <| zw_iconst (1 : Int32) dAb_setLength_72 zki_1 <| zw_putf (k := 2) dAb_setLength_73 zp_Ab_setLength_73 ho (Nat.le_of_ble_eq_true rfl) (Nat.le_of_ble_eq_true rfl) hw hn hfit kk
theorem sAb_setLength_76 {G : zG} {d : Nat} {Q : Option Value → Heap → Prop} {H : Heap} {st : List Value} {a0 : Nat} {x1 : Int32} {b0 : Value} {b1 : Value} {b2 : Value} {b3 : Value} (ho : zObj G H a0 1 [b0, b1, b2, b3]) (hw : zFr G a0) (kk : ∀ H1 : Heap, zObj G H1 a0 1 [b0, b1, b2, (.int x1)] → zUp a0 H H1 → zW G d M_Ab_setLength 81 [some (.ref a0), some (.int x1)] st H1 Q) : zW G d M_Ab_setLength 76 [some (.ref a0), some (.int x1)] st H Q :=
  zw_aload_n (i := 0) dAb_setLength_76 rfl rfl zRf_ref <| zw_iload_n (i := 1) dAb_setLength_77 rfl rfl <| zw_putf (k := 3) dAb_setLength_78 zp_Ab_setLength_79 ho (Nat.le_of_ble_eq_true rfl) (Nat.le_of_ble_eq_true rfl) hw rfl rfl kk
theorem sAb_setLength_81 {G : zG} {d : Nat} {Q : Option Value → Heap → Prop} {H : Heap} {o0 : Option Value} {o1 : Option Value} (hq : Q none H) : zW G d M_Ab_setLength 81 [o0, o1] [] H Q :=
  zw_vret dAb_setLength_81 rfl hq
theorem sSb_charAt_0 {G : zG} {d : Nat} {Q : Option Value → Heap → Prop} {H : Heap} {st : List Value} {a0 : Nat} {x1 : Int32} {P : Int32 → Heap → Prop} (hd : 1 ≤ d) (hl : st.length ≤ 4) (ho : zIs G H a0 1) (hc : zC G (d - 1) M_Ab_charAt [(.ref a0), (.int x1)] H (zPi P)) (kk : ∀ (r : Int32) (H1 : Heap), P r H1 → zOk G H1 → H.size ≤ H1.size → zT H ≤ zT H1 → zW G d M_Sb_charAt 5 [some (.ref a0), some (.int x1)] ((.int r) :: st) H1 Q) : zW G d M_Sb_charAt 0 [some (.ref a0), some (.int x1)] st H Q :=
  zw_aload_n (i := 0) dSb_charAt_0 rfl rfl zRf_ref <| zw_iload_n (i := 1) dSb_charAt_1 rfl rfl <| zw_callSU [(.int x1)] _ dSb_charAt_2 hd zk_Sb_329 ho rfl rfl hl hc (zPi_k kk)
theorem sSb_charAt_5 {G : zG} {d : Nat} {Q : Option Value → Heap → Prop} {H : Heap} {o0 : Option Value} {o1 : Option Value} {xs0 : Int32} (hn : narrow .char (.int xs0) = .int xs0) (hq : Q (some (.int xs0)) H) : zW G d M_Sb_charAt 5 [o0, o1] ((.int xs0) :: []) H Q :=
  zw_iret dSb_charAt_5 .char rfl hn hq
theorem sAb_charAt_0 {G : zG} {d : Nat} {Q : Option Value → Heap → Prop} {H : Heap} {st : List Value} {o1 : Option Value} {o2 : Option Value} {o3 : Option Value} {o4 : Option Value} {a0 : Nat} {xf1 : Int32} {af2 : Nat} {xf3 : Int32} {n4 : Nat} {t4 : FieldType} {g4 : Nat → Value} {P : Int32 → Heap → Prop} (hf1 : zFd G H a0 1 1 (.int xf1)) (hf2 : zFd G H a0 1 0 (.ref af2)) (hf3 : zFd G H a0 1 3 (.int xf3)) (ha4 : zArr G H af2 t4 n4 g4) (hd : 1 ≤ d) (hl : st.length ≤ 4) (hc : zC G (d - 1) M_Ma_min [(.int xf3), (.int ((nI n4) >>> (xf1 &&& 31)))] H (zPi P)) (kk : ∀ (r : Int32) (H1 : Heap), P r H1 → zOk G H1 → H.size ≤ H1.size → zT H ≤ zT H1 → zW G d M_Ab_charAt 21 [some (.ref a0), o1, some (.int xf1), some (.ref af2), o4] ((.int r) :: st) H1 Q) : zW G d M_Ab_charAt 0 [some (.ref a0), o1, o2, o3, o4] st H Q :=
  zw_aload_n (i := 0) dAb_charAt_0 rfl rfl zRf_ref <| zw_getf dAb_charAt_1 zf_Ab_22 hf1 <| zw_istore_n (i := 2) dAb_charAt_4 rfl (Nat.le_of_ble_eq_true rfl) <| zw_aload_n (i := 0) dAb_charAt_5 rfl rfl zRf_ref <| zw_getf dAb_charAt_6 zf_Ab_15 hf2 <| zw_astore_n (i := 3) dAb_charAt_9 rfl (Nat.le_of_ble_eq_true rfl) zRf_ref <| zw_aload_n (i := 0) dAb_charAt_10 rfl rfl zRf_ref <| zw_getf dAb_charAt_11 zf_Ab_79 hf3 <| zw_aload_n (i := 3) dAb_charAt_14 rfl rfl zRf_ref <| zw_alen dAb_charAt_15 ha4 <| zw_iload_n (i := 2) dAb_charAt_16 rfl rfl <| zw_ishr dAb_charAt_17 <| zw_callS [(.int xf3), (.int ((nI n4) >>> (xf1 &&& 31)))] _ dAb_charAt_18 hd zk_Ab_138 rfl rfl hl hc (zPi_k kk)
theorem sAb_charAt_21 {G : zG} {d : Nat} {Q : Option Value → Heap → Prop} {H : Heap} {st : List Value} {o0 : Option Value} {o2 : Option Value} {o3 : Option Value} {o4 : Option Value} {xs0 : Int32} {x1 : Int32} {P : Heap → Prop} (hd : 1 ≤ d) (hl : st.length ≤ 4) (hc : zC G (d - 1) M_St_checkIndex [(.int x1), (.int xs0)] H (zPv P)) (kk : ∀ H1 : Heap, P H1 → zOk G H1 → H.size ≤ H1.size → zT H ≤ zT H1 → zW G d M_Ab_charAt 29 [o0, some (.int x1), o2, o3, some (.int xs0)] st H1 Q) : zW G d M_Ab_charAt 21 [o0, some (.int x1), o2, o3, o4] ((.int xs0) :: st) H Q :=
  zw_istore (i := 4) dAb_charAt_21 (Nat.le_of_ble_eq_true rfl) <| zw_iload_n (i := 1) dAb_charAt_23 rfl rfl <| zw_iload (i := 4) dAb_charAt_24 rfl <| zw_callS [(.int x1), (.int xs0)] _ dAb_charAt_26 hd zk_Ab_144 rfl rfl hl hc (zPv_k kk)
theorem sAb_charAt_29 {G : zG} {d : Nat} {Q : Option Value → Heap → Prop} {H : Heap} {st : List Value} {o0 : Option Value} {o1 : Option Value} {o3 : Option Value} {o4 : Option Value} {x2 : Int32} (kt : (¬ x2 = 0) → zW G d M_Ab_charAt 42 [o0, o1, some (.int x2), o3, o4] st H Q) (kf : (x2 = 0) → zW G d M_Ab_charAt 33 [o0, o1, some (.int x2), o3, o4] st H Q) : zW G d M_Ab_charAt 29 [o0, o1, some (.int x2), o3, o4] st H Q :=
  zw_iload_n (i := 2) dAb_charAt_29 rfl rfl <| zw_if_ne 42 dAb_charAt_30 (by decide) kt kf
theorem sAb_charAt_33 {G : zG} {d : Nat} {Q : Option Value → Heap → Prop} {H : Heap} {o0 : Option Value} {o2 : Option Value} {o4 : Option Value} {a3 : Nat} {x1 : Int32} {n1 : Nat} {g1 : Nat → Int32} (ha1 : zArr G H a3 .byte n1 (fun j => .int (g1 j))) (hi1 : vp_in x1 n1) (hn : narrow .char (.int ((((g1 (x1).toNatClampNeg) &&& (255 : Int32))).toUInt32 % 65536).toInt32) = .int ((((g1 (x1).toNatClampNeg) &&& (255 : Int32))).toUInt32 % 65536).toInt32) (hq : Q (some (.int ((((g1 (x1).toNatClampNeg) &&& (255 : Int32))).toUInt32 % 65536).toInt32)) H) : zW G d M_Ab_charAt 33 [o0, some (.int x1), o2, some (.ref a3), o4] [] H Q :=
  zw_aload_n (i := 3) dAb_charAt_33 rfl rfl zRf_ref <| zw_iload_n (i := 1) dAb_charAt_34 rfl rfl <| zw_bald dAb_charAt_35 ha1 hi1 <| zw_sipush (255 : Int32) dAb_charAt_36 zks_255 <| zw_iand dAb_charAt_39 <| zw_i2c dAb_charAt_40 <| zw_iret dAb_charAt_41 .char rfl hn hq
theorem sAb_charAt_42 {G : zG} {d : Nat} {Q : Option Value → Heap → Prop} {H : Heap} {st : List Value} {o0 : Option Value} {o2 : Option Value} {o4 : Option Value} {v3 : Value} {x1 : Int32} {P : Int32 → Heap → Prop} (hr3 : zRf v3 := by first | exact zRf_ref | exact zRf_null | exact zRf_rf _ | assumption) (hd : 1 ≤ d) (hl : st.length ≤ 4) (hc : zC G (d - 1) M_U16_getChar [v3, (.int x1)] H (zPi P)) (kk : ∀ (r : Int32) (H1 : Heap), P r H1 → zOk G H1 → H.size ≤ H1.size → zT H ≤ zT H1 → zW G d M_Ab_charAt 47 [o0, some (.int x1), o2, some v3, o4] ((.int r) :: st) H1 Q) : zW G d M_Ab_charAt 42 [o0, some (.int x1), o2, some v3, o4] st H Q :=
  zw_aload_n (i := 3) dAb_charAt_42 rfl rfl hr3 <| zw_iload_n (i := 1) dAb_charAt_43 rfl rfl <| zw_callS [v3, (.int x1)] _ dAb_charAt_44 hd zk_Ab_148 rfl rfl hl hc (zPi_k kk)
theorem sAb_charAt_47 {G : zG} {d : Nat} {Q : Option Value → Heap → Prop} {H : Heap} {o0 : Option Value} {o1 : Option Value} {o2 : Option Value} {o3 : Option Value} {o4 : Option Value} {xs0 : Int32} (hn : narrow .char (.int xs0) = .int xs0) (hq : Q (some (.int xs0)) H) : zW G d M_Ab_charAt 47 [o0, o1, o2, o3, o4] ((.int xs0) :: []) H Q :=
  zw_iret dAb_charAt_47 .char rfl hn hq
theorem sSb_toString_0 {G : zG} {d : Nat} {Q : Option Value → Heap → Prop} {H : Heap} {st : List Value} {o0 : Option Value} (hc1 : H.size + 1 ≤ zCp G) (hs1 : zT H + 4 ≤ zSp G) (kk : ∀ H1 : Heap, zObj G H1 H.size 8 [.null, .int 0, .int 0, .int 0] → zNw 4 H H1 → zW G d M_Sb_toString 3 [o0] ((.ref H.size) :: st) H1 Q) : zW G d M_Sb_toString 0 [o0] st H Q :=
  zw_new dSb_toString_0 zn_Sb_toString_18 hc1 hs1 kk
theorem sSb_toString_3 {G : zG} {d : Nat} {Q : Option Value → Heap → Prop} {H : Heap} {st : List Value} {as0 : Nat} {v0 : Value} {P : Heap → Prop} (hr0 : zRf v0 := by first | exact zRf_ref | exact zRf_null | exact zRf_rf _ | assumption) (hd : 1 ≤ d) (hl : ((.ref as0) :: st).length ≤ 4) (hc : zC G (d - 1) M_St_init_0 [(.ref as0), v0] H (zPv P)) (kk : ∀ H1 : Heap, P H1 → zOk G H1 → H.size ≤ H1.size → zT H ≤ zT H1 → zW G d M_Sb_toString 8 [some v0] ((.ref as0) :: st) H1 Q) : zW G d M_Sb_toString 3 [some v0] ((.ref as0) :: st) H Q :=
  zw_dup dSb_toString_3 rfl <| zw_aload_n (i := 0) dSb_toString_4 rfl rfl hr0 <| zw_callI [v0] _ dSb_toString_5 hd zk_Sb_137 rfl rfl hl hc (zPv_k kk)
theorem sSb_toString_8 {G : zG} {d : Nat} {Q : Option Value → Heap → Prop} {H : Heap} {o0 : Option Value} {vs0 : Value} (hrs0 : zRf vs0 := by first | exact zRf_ref | exact zRf_null | exact zRf_rf _ | assumption) (hq : Q (some vs0) H) : zW G d M_Sb_toString 8 [o0] (vs0 :: []) H Q :=
  zw_aret dSb_toString_8 (.object "java/lang/String") rfl (Or.inl ⟨_, rfl⟩) hrs0 hq
theorem sAb_getValue_0 {G : zG} {d : Nat} {Q : Option Value → Heap → Prop} {H : Heap} {a0 : Nat} {vf1 : Value} (hrf1 : zRf vf1 := by first | exact zRf_ref | exact zRf_null | exact zRf_rf _ | assumption) (hf1 : zFd G H a0 1 0 vf1) (hq : Q (some vf1) H) : zW G d M_Ab_getValue 0 [some (.ref a0)] [] H Q :=
  zw_aload_n (i := 0) dAb_getValue_0 rfl rfl zRf_ref <| zw_getf dAb_getValue_1 zf_Ab_15 hf1 <| zw_aret dAb_getValue_4 (.array .byte) rfl (Or.inr ⟨_, rfl⟩) hrf1 hq
theorem sSb_append_1_0 {G : zG} {d : Nat} {Q : Option Value → Heap → Prop} {H : Heap} {st : List Value} {a0 : Nat} {v1 : Value} {P : Value → Heap → Prop} (hr1 : zRf v1 := by first | exact zRf_ref | exact zRf_null | exact zRf_rf _ | assumption) (hd : 1 ≤ d) (hl : st.length ≤ 4) (ho : zIs G H a0 1) (hc : zC G (d - 1) M_Ab_append_1 [(.ref a0), v1] H (zPr P)) (kk : ∀ (r : Value) (H1 : Heap), zRf r → P r H1 → zOk G H1 → H.size ≤ H1.size → zT H ≤ zT H1 → zW G d M_Sb_append_1 5 [some (.ref a0), some v1] (r :: st) H1 Q) : zW G d M_Sb_append_1 0 [some (.ref a0), some v1] st H Q :=
  zw_aload_n (i := 0) dSb_append_1_0 rfl rfl zRf_ref <| zw_aload_n (i := 1) dSb_append_1_1 rfl rfl hr1 <| zw_callSU [v1] _ dSb_append_1_2 hd zk_Sb_29 ho rfl rfl hl hc (zPr_k kk)
theorem sSb_append_1_5 {G : zG} {d : Nat} {Q : Option Value → Heap → Prop} {H : Heap} {o1 : Option Value} {ws0 : Value} {v0 : Value} (hcs0 : ws0.category = 1 := by first | rfl | exact zRf.cat (by assumption)) (hr0 : zRf v0 := by first | exact zRf_ref | exact zRf_null | exact zRf_rf _ | assumption) (hq : Q (some v0) H) : zW G d M_Sb_append_1 5 [some v0, o1] (ws0 :: []) H Q :=
  zw_pop dSb_append_1_5 hcs0 <| zw_aload_n (i := 0) dSb_append_1_6 rfl rfl hr0 <| zw_aret dSb_append_1_7 (.object "java/lang/StringBuilder") rfl (Or.inl ⟨_, rfl⟩) hr0 hq
theorem sAb_append_1_0 {G : zG} {d : Nat} {Q : Option Value → Heap → Prop} {H : Heap} {st : List Value} {o0 : Option Value} {o2 : Option Value} {v1 : Value} (hr1 : zRf v1 := by first | exact zRf_ref | exact zRf_null | exact zRf_rf _ | assumption) (kt : (∀ a : Nat, v1 = .ref a → zW G d M_Ab_append_1 9 [o0, some v1, o2] st H Q)) (kf : (v1 = .null) → zW G d M_Ab_append_1 4 [o0, some v1, o2] st H Q) : zW G d M_Ab_append_1 0 [o0, some v1, o2] st H Q :=
  zw_aload_n (i := 1) dAb_append_1_0 rfl rfl hr1 <| zw_ifnonnull 9 dAb_append_1_1 (by decide) hr1 kt kf
theorem sAb_append_1_4 {G : zG} {d : Nat} {Q : Option Value → Heap → Prop} {H : Heap} {st : List Value} {o1 : Option Value} {o2 : Option Value} {a0 : Nat} {P : Value → Heap → Prop} (hd : 1 ≤ d) (hl : st.length ≤ 4) (ho : zIs G H a0 1) (hc : zC G (d - 1) M_Ab_appendNull [(.ref a0)] H (zPr P)) (kk : ∀ (r : Value) (H1 : Heap), zRf r → P r H1 → zOk G H1 → H.size ≤ H1.size → zT H ≤ zT H1 → zW G d M_Ab_append_1 8 [some (.ref a0), o1, o2] (r :: st) H1 Q) : zW G d M_Ab_append_1 4 [some (.ref a0), o1, o2] st H Q :=
  zw_aload_n (i := 0) dAb_append_1_4 rfl rfl zRf_ref <| zw_callV [] _ dAb_append_1_5 hd zk_Ab_204 ho rfl rfl hl hc (zPr_k kk)
theorem sAb_append_1_8 {G : zG} {d : Nat} {Q : Option Value → Heap → Prop} {H : Heap} {o0 : Option Value} {o1 : Option Value} {o2 : Option Value} {vs0 : Value} (hrs0 : zRf vs0 := by first | exact zRf_ref | exact zRf_null | exact zRf_rf _ | assumption) (hq : Q (some vs0) H) : zW G d M_Ab_append_1 8 [o0, o1, o2] (vs0 :: []) H Q :=
  zw_aret dAb_append_1_8 (.object "java/lang/AbstractStringBuilder") rfl (Or.inl ⟨_, rfl⟩) hrs0 hq
theorem sAb_append_1_9 {G : zG} {d : Nat} {Q : Option Value → Heap → Prop} {H : Heap} {st : List Value} {o0 : Option Value} {o2 : Option Value} {a1 : Nat} {P : Int32 → Heap → Prop} (hd : 1 ≤ d) (hl : st.length ≤ 4) (ho : zIs G H a1 8) (hc : zC G (d - 1) M_St_length [(.ref a1)] H (zPi P)) (kk : ∀ (r : Int32) (H1 : Heap), P r H1 → zOk G H1 → H.size ≤ H1.size → zT H ≤ zT H1 → zW G d M_Ab_append_1 13 [o0, some (.ref a1), o2] ((.int r) :: st) H1 Q) : zW G d M_Ab_append_1 9 [o0, some (.ref a1), o2] st H Q :=
  zw_aload_n (i := 1) dAb_append_1_9 rfl rfl zRf_ref <| zw_callV [] _ dAb_append_1_10 hd zk_Ab_32 ho rfl rfl hl hc (zPi_k kk)
theorem sAb_append_1_13 {G : zG} {d : Nat} {Q : Option Value → Heap → Prop} {H : Heap} {st : List Value} {o1 : Option Value} {o2 : Option Value} {xs0 : Int32} {a0 : Nat} {xf1 : Int32} {P : Heap → Prop} (hf1 : zFd G H a0 1 3 (.int xf1)) (hd : 1 ≤ d) (hl : st.length ≤ 4) (ho : zIs G H a0 1) (hc : zC G (d - 1) M_Ab_ensureCapacityInternal [(.ref a0), (.int (xf1 + xs0))] H (zPv P)) (kk : ∀ H1 : Heap, P H1 → zOk G H1 → H.size ≤ H1.size → zT H ≤ zT H1 → zW G d M_Ab_append_1 24 [some (.ref a0), o1, some (.int xs0)] st H1 Q) : zW G d M_Ab_append_1 13 [some (.ref a0), o1, o2] ((.int xs0) :: st) H Q :=
  zw_istore_n (i := 2) dAb_append_1_13 rfl (Nat.le_of_ble_eq_true rfl) <| zw_aload_n (i := 0) dAb_append_1_14 rfl rfl zRf_ref <| zw_aload_n (i := 0) dAb_append_1_15 rfl rfl zRf_ref <| zw_getf dAb_append_1_16 zf_Ab_79 hf1 <| zw_iload_n (i := 2) dAb_append_1_19 rfl rfl <| zw_iadd dAb_append_1_20 <| zw_callV [(.int (xf1 + xs0))] _ dAb_append_1_21 hd zk_Ab_100 ho rfl rfl hl hc (zPv_k kk)
theorem sAb_append_1_24 {G : zG} {d : Nat} {Q : Option Value → Heap → Prop} {H : Heap} {st : List Value} {o2 : Option Value} {a0 : Nat} {xf1 : Int32} {v1 : Value} {P : Heap → Prop} (hr1 : zRf v1 := by first | exact zRf_ref | exact zRf_null | exact zRf_rf _ | assumption) (hf1 : zFd G H a0 1 3 (.int xf1)) (hd : 1 ≤ d) (hl : st.length ≤ 4) (ho : zIs G H a0 1) (hc : zC G (d - 1) M_Ab_putStringAt [(.ref a0), (.int xf1), v1] H (zPv P)) (kk : ∀ H1 : Heap, P H1 → zOk G H1 → H.size ≤ H1.size → zT H ≤ zT H1 → zW G d M_Ab_append_1 33 [some (.ref a0), some v1, o2] st H1 Q) : zW G d M_Ab_append_1 24 [some (.ref a0), some v1, o2] st H Q :=
  zw_aload_n (i := 0) dAb_append_1_24 rfl rfl zRf_ref <| zw_aload_n (i := 0) dAb_append_1_25 rfl rfl zRf_ref <| zw_getf dAb_append_1_26 zf_Ab_79 hf1 <| zw_aload_n (i := 1) dAb_append_1_29 rfl rfl hr1 <| zw_callV [(.int xf1), v1] _ dAb_append_1_30 hd zk_Ab_208 ho rfl rfl hl hc (zPv_k kk)
theorem sAb_append_1_33 {G : zG} {d : Nat} {Q : Option Value → Heap → Prop} {H : Heap} {st : List Value} {o1 : Option Value} {a0 : Nat} {xf1 : Int32} {x2 : Int32} {b0 : Value} {b1 : Value} {b2 : Value} {b3 : Value} (hf1 : zFd G H a0 1 3 (.int xf1)) (ho : zObj G H a0 1 [b0, b1, b2, b3]) (hw : zFr G a0) (kk : ∀ H1 : Heap, zObj G H1 a0 1 [b0, b1, b2, (.int (xf1 + x2))] → zUp a0 H H1 → zW G d M_Ab_append_1 43 [some (.ref a0), o1, some (.int x2)] st H1 Q) : zW G d M_Ab_append_1 33 [some (.ref a0), o1, some (.int x2)] st H Q :=
  zw_aload_n (i := 0) dAb_append_1_33 rfl rfl zRf_ref <| zw_dup dAb_append_1_34 rfl <| zw_getf dAb_append_1_35 zf_Ab_79 hf1 <| zw_iload_n (i := 2) dAb_append_1_38 rfl rfl <| zw_iadd dAb_append_1_39 <| zw_putf (k := 3) dAb_append_1_40 zp_Ab_append_1_79 ho (Nat.le_of_ble_eq_true rfl) (Nat.le_of_ble_eq_true rfl) hw rfl rfl kk
theorem sAb_append_1_43 {G : zG} {d : Nat} {Q : Option Value → Heap → Prop} {H : Heap} {o1 : Option Value} {o2 : Option Value} {v0 : Value} (hr0 : zRf v0 := by first | exact zRf_ref | exact zRf_null | exact zRf_rf _ | assumption) (hq : Q (some v0) H) : zW G d M_Ab_append_1 43 [some v0, o1, o2] [] H Q :=
  zw_aload_n (i := 0) dAb_append_1_43 rfl rfl hr0 <| zw_aret dAb_append_1_44 (.object "java/lang/AbstractStringBuilder") rfl (Or.inl ⟨_, rfl⟩) hr0 hq
theorem sAb_appendNull_0 {G : zG} {d : Nat} {Q : Option Value → Heap → Prop} {H : Heap} {st : List Value} {o1 : Option Value} {o2 : Option Value} {a0 : Nat} {xf1 : Int32} {P : Heap → Prop} (hf1 : zFd G H a0 1 3 (.int xf1)) (hd : 1 ≤ d) (hl : st.length ≤ 4) (ho : zIs G H a0 1) (hc : zC G (d - 1) M_Ab_ensureCapacityInternal [(.ref a0), (.int (xf1 + (4 : Int32)))] H (zPv P)) (kk : ∀ H1 : Heap, P H1 → zOk G H1 → H.size ≤ H1.size → zT H ≤ zT H1 → zW G d M_Ab_appendNull 10 [some (.ref a0), o1, o2] st H1 Q) : zW G d M_Ab_appendNull 0 [some (.ref a0), o1, o2] st H Q :=
  zw_aload_n (i := 0) dAb_appendNull_0 rfl rfl zRf_ref <| zw_aload_n (i := 0) dAb_appendNull_1 rfl rfl zRf_ref <| zw_getf dAb_appendNull_2 zf_Ab_79 hf1 <| zw_iconst (4 : Int32) dAb_appendNull_5 zki_4 <| zw_iadd dAb_appendNull_6 <| zw_callV [(.int (xf1 + (4 : Int32)))] _ dAb_appendNull_7 hd zk_Ab_100 ho rfl rfl hl hc (zPv_k kk)
theorem sAb_appendNull_10 {G : zG} {d : Nat} {Q : Option Value → Heap → Prop} {H : Heap} {st : List Value} {o1 : Option Value} {o2 : Option Value} {a0 : Nat} {xf1 : Int32} {vf2 : Value} {P : Int32 → Heap → Prop} (hrf2 : zRf vf2 := by first | exact zRf_ref | exact zRf_null | exact zRf_rf _ | assumption) (hf1 : zFd G H a0 1 3 (.int xf1)) (hf2 : zFd G H a0 1 0 vf2) (hd : 1 ≤ d) (hl : st.length ≤ 4) (ho : zIs G H a0 1) (hc : zC G (d - 1) M_Ab_isLatin1 [(.ref a0)] H (zPi P)) (kk : ∀ (r : Int32) (H1 : Heap), P r H1 → zOk G H1 → H.size ≤ H1.size → zT H ≤ zT H1 → zW G d M_Ab_appendNull 24 [some (.ref a0), some (.int xf1), some vf2] ((.int r) :: st) H1 Q) : zW G d M_Ab_appendNull 10 [some (.ref a0), o1, o2] st H Q :=
  zw_aload_n (i := 0) dAb_appendNull_10 rfl rfl zRf_ref <| zw_getf dAb_appendNull_11 zf_Ab_79 hf1 <| zw_istore_n (i := 1) dAb_appendNull_14 rfl (Nat.le_of_ble_eq_true rfl) <| zw_aload_n (i := 0) dAb_appendNull_15 rfl rfl zRf_ref <| zw_getf dAb_appendNull_16 zf_Ab_15 hf2 <| zw_astore_n (i := 2) dAb_appendNull_19 rfl (Nat.le_of_ble_eq_true rfl) hrf2 <| zw_aload_n (i := 0) dAb_appendNull_20 rfl rfl zRf_ref <| zw_callV [] _ dAb_appendNull_21 hd zk_Ab_83 ho rfl rfl hl hc (zPi_k kk)
theorem sAb_appendNull_24 {G : zG} {d : Nat} {Q : Option Value → Heap → Prop} {H : Heap} {st : List Value} {o0 : Option Value} {o1 : Option Value} {o2 : Option Value} {xs0 : Int32} (kt : (xs0 = 0) → zW G d M_Ab_appendNull 62 [o0, o1, o2] st H Q) (kf : (¬ xs0 = 0) → zW G d M_Ab_appendNull 27 [o0, o1, o2] st H Q) : zW G d M_Ab_appendNull 24 [o0, o1, o2] ((.int xs0) :: st) H Q :=
  zw_if_eq 62 dAb_appendNull_24 (by decide) kt kf
theorem sAb_appendNull_27 {G : zG} {d : Nat} {Q : Option Value → Heap → Prop} {H : Heap} {st : List Value} {o0 : Option Value} {a2 : Nat} {x1 : Int32} {n : Nat} {g : Nat → Value} (ha : zArr G H a2 .byte n g) (hi : vp_in x1 n) (hw : zFr G a2) (kk : ∀ H1 : Heap, zArr G H1 a2 .byte n (updV g (x1).toNatClampNeg (.int ((110 : Int32)).toInt8.toInt32)) → zUp a2 H H1 → zW G d M_Ab_appendNull 35 [o0, some (.int (x1 + (1 : Int32))), some (.ref a2)] st H1 Q) : zW G d M_Ab_appendNull 27 [o0, some (.int x1), some (.ref a2)] st H Q :=
  zw_aload_n (i := 2) dAb_appendNull_27 rfl rfl zRf_ref <| zw_iload_n (i := 1) dAb_appendNull_28 rfl rfl <| zw_iinc (i := 1) (x1 + (1 : Int32)) dAb_appendNull_29 rfl (by rw [zki_1]) <| zw_bipush (110 : Int32) dAb_appendNull_32 zkb_110 <| zw_bast dAb_appendNull_34 ha hi hw kk
theorem sAb_appendNull_35 {G : zG} {d : Nat} {Q : Option Value → Heap → Prop} {H : Heap} {st : List Value} {o0 : Option Value} {a2 : Nat} {x1 : Int32} {n : Nat} {g : Nat → Value} (ha : zArr G H a2 .byte n g) (hi : vp_in x1 n) (hw : zFr G a2) (kk : ∀ H1 : Heap, zArr G H1 a2 .byte n (updV g (x1).toNatClampNeg (.int ((117 : Int32)).toInt8.toInt32)) → zUp a2 H H1 → zW G d M_Ab_appendNull 43 [o0, some (.int (x1 + (1 : Int32))), some (.ref a2)] st H1 Q) : zW G d M_Ab_appendNull 35 [o0, some (.int x1), some (.ref a2)] st H Q :=
  zw_aload_n (i := 2) dAb_appendNull_35 rfl rfl zRf_ref <| zw_iload_n (i := 1) dAb_appendNull_36 rfl rfl <| zw_iinc (i := 1) (x1 + (1 : Int32)) dAb_appendNull_37 rfl (by rw [zki_1]) <| zw_bipush (117 : Int32) dAb_appendNull_40 zkb_117 <| zw_bast dAb_appendNull_42 ha hi hw kk
theorem sAb_appendNull_43 {G : zG} {d : Nat} {Q : Option Value → Heap → Prop} {H : Heap} {st : List Value} {o0 : Option Value} {a2 : Nat} {x1 : Int32} {n : Nat} {g : Nat → Value} (ha : zArr G H a2 .byte n g) (hi : vp_in x1 n) (hw : zFr G a2) (kk : ∀ H1 : Heap, zArr G H1 a2 .byte n (updV g (x1).toNatClampNeg (.int ((108 : Int32)).toInt8.toInt32)) → zUp a2 H H1 → zW G d M_Ab_appendNull 51 [o0, some (.int (x1 + (1 : Int32))), some (.ref a2)] st H1 Q) : zW G d M_Ab_appendNull 43 [o0, some (.int x1), some (.ref a2)] st H Q :=
  zw_aload_n (i := 2) dAb_appendNull_43 rfl rfl zRf_ref <| zw_iload_n (i := 1) dAb_appendNull_44 rfl rfl <| zw_iinc (i := 1) (x1 + (1 : Int32)) dAb_appendNull_45 rfl (by rw [zki_1]) <| zw_bipush (108 : Int32) dAb_appendNull_48 zkb_108 <| zw_bast dAb_appendNull_50 ha hi hw kk
theorem sAb_appendNull_51 {G : zG} {d : Nat} {Q : Option Value → Heap → Prop} {H : Heap} {st : List Value} {o0 : Option Value} {a2 : Nat} {x1 : Int32} {n : Nat} {g : Nat → Value} (ha : zArr G H a2 .byte n g) (hi : vp_in x1 n) (hw : zFr G a2) (kk : ∀ H1 : Heap, zArr G H1 a2 .byte n (updV g (x1).toNatClampNeg (.int ((108 : Int32)).toInt8.toInt32)) → zUp a2 H H1 → zW G d M_Ab_appendNull 59 [o0, some (.int (x1 + (1 : Int32))), some (.ref a2)] st H1 Q) : zW G d M_Ab_appendNull 51 [o0, some (.int x1), some (.ref a2)] st H Q :=
  zw_aload_n (i := 2) dAb_appendNull_51 rfl rfl zRf_ref <| zw_iload_n (i := 1) dAb_appendNull_52 rfl rfl <| zw_iinc (i := 1) (x1 + (1 : Int32)) dAb_appendNull_53 rfl (by rw [zki_1]) <| zw_bipush (108 : Int32) dAb_appendNull_56 zkb_108 <| zw_bast dAb_appendNull_58 ha hi hw kk
theorem sAb_appendNull_59 {G : zG} {d : Nat} {Q : Option Value → Heap → Prop} {H : Heap} {st : List Value} {o2 : Option Value} {a0 : Nat} {x1 : Int32} {b0 : Value} {b1 : Value} {b2 : Value} {b3 : Value} (ho : zObj G H a0 1 [b0, b1, b2, b3]) (hw : zFr G a0) (kk : ∀ H1 : Heap, zObj G H1 a0 1 [b0, b1, b2, (.int x1)] → zUp a0 H H1 → zW G d M_Ab_appendNull 81 [some (.ref a0), some (.int x1), o2] st H1 Q) : zW G d M_Ab_appendNull 59 [some (.ref a0), some (.int x1), o2] st H Q :=
  zw_goto 76 dAb_appendNull_59 (by decide) <| zw_aload_n (i := 0) dAb_appendNull_76 rfl rfl zRf_ref <| zw_iload_n (i := 1) dAb_appendNull_77 rfl rfl <| zw_putf (k := 3) dAb_appendNull_78 zp_Ab_appendNull_79 ho (Nat.le_of_ble_eq_true rfl) (Nat.le_of_ble_eq_true rfl) hw rfl rfl kk
theorem sAb_appendNull_62 {G : zG} {d : Nat} {Q : Option Value → Heap → Prop} {H : Heap} {st : List Value} {o0 : Option Value} {v2 : Value} {x1 : Int32} {P : Int32 → Heap → Prop} (hr2 : zRf v2 := by first | exact zRf_ref | exact zRf_null | exact zRf_rf _ | assumption) (hd : 1 ≤ d) (hl : st.length ≤ 4) (hc : zC G (d - 1) M_U16_putCharsAt [v2, (.int x1), (.int (110 : Int32)), (.int (117 : Int32)), (.int (108 : Int32)), (.int (108 : Int32))] H (zPi P)) (kk : ∀ (r : Int32) (H1 : Heap), P r H1 → zOk G H1 → H.size ≤ H1.size → zT H ≤ zT H1 → zW G d M_Ab_appendNull 75 [o0, some (.int x1), some v2] ((.int r) :: st) H1 Q) : zW G d M_Ab_appendNull 62 [o0, some (.int x1), some v2] st H Q :=
  zw_aload_n (i := 2) dAb_appendNull_62 rfl rfl hr2 <| zw_iload_n (i := 1) dAb_appendNull_63 rfl rfl <| zw_bipush (110 : Int32) dAb_appendNull_64 zkb_110 <| zw_bipush (117 : Int32) dAb_appendNull_66 zkb_117 <| zw_bipush (108 : Int32) dAb_appendNull_68 zkb_108 <| zw_bipush (108 : Int32) dAb_appendNull_70 zkb_108 <| zw_callS [v2, (.int x1), (.int (110 : Int32)), (.int (117 : Int32)), (.int (108 : Int32)), (.int (108 : Int32))] _ dAb_appendNull_72 hd zk_Ab_226 rfl rfl hl hc (zPi_k kk)
theorem sAb_appendNull_75 {G : zG} {d : Nat} {Q : Option Value → Heap → Prop} {H : Heap} {st : List Value} {o1 : Option Value} {o2 : Option Value} {xs0 : Int32} {a0 : Nat} {b0 : Value} {b1 : Value} {b2 : Value} {b3 : Value} (ho : zObj G H a0 1 [b0, b1, b2, b3]) (hw : zFr G a0) (kk : ∀ H1 : Heap, zObj G H1 a0 1 [b0, b1, b2, (.int xs0)] → zUp a0 H H1 → zW G d M_Ab_appendNull 81 [some (.ref a0), some (.int xs0), o2] st H1 Q) : zW G d M_Ab_appendNull 75 [some (.ref a0), o1, o2] ((.int xs0) :: st) H Q :=
  zw_istore_n (i := 1) dAb_appendNull_75 rfl (Nat.le_of_ble_eq_true rfl) <| zw_aload_n (i := 0) dAb_appendNull_76 rfl rfl zRf_ref <| zw_iload_n (i := 1) dAb_appendNull_77 rfl rfl <| zw_putf (k := 3) dAb_appendNull_78 zp_Ab_appendNull_79 ho (Nat.le_of_ble_eq_true rfl) (Nat.le_of_ble_eq_true rfl) hw rfl rfl kk
theorem sAb_appendNull_76 {G : zG} {d : Nat} {Q : Option Value → Heap → Prop} {H : Heap} {st : List Value} {o2 : Option Value} {a0 : Nat} {x1 : Int32} {b0 : Value} {b1 : Value} {b2 : Value} {b3 : Value} (ho : zObj G H a0 1 [b0, b1, b2, b3]) (hw : zFr G a0) (kk : ∀ H1 : Heap, zObj G H1 a0 1 [b0, b1, b2, (.int x1)] → zUp a0 H H1 → zW G d M_Ab_appendNull 81 [some (.ref a0), some (.int x1), o2] st H1 Q) : zW G d M_Ab_appendNull 76 [some (.ref a0), some (.int x1), o2] st H Q :=
  zw_aload_n (i := 0) dAb_appendNull_76 rfl rfl zRf_ref <| zw_iload_n (i := 1) dAb_appendNull_77 rfl rfl <| zw_putf (k := 3) dAb_appendNull_78 zp_Ab_appendNull_79 ho (Nat.le_of_ble_eq_true rfl) (Nat.le_of_ble_eq_true rfl) hw rfl rfl kk
theorem sAb_appendNull_81 {G : zG} {d : Nat} {Q : Option Value → Heap → Prop} {H : Heap} {o1 : Option Value} {o2 : Option Value} {v0 : Value} (hr0 : zRf v0 := by first | exact zRf_ref | exact zRf_null | exact zRf_rf _ | assumption) (hq : Q (some v0) H) : zW G d M_Ab_appendNull 81 [some v0, o1, o2] [] H Q :=
  zw_aload_n (i := 0) dAb_appendNull_81 rfl rfl hr0 <| zw_aret dAb_appendNull_82 (.object "java/lang/AbstractStringBuilder") rfl (Or.inl ⟨_, rfl⟩) hr0 hq
theorem sAb_putStringAt_0 {G : zG} {d : Nat} {Q : Option Value → Heap → Prop} {H : Heap} {st : List Value} {o1 : Option Value} {a0 : Nat} {v2 : Value} {P : Heap → Prop} (hr2 : zRf v2 := by first | exact zRf_ref | exact zRf_null | exact zRf_rf _ | assumption) (hd : 1 ≤ d) (hl : st.length ≤ 4) (ho : zIs G H a0 1) (hc : zC G (d - 1) M_Ab_inflateIfNeededFor [(.ref a0), v2] H (zPv P)) (kk : ∀ H1 : Heap, P H1 → zOk G H1 → H.size ≤ H1.size → zT H ≤ zT H1 → zW G d M_Ab_putStringAt 5 [some (.ref a0), o1, some v2] st H1 Q) : zW G d M_Ab_putStringAt 0 [some (.ref a0), o1, some v2] st H Q :=
  zw_aload_n (i := 0) dAb_putStringAt_0 rfl rfl zRf_ref <| zw_aload_n (i := 2) dAb_putStringAt_1 rfl rfl hr2 <| zw_callV [v2] _ dAb_putStringAt_2 hd zk_Ab_397 ho rfl rfl hl hc (zPv_k kk)
theorem sAb_putStringAt_5 {G : zG} {d : Nat} {Q : Option Value → Heap → Prop} {H : Heap} {st : List Value} {a2 : Nat} {a0 : Nat} {vf1 : Value} {x1 : Int32} {xf2 : Int32} {P : Heap → Prop} (hrf1 : zRf vf1 := by first | exact zRf_ref | exact zRf_null | exact zRf_rf _ | assumption) (hf1 : zFd G H a0 1 0 vf1) (hf2 : zFd G H a0 1 1 (.int xf2)) (hd : 1 ≤ d) (hl : st.length ≤ 4) (ho : zIs G H a2 8) (hc : zC G (d - 1) M_St_getBytes [(.ref a2), vf1, (.int x1), (.int xf2)] H (zPv P)) (kk : ∀ H1 : Heap, P H1 → zOk G H1 → H.size ≤ H1.size → zT H ≤ zT H1 → zW G d M_Ab_putStringAt 18 [some (.ref a0), some (.int x1), some (.ref a2)] st H1 Q) : zW G d M_Ab_putStringAt 5 [some (.ref a0), some (.int x1), some (.ref a2)] st H Q :=
  zw_aload_n (i := 2) dAb_putStringAt_5 rfl rfl zRf_ref <| zw_aload_n (i := 0) dAb_putStringAt_6 rfl rfl zRf_ref <| zw_getf dAb_putStringAt_7 zf_Ab_15 hf1 <| zw_iload_n (i := 1) dAb_putStringAt_10 rfl rfl <| zw_aload_n (i := 0) dAb_putStringAt_11 rfl rfl zRf_ref <| zw_getf dAb_putStringAt_12 zf_Ab_22 hf2 <| zw_callV [vf1, (.int x1), (.int xf2)] _ dAb_putStringAt_15 hd zk_Ab_399 ho rfl rfl hl hc (zPv_k kk)
theorem sAb_putStringAt_18 {G : zG} {d : Nat} {Q : Option Value → Heap → Prop} {H : Heap} {o0 : Option Value} {o1 : Option Value} {o2 : Option Value} (hq : Q none H) : zW G d M_Ab_putStringAt 18 [o0, o1, o2] [] H Q :=
  zw_vret dAb_putStringAt_18 rfl hq
theorem sAb_inflateIfNeededFor_0 {G : zG} {d : Nat} {Q : Option Value → Heap → Prop} {H : Heap} {st : List Value} {o0 : Option Value} {o1 : Option Value} (hz1 : va_Z "java/lang/String" "COMPACT_STRINGS" "Z" (.int 1) (zFr G) (zS G) (zS G).heap) (kt : ((1 : Int32) = 0) → zW G d M_Ab_inflateIfNeededFor 21 [o0, o1] st H Q) (kf : (¬ (1 : Int32) = 0) → zW G d M_Ab_inflateIfNeededFor 6 [o0, o1] st H Q) : zW G d M_Ab_inflateIfNeededFor 0 [o0, o1] st H Q :=
  zw_gets dAb_inflateIfNeededFor_0 hz1 (zt1 45 rfl) (Or.inl rfl) <| zw_if_eq 21 dAb_inflateIfNeededFor_3 (by decide) kt kf
theorem sAb_inflateIfNeededFor_6 {G : zG} {d : Nat} {Q : Option Value → Heap → Prop} {H : Heap} {st : List Value} {a0 : Nat} {xf1 : Int32} {a1 : Nat} {P : Int32 → Heap → Prop} (hf1 : zFd G H a0 1 1 (.int xf1)) (hd : 1 ≤ d) (hl : ((.int xf1) :: st).length ≤ 4) (ho : zIs G H a1 8) (hc : zC G (d - 1) M_St_coder [(.ref a1)] H (zPi P)) (kk : ∀ (r : Int32) (H1 : Heap), P r H1 → zOk G H1 → H.size ≤ H1.size → zT H ≤ zT H1 → zW G d M_Ab_inflateIfNeededFor 14 [some (.ref a0), some (.ref a1)] ((.int r) :: (.int xf1) :: st) H1 Q) : zW G d M_Ab_inflateIfNeededFor 6 [some (.ref a0), some (.ref a1)] st H Q :=
  zw_aload_n (i := 0) dAb_inflateIfNeededFor_6 rfl rfl zRf_ref <| zw_getf dAb_inflateIfNeededFor_7 zf_Ab_22 hf1 <| zw_aload_n (i := 1) dAb_inflateIfNeededFor_10 rfl rfl zRf_ref <| zw_callV [] _ dAb_inflateIfNeededFor_11 hd zk_Ab_40 ho rfl rfl hl hc (zPi_k kk)
theorem sAb_inflateIfNeededFor_14 {G : zG} {d : Nat} {Q : Option Value → Heap → Prop} {H : Heap} {st : List Value} {o0 : Option Value} {o1 : Option Value} {xs0 : Int32} {xs1 : Int32} (kt : (xs1 = xs0) → zW G d M_Ab_inflateIfNeededFor 21 [o0, o1] st H Q) (kf : (¬ xs1 = xs0) → zW G d M_Ab_inflateIfNeededFor 17 [o0, o1] st H Q) : zW G d M_Ab_inflateIfNeededFor 14 [o0, o1] ((.int xs0) :: (.int xs1) :: st) H Q :=
  zw_icmp_eq 21 dAb_inflateIfNeededFor_14 (by decide) kt kf
theorem sAb_inflateIfNeededFor_17 {G : zG} {d : Nat} {Q : Option Value → Heap → Prop} {H : Heap} {st : List Value} {o1 : Option Value} {a0 : Nat} {P : Heap → Prop} (hd : 1 ≤ d) (hl : st.length ≤ 4) (ho : zIs G H a0 1) (hc : zC G (d - 1) M_Ab_inflate [(.ref a0)] H (zPv P)) (kk : ∀ H1 : Heap, P H1 → zOk G H1 → H.size ≤ H1.size → zT H ≤ zT H1 → zW G d M_Ab_inflateIfNeededFor 21 [some (.ref a0), o1] st H1 Q) : zW G d M_Ab_inflateIfNeededFor 17 [some (.ref a0), o1] st H Q :=
  zw_aload_n (i := 0) dAb_inflateIfNeededFor_17 rfl rfl zRf_ref <| zw_callV [] _ dAb_inflateIfNeededFor_18 hd zk_Ab_195 ho rfl rfl hl hc (zPv_k kk)
theorem sAb_inflateIfNeededFor_21 {G : zG} {d : Nat} {Q : Option Value → Heap → Prop} {H : Heap} {o0 : Option Value} {o1 : Option Value} (hq : Q none H) : zW G d M_Ab_inflateIfNeededFor 21 [o0, o1] [] H Q :=
  zw_vret dAb_inflateIfNeededFor_21 rfl hq

