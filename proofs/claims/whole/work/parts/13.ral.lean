theorem dAl_init_0 : decode prog_27_method_2_code 0 = .ok (.aload_n 0, 1) := by decide +kernel
theorem dAl_init_1 : decode prog_27_method_2_code 1 = .ok (.invokespecial 1, 3) := by decide +kernel
theorem dAl_init_4 : decode prog_27_method_2_code 4 = .ok (.aload_n 0, 1) := by decide +kernel
theorem dAl_init_5 : decode prog_27_method_2_code 5 = .ok (.getstatic 39, 3) := by decide +kernel
theorem dAl_init_8 : decode prog_27_method_2_code 8 = .ok (.putfield 9, 3) := by decide +kernel
theorem dAl_init_11 : decode prog_27_method_2_code 11 = .ok (.return_, 1) := by decide +kernel
theorem dAl_size_0 : decode prog_27_method_8_code 0 = .ok (.aload_n 0, 1) := by decide +kernel
theorem dAl_size_1 : decode prog_27_method_8_code 1 = .ok (.getfield 48, 3) := by decide +kernel
theorem dAl_size_4 : decode prog_27_method_8_code 4 = .ok (.ireturn, 1) := by decide +kernel
theorem dAl_get_0 : decode prog_27_method_20_code 0 = .ok (.iload_n 1, 1) := by decide +kernel
theorem dAl_get_1 : decode prog_27_method_20_code 1 = .ok (.aload_n 0, 1) := by decide +kernel
theorem dAl_get_2 : decode prog_27_method_20_code 2 = .ok (.getfield 48, 3) := by decide +kernel
theorem dAl_get_5 : decode prog_27_method_20_code 5 = .ok (.invokestatic 118, 3) := by decide +kernel
theorem dAl_get_8 : decode prog_27_method_20_code 8 = .ok (.pop, 1) := by decide +kernel
theorem dAl_get_9 : decode prog_27_method_20_code 9 = .ok (.aload_n 0, 1) := by decide +kernel
theorem dAl_get_10 : decode prog_27_method_20_code 10 = .ok (.iload_n 1, 1) := by decide +kernel
theorem dAl_get_11 : decode prog_27_method_20_code 11 = .ok (.invokevirtual 123, 3) := by decide +kernel
theorem dAl_get_14 : decode prog_27_method_20_code 14 = .ok (.areturn, 1) := by decide +kernel
theorem dAl_elementData_0 : decode prog_27_method_18_code 0 = .ok (.aload_n 0, 1) := by decide +kernel
theorem dAl_elementData_1 : decode prog_27_method_18_code 1 = .ok (.getfield 9, 3) := by decide +kernel
theorem dAl_elementData_4 : decode prog_27_method_18_code 4 = .ok (.iload_n 1, 1) := by decide +kernel
theorem dAl_elementData_5 : decode prog_27_method_18_code 5 = .ok (.aaload, 1) := by decide +kernel
theorem dAl_elementData_6 : decode prog_27_method_18_code 6 = .ok (.areturn, 1) := by decide +kernel
theorem dAl_set_0 : decode prog_27_method_23_code 0 = .ok (.iload_n 1, 1) := by decide +kernel
theorem dAl_set_1 : decode prog_27_method_23_code 1 = .ok (.aload_n 0, 1) := by decide +kernel
theorem dAl_set_2 : decode prog_27_method_23_code 2 = .ok (.getfield 48, 3) := by decide +kernel
theorem dAl_set_5 : decode prog_27_method_23_code 5 = .ok (.invokestatic 118, 3) := by decide +kernel
theorem dAl_set_8 : decode prog_27_method_23_code 8 = .ok (.pop, 1) := by decide +kernel
theorem dAl_set_9 : decode prog_27_method_23_code 9 = .ok (.aload_n 0, 1) := by decide +kernel
theorem dAl_set_10 : decode prog_27_method_23_code 10 = .ok (.iload_n 1, 1) := by decide +kernel
theorem dAl_set_11 : decode prog_27_method_23_code 11 = .ok (.invokevirtual 123, 3) := by decide +kernel
theorem dAl_set_14 : decode prog_27_method_23_code 14 = .ok (.astore_n 3, 1) := by decide +kernel
theorem dAl_set_15 : decode prog_27_method_23_code 15 = .ok (.aload_n 0, 1) := by decide +kernel
theorem dAl_set_16 : decode prog_27_method_23_code 16 = .ok (.getfield 9, 3) := by decide +kernel
theorem dAl_set_19 : decode prog_27_method_23_code 19 = .ok (.iload_n 1, 1) := by decide +kernel
theorem dAl_set_20 : decode prog_27_method_23_code 20 = .ok (.aload_n 2, 1) := by decide +kernel
theorem dAl_set_21 : decode prog_27_method_23_code 21 = .ok (.aastore, 1) := by decide +kernel
theorem dAl_set_22 : decode prog_27_method_23_code 22 = .ok (.aload_n 3, 1) := by decide +kernel
theorem dAl_set_23 : decode prog_27_method_23_code 23 = .ok (.areturn, 1) := by decide +kernel
theorem dAl_add_0_0 : decode prog_27_method_25_code 0 = .ok (.aload_n 0, 1) := by decide +kernel
theorem dAl_add_0_1 : decode prog_27_method_25_code 1 = .ok (.dup, 1) := by decide +kernel
theorem dAl_add_0_2 : decode prog_27_method_25_code 2 = .ok (.getfield 63, 3) := by decide +kernel
theorem dAl_add_0_5 : decode prog_27_method_25_code 5 = .ok (.iconst 1, 1) := by decide +kernel
theorem dAl_add_0_6 : decode prog_27_method_25_code 6 = .ok (.iadd, 1) := by decide +kernel
theorem dAl_add_0_7 : decode prog_27_method_25_code 7 = .ok (.putfield 63, 3) := by decide +kernel
theorem dAl_add_0_10 : decode prog_27_method_25_code 10 = .ok (.aload_n 0, 1) := by decide +kernel
theorem dAl_add_0_11 : decode prog_27_method_25_code 11 = .ok (.aload_n 1, 1) := by decide +kernel
theorem dAl_add_0_12 : decode prog_27_method_25_code 12 = .ok (.aload_n 0, 1) := by decide +kernel
theorem dAl_add_0_13 : decode prog_27_method_25_code 13 = .ok (.getfield 9, 3) := by decide +kernel
theorem dAl_add_0_16 : decode prog_27_method_25_code 16 = .ok (.aload_n 0, 1) := by decide +kernel
theorem dAl_add_0_17 : decode prog_27_method_25_code 17 = .ok (.getfield 48, 3) := by decide +kernel
theorem dAl_add_0_20 : decode prog_27_method_25_code 20 = .ok (.invokevirtual 131, 3) := by decide +kernel
theorem dAl_add_0_23 : decode prog_27_method_25_code 23 = .ok (.iconst 1, 1) := by decide +kernel
theorem dAl_add_0_24 : decode prog_27_method_25_code 24 = .ok (.ireturn, 1) := by decide +kernel
theorem dAl_add_1_0 : decode prog_27_method_24_code 0 = .ok (.iload_n 3, 1) := by decide +kernel
theorem dAl_add_1_1 : decode prog_27_method_24_code 1 = .ok (.aload_n 2, 1) := by decide +kernel
theorem dAl_add_1_2 : decode prog_27_method_24_code 2 = .ok (.arraylength, 1) := by decide +kernel
theorem dAl_add_1_3 : decode prog_27_method_24_code 3 = .ok (.if_icmp .ne 8, 3) := by decide +kernel
theorem dAl_add_1_6 : decode prog_27_method_24_code 6 = .ok (.aload_n 0, 1) := by decide +kernel
theorem dAl_add_1_7 : decode prog_27_method_24_code 7 = .ok (.invokevirtual 129, 3) := by decide +kernel
theorem dAl_add_1_10 : decode prog_27_method_24_code 10 = .ok (.astore_n 2, 1) := by decide +kernel
theorem dAl_add_1_11 : decode prog_27_method_24_code 11 = .ok (.aload_n 2, 1) := by decide +kernel
theorem dAl_add_1_12 : decode prog_27_method_24_code 12 = .ok (.iload_n 3, 1) := by decide +kernel
theorem dAl_add_1_13 : decode prog_27_method_24_code 13 = .ok (.aload_n 1, 1) := by decide +kernel
theorem dAl_add_1_14 : decode prog_27_method_24_code 14 = .ok (.aastore, 1) := by decide +kernel
theorem dAl_add_1_15 : decode prog_27_method_24_code 15 = .ok (.aload_n 0, 1) := by decide +kernel
theorem dAl_add_1_16 : decode prog_27_method_24_code 16 = .ok (.iload_n 3, 1) := by decide +kernel
theorem dAl_add_1_17 : decode prog_27_method_24_code 17 = .ok (.iconst 1, 1) := by decide +kernel
theorem dAl_add_1_18 : decode prog_27_method_24_code 18 = .ok (.iadd, 1) := by decide +kernel
theorem dAl_add_1_19 : decode prog_27_method_24_code 19 = .ok (.putfield 48, 3) := by decide +kernel
theorem dAl_add_1_22 : decode prog_27_method_24_code 22 = .ok (.return_, 1) := by decide +kernel
theorem dAl_grow_0_0 : decode prog_27_method_7_code 0 = .ok (.aload_n 0, 1) := by decide +kernel
theorem dAl_grow_0_1 : decode prog_27_method_7_code 1 = .ok (.aload_n 0, 1) := by decide +kernel
theorem dAl_grow_0_2 : decode prog_27_method_7_code 2 = .ok (.getfield 48, 3) := by decide +kernel
theorem dAl_grow_0_5 : decode prog_27_method_7_code 5 = .ok (.iconst 1, 1) := by decide +kernel
theorem dAl_grow_0_6 : decode prog_27_method_7_code 6 = .ok (.iadd, 1) := by decide +kernel
theorem dAl_grow_0_7 : decode prog_27_method_7_code 7 = .ok (.invokevirtual 69, 3) := by decide +kernel
theorem dAl_grow_0_10 : decode prog_27_method_7_code 10 = .ok (.areturn, 1) := by decide +kernel
theorem dAl_grow_1_0 : decode prog_27_method_6_code 0 = .ok (.aload_n 0, 1) := by decide +kernel
theorem dAl_grow_1_1 : decode prog_27_method_6_code 1 = .ok (.getfield 9, 3) := by decide +kernel
theorem dAl_grow_1_4 : decode prog_27_method_6_code 4 = .ok (.arraylength, 1) := by decide +kernel
theorem dAl_grow_1_5 : decode prog_27_method_6_code 5 = .ok (.istore_n 2, 1) := by decide +kernel
theorem dAl_grow_1_6 : decode prog_27_method_6_code 6 = .ok (.iload_n 2, 1) := by decide +kernel
theorem dAl_grow_1_7 : decode prog_27_method_6_code 7 = .ok (.ifCond .gt 13, 3) := by decide +kernel
theorem dAl_grow_1_10 : decode prog_27_method_6_code 10 = .ok (.aload_n 0, 1) := by decide +kernel
theorem dAl_grow_1_11 : decode prog_27_method_6_code 11 = .ok (.getfield 9, 3) := by decide +kernel
theorem dAl_grow_1_14 : decode prog_27_method_6_code 14 = .ok (.getstatic 39, 3) := by decide +kernel
theorem dAl_grow_1_17 : decode prog_27_method_6_code 17 = .ok (.if_acmp .eq 28, 3) := by decide +kernel
theorem dAl_grow_1_20 : decode prog_27_method_6_code 20 = .ok (.iload_n 2, 1) := by decide +kernel
theorem dAl_grow_1_21 : decode prog_27_method_6_code 21 = .ok (.iload_n 1, 1) := by decide +kernel
theorem dAl_grow_1_22 : decode prog_27_method_6_code 22 = .ok (.iload_n 2, 1) := by decide +kernel
theorem dAl_grow_1_23 : decode prog_27_method_6_code 23 = .ok (.isub, 1) := by decide +kernel
theorem dAl_grow_1_24 : decode prog_27_method_6_code 24 = .ok (.iload_n 2, 1) := by decide +kernel
theorem dAl_grow_1_25 : decode prog_27_method_6_code 25 = .ok (.iconst 1, 1) := by decide +kernel
theorem dAl_grow_1_26 : decode prog_27_method_6_code 26 = .ok (.ishr, 1) := by decide +kernel
theorem dAl_grow_1_27 : decode prog_27_method_6_code 27 = .ok (.invokestatic 73, 3) := by decide +kernel
theorem dAl_grow_1_30 : decode prog_27_method_6_code 30 = .ok (.istore_n 3, 1) := by decide +kernel
theorem dAl_grow_1_31 : decode prog_27_method_6_code 31 = .ok (.aload_n 0, 1) := by decide +kernel
theorem dAl_grow_1_32 : decode prog_27_method_6_code 32 = .ok (.aload_n 0, 1) := by decide +kernel
theorem dAl_grow_1_33 : decode prog_27_method_6_code 33 = .ok (.getfield 9, 3) := by decide +kernel
theorem dAl_grow_1_36 : decode prog_27_method_6_code 36 = .ok (.iload_n 3, 1) := by decide +kernel
theorem dAl_grow_1_37 : decode prog_27_method_6_code 37 = .ok (.invokestatic 66, 3) := by decide +kernel
theorem dAl_grow_1_40 : decode prog_27_method_6_code 40 = .ok (.dup_x1, 1) := by decide +kernel
theorem dAl_grow_1_41 : decode prog_27_method_6_code 41 = .ok (.putfield 9, 3) := by decide +kernel
theorem dAl_grow_1_44 : decode prog_27_method_6_code 44 = .ok (.areturn, 1) := by decide +kernel
theorem dAl_grow_1_45 : decode prog_27_method_6_code 45 = .ok (.aload_n 0, 1) := by decide +kernel
theorem dAl_grow_1_46 : decode prog_27_method_6_code 46 = .ok (.bipush 10, 2) := by decide +kernel
theorem dAl_grow_1_48 : decode prog_27_method_6_code 48 = .ok (.iload_n 1, 1) := by decide +kernel
theorem dAl_grow_1_49 : decode prog_27_method_6_code 49 = .ok (.invokestatic 79, 3) := by decide +kernel
theorem dAl_grow_1_52 : decode prog_27_method_6_code 52 = .ok (.anewarray 7, 3) := by decide +kernel
theorem dAl_grow_1_55 : decode prog_27_method_6_code 55 = .ok (.dup_x1, 1) := by decide +kernel
theorem dAl_grow_1_56 : decode prog_27_method_6_code 56 = .ok (.putfield 9, 3) := by decide +kernel
theorem dAl_grow_1_59 : decode prog_27_method_6_code 59 = .ok (.areturn, 1) := by decide +kernel
theorem dAl_remove_0 : decode prog_27_method_29_code 0 = .ok (.iload_n 1, 1) := by decide +kernel
theorem dAl_remove_1 : decode prog_27_method_29_code 1 = .ok (.aload_n 0, 1) := by decide +kernel
theorem dAl_remove_2 : decode prog_27_method_29_code 2 = .ok (.getfield 48, 3) := by decide +kernel
theorem dAl_remove_5 : decode prog_27_method_29_code 5 = .ok (.invokestatic 118, 3) := by decide +kernel
theorem dAl_remove_8 : decode prog_27_method_29_code 8 = .ok (.pop, 1) := by decide +kernel
theorem dAl_remove_9 : decode prog_27_method_29_code 9 = .ok (.aload_n 0, 1) := by decide +kernel
theorem dAl_remove_10 : decode prog_27_method_29_code 10 = .ok (.getfield 9, 3) := by decide +kernel
theorem dAl_remove_13 : decode prog_27_method_29_code 13 = .ok (.astore_n 2, 1) := by decide +kernel
theorem dAl_remove_14 : decode prog_27_method_29_code 14 = .ok (.aload_n 2, 1) := by decide +kernel
theorem dAl_remove_15 : decode prog_27_method_29_code 15 = .ok (.iload_n 1, 1) := by decide +kernel
theorem dAl_remove_16 : decode prog_27_method_29_code 16 = .ok (.aaload, 1) := by decide +kernel
theorem dAl_remove_17 : decode prog_27_method_29_code 17 = .ok (.astore_n 3, 1) := by decide +kernel
theorem dAl_remove_18 : decode prog_27_method_29_code 18 = .ok (.aload_n 0, 1) := by decide +kernel
theorem dAl_remove_19 : decode prog_27_method_29_code 19 = .ok (.aload_n 2, 1) := by decide +kernel
theorem dAl_remove_20 : decode prog_27_method_29_code 20 = .ok (.iload_n 1, 1) := by decide +kernel
theorem dAl_remove_21 : decode prog_27_method_29_code 21 = .ok (.invokevirtual 144, 3) := by decide +kernel
theorem dAl_remove_24 : decode prog_27_method_29_code 24 = .ok (.aload_n 3, 1) := by decide +kernel
theorem dAl_remove_25 : decode prog_27_method_29_code 25 = .ok (.areturn, 1) := by decide +kernel
theorem dAl_fastRemove_0 : decode prog_27_method_39_code 0 = .ok (.aload_n 0, 1) := by decide +kernel
theorem dAl_fastRemove_1 : decode prog_27_method_39_code 1 = .ok (.dup, 1) := by decide +kernel
theorem dAl_fastRemove_2 : decode prog_27_method_39_code 2 = .ok (.getfield 63, 3) := by decide +kernel
theorem dAl_fastRemove_5 : decode prog_27_method_39_code 5 = .ok (.iconst 1, 1) := by decide +kernel
theorem dAl_fastRemove_6 : decode prog_27_method_39_code 6 = .ok (.iadd, 1) := by decide +kernel
theorem dAl_fastRemove_7 : decode prog_27_method_39_code 7 = .ok (.putfield 63, 3) := by decide +kernel
theorem dAl_fastRemove_10 : decode prog_27_method_39_code 10 = .ok (.aload_n 0, 1) := by decide +kernel
theorem dAl_fastRemove_11 : decode prog_27_method_39_code 11 = .ok (.getfield 48, 3) := by decide +kernel
theorem dAl_fastRemove_14 : decode prog_27_method_39_code 14 = .ok (.iconst 1, 1) := by decide +kernel
theorem dAl_fastRemove_15 : decode prog_27_method_39_code 15 = .ok (.isub, 1) := by decide +kernel
theorem dAl_fastRemove_16 : decode prog_27_method_39_code 16 = .ok (.dup, 1) := by decide +kernel
theorem dAl_fastRemove_17 : decode prog_27_method_39_code 17 = .ok (.istore_n 3, 1) := by decide +kernel
theorem dAl_fastRemove_18 : decode prog_27_method_39_code 18 = .ok (.iload_n 2, 1) := by decide +kernel
theorem dAl_fastRemove_19 : decode prog_27_method_39_code 19 = .ok (.if_icmp .le 15, 3) := by decide +kernel
theorem dAl_fastRemove_22 : decode prog_27_method_39_code 22 = .ok (.aload_n 1, 1) := by decide +kernel
theorem dAl_fastRemove_23 : decode prog_27_method_39_code 23 = .ok (.iload_n 2, 1) := by decide +kernel
theorem dAl_fastRemove_24 : decode prog_27_method_39_code 24 = .ok (.iconst 1, 1) := by decide +kernel
theorem dAl_fastRemove_25 : decode prog_27_method_39_code 25 = .ok (.iadd, 1) := by decide +kernel
theorem dAl_fastRemove_26 : decode prog_27_method_39_code 26 = .ok (.aload_n 1, 1) := by decide +kernel
theorem dAl_fastRemove_27 : decode prog_27_method_39_code 27 = .ok (.iload_n 2, 1) := by decide +kernel
theorem dAl_fastRemove_28 : decode prog_27_method_39_code 28 = .ok (.iload_n 3, 1) := by decide +kernel
theorem dAl_fastRemove_29 : decode prog_27_method_39_code 29 = .ok (.iload_n 2, 1) := by decide +kernel
theorem dAl_fastRemove_30 : decode prog_27_method_39_code 30 = .ok (.isub, 1) := by decide +kernel
theorem dAl_fastRemove_31 : decode prog_27_method_39_code 31 = .ok (.invokestatic 112, 3) := by decide +kernel
theorem dAl_fastRemove_34 : decode prog_27_method_39_code 34 = .ok (.aload_n 1, 1) := by decide +kernel
theorem dAl_fastRemove_35 : decode prog_27_method_39_code 35 = .ok (.aload_n 0, 1) := by decide +kernel
theorem dAl_fastRemove_36 : decode prog_27_method_39_code 36 = .ok (.iload_n 3, 1) := by decide +kernel
theorem dAl_fastRemove_37 : decode prog_27_method_39_code 37 = .ok (.dup_x1, 1) := by decide +kernel
theorem dAl_fastRemove_38 : decode prog_27_method_39_code 38 = .ok (.putfield 48, 3) := by decide +kernel
theorem dAl_fastRemove_41 : decode prog_27_method_39_code 41 = .ok (.aconst_null, 1) := by decide +kernel
theorem dAl_fastRemove_42 : decode prog_27_method_39_code 42 = .ok (.aastore, 1) := by decide +kernel
theorem dAl_fastRemove_43 : decode prog_27_method_39_code 43 = .ok (.return_, 1) := by decide +kernel
theorem zk_Al_1 : zLkI "java/util/ArrayList" 1 M_AL_init 0 := ⟨zc_AL_init, rfl, rfl, zt1 168 rfl, Or.inl (zt1 167 rfl)⟩
theorem zf_Al_9 : zFl "java/util/ArrayList" 9 5 0 := ⟨_, _, _, "java/util/ArrayList", rfl, Nat.le_of_ble_eq_true rfl, in_Al, Or.inl (zt1 176 rfl), Or.inl rfl⟩
theorem zp_Al_init_9 : zPf M_Al_init 9 5 0 (.array (.object "java/lang/Object")) := ⟨zf_Al_9, _, _, _, ty_Al, rfl, tyok_Al, nm_Al, rfl, Or.inl rfl⟩
theorem zf_Al_48 : zFl "java/util/ArrayList" 48 5 1 := ⟨_, _, _, "java/util/ArrayList", rfl, Nat.le_of_ble_eq_true rfl, in_Al, Or.inl (zt1 177 rfl), Or.inl rfl⟩
theorem zk_Al_118 : zLkS "java/util/ArrayList" 118 M_Ob_checkIndex 2 := ⟨zc_Ob_checkIndex, zt4 102 rfl, Or.inl (zt4 101 rfl)⟩
theorem zk_Al_123 : zLkV "java/util/ArrayList" 123 5 M_Al_elementData 1 := ⟨zc_Al_elementData, ⟨_, _, _, rfl, Or.inl (zt4 107 rfl)⟩, zt4 106 rfl, Or.inl (zt4 105 rfl)⟩
theorem zf_Al_63 : zFl "java/util/ArrayList" 63 5 2 := ⟨_, _, _, "java/util/ArrayList", rfl, Nat.le_of_ble_eq_true rfl, in_Al, Or.inl (zt1 179 rfl), Or.inr (zt1 180 rfl)⟩
theorem zp_Al_add_0_63 : zPf M_Al_add_0 63 5 2 .int := ⟨zf_Al_63, _, _, _, ty_Al, rfl, tyok_Al, nm_Al, rfl, Or.inl rfl⟩
theorem zk_Al_131 : zLkV "java/util/ArrayList" 131 5 M_Al_add_1 3 := ⟨zc_Al_add_1, ⟨_, _, _, rfl, Or.inl (zsel 10 rfl)⟩, zt4 124 rfl, Or.inl (zt4 122 rfl)⟩
theorem zk_Al_129 : zLkV "java/util/ArrayList" 129 5 M_Al_grow_0 0 := ⟨zc_Al_grow_0, ⟨_, _, _, rfl, Or.inl (zsel 11 rfl)⟩, zt4 128 rfl, Or.inl (zt4 126 rfl)⟩
theorem zp_Al_add_1_48 : zPf M_Al_add_1 48 5 1 .int := ⟨zf_Al_48, _, _, _, ty_Al, rfl, tyok_Al, nm_Al, rfl, Or.inl rfl⟩
theorem zk_Al_69 : zLkV "java/util/ArrayList" 69 5 M_Al_grow_1 1 := ⟨zc_Al_grow_1, ⟨_, _, _, rfl, Or.inl (zsel 12 rfl)⟩, zt4 132 rfl, Or.inl (zt4 130 rfl)⟩
theorem zk_Al_73 : zLkS "java/util/ArrayList" 73 M_AS_newLength 3 := ⟨zc_AS_newLength, zt2 55 rfl, Or.inl (zt4 134 rfl)⟩
theorem zk_Al_66 : zLkS "java/util/ArrayList" 66 M_Ar_copyOf_1 2 := ⟨zc_Ar_copyOf_1, zt4 136 rfl, Or.inl (zt4 135 rfl)⟩
theorem zp_Al_grow_1_9 : zPf M_Al_grow_1 9 5 0 (.array (.object "java/lang/Object")) := ⟨zf_Al_9, _, _, _, ty_Al, rfl, tyok_Al, nm_Al, rfl, Or.inl rfl⟩
theorem zk_Al_79 : zLkS "java/util/ArrayList" 79 M_Ma_max 2 := ⟨zc_Ma_max, zt2 58 rfl, Or.inl (zt4 162 rfl)⟩
theorem zk_Al_144 : zLkV "java/util/ArrayList" 144 5 M_Al_fastRemove 2 := ⟨zc_Al_fastRemove, ⟨_, _, _, rfl, Or.inl (zsel 17 rfl)⟩, zt5 14 rfl, Or.inl (zt5 12 rfl)⟩
theorem zp_Al_fastRemove_63 : zPf M_Al_fastRemove 63 5 2 .int := ⟨zf_Al_63, _, _, _, ty_Al, rfl, tyok_Al, nm_Al, rfl, Or.inl rfl⟩
theorem zp_Al_fastRemove_48 : zPf M_Al_fastRemove 48 5 1 .int := ⟨zf_Al_48, _, _, _, ty_Al, rfl, tyok_Al, nm_Al, rfl, Or.inl rfl⟩
theorem sAl_init_0 {G : zG} {d : Nat} {Q : Option Value → Heap → Prop} {H : Heap} {st : List Value} {a0 : Nat} {P : Heap → Prop} (hd : 1 ≤ d) (hl : st.length ≤ 4) (hc : zC G (d - 1) M_AL_init [(.ref a0)] H (zPv P)) (kk : ∀ H1 : Heap, P H1 → zOk G H1 → H.size ≤ H1.size → zT H ≤ zT H1 → zW G d M_Al_init 4 [some (.ref a0)] st H1 Q) : zW G d M_Al_init 0 [some (.ref a0)] st H Q :=
  zw_aload_n (i := 0) dAl_init_0 rfl rfl zRf_ref <| zw_callI [] _ dAl_init_1 hd zk_Al_1 rfl rfl hl hc (zPv_k kk)
theorem sAl_init_4 {G : zG} {d : Nat} {Q : Option Value → Heap → Prop} {H : Heap} {st : List Value} {a0 : Nat} {vf1 : Value} {b0 : Value} {b1 : Value} {b2 : Value} (hrf1 : zRf vf1 := by first | exact zRf_ref | exact zRf_null | exact zRf_rf _ | assumption) (hz1 : va_Z "java/util/ArrayList" "DEFAULTCAPACITY_EMPTY_ELEMENTDATA" "[Ljava/lang/Object;" vf1 (zFr G) (zS G) (zS G).heap) (ho : zObj G H a0 5 [b0, b1, b2]) (hw : zFr G a0) (kk : ∀ H1 : Heap, zObj G H1 a0 5 [vf1, b1, b2] → zUp a0 H H1 → zW G d M_Al_init 11 [some (.ref a0)] st H1 Q) : zW G d M_Al_init 4 [some (.ref a0)] st H Q :=
  zw_aload_n (i := 0) dAl_init_4 rfl rfl zRf_ref <| zw_gets dAl_init_5 hz1 (zt1 174 rfl) (Or.inl rfl) <| zw_putf (k := 0) dAl_init_8 zp_Al_init_9 ho (Nat.le_of_ble_eq_true rfl) (Nat.le_of_ble_eq_true rfl) hw (zNarA hrf1) (zFitA hrf1) kk
theorem sAl_init_11 {G : zG} {d : Nat} {Q : Option Value → Heap → Prop} {H : Heap} {o0 : Option Value} (hq : Q none H) : zW G d M_Al_init 11 [o0] [] H Q :=
  zw_vret dAl_init_11 rfl hq
theorem sAl_size_0 {G : zG} {d : Nat} {Q : Option Value → Heap → Prop} {H : Heap} {a0 : Nat} {xf1 : Int32} (hf1 : zFd G H a0 5 1 (.int xf1)) (hq : Q (some (.int xf1)) H) : zW G d M_Al_size 0 [some (.ref a0)] [] H Q :=
  zw_aload_n (i := 0) dAl_size_0 rfl rfl zRf_ref <| zw_getf dAl_size_1 zf_Al_48 hf1 <| zw_iret dAl_size_4 .int rfl rfl hq
theorem sAl_get_0 {G : zG} {d : Nat} {Q : Option Value → Heap → Prop} {H : Heap} {st : List Value} {x1 : Int32} {a0 : Nat} {xf1 : Int32} {P : Int32 → Heap → Prop} (hf1 : zFd G H a0 5 1 (.int xf1)) (hd : 1 ≤ d) (hl : st.length ≤ 4) (hc : zC G (d - 1) M_Ob_checkIndex [(.int x1), (.int xf1)] H (zPi P)) (kk : ∀ (r : Int32) (H1 : Heap), P r H1 → zOk G H1 → H.size ≤ H1.size → zT H ≤ zT H1 → zW G d M_Al_get 8 [some (.ref a0), some (.int x1)] ((.int r) :: st) H1 Q) : zW G d M_Al_get 0 [some (.ref a0), some (.int x1)] st H Q :=
  zw_iload_n (i := 1) dAl_get_0 rfl rfl <| zw_aload_n (i := 0) dAl_get_1 rfl rfl zRf_ref <| zw_getf dAl_get_2 zf_Al_48 hf1 <| zw_callS [(.int x1), (.int xf1)] _ dAl_get_5 hd zk_Al_118 rfl rfl hl hc (zPi_k kk)
theorem sAl_get_8 {G : zG} {d : Nat} {Q : Option Value → Heap → Prop} {H : Heap} {st : List Value} {ws0 : Value} {a0 : Nat} {x1 : Int32} {P : Value → Heap → Prop} (hcs0 : ws0.category = 1 := by first | rfl | exact zRf.cat (by assumption)) (hd : 1 ≤ d) (hl : st.length ≤ 4) (ho : zIs G H a0 5) (hc : zC G (d - 1) M_Al_elementData [(.ref a0), (.int x1)] H (zPr P)) (kk : ∀ (r : Value) (H1 : Heap), zRf r → P r H1 → zOk G H1 → H.size ≤ H1.size → zT H ≤ zT H1 → zW G d M_Al_get 14 [some (.ref a0), some (.int x1)] (r :: st) H1 Q) : zW G d M_Al_get 8 [some (.ref a0), some (.int x1)] (ws0 :: st) H Q :=
  zw_pop dAl_get_8 hcs0 <| zw_aload_n (i := 0) dAl_get_9 rfl rfl zRf_ref <| zw_iload_n (i := 1) dAl_get_10 rfl rfl <| zw_callV [(.int x1)] _ dAl_get_11 hd zk_Al_123 ho rfl rfl hl hc (zPr_k kk)
theorem sAl_get_14 {G : zG} {d : Nat} {Q : Option Value → Heap → Prop} {H : Heap} {o0 : Option Value} {o1 : Option Value} {vs0 : Value} (hrs0 : zRf vs0 := by first | exact zRf_ref | exact zRf_null | exact zRf_rf _ | assumption) (hq : Q (some vs0) H) : zW G d M_Al_get 14 [o0, o1] (vs0 :: []) H Q :=
  zw_aret dAl_get_14 (.object "java/lang/Object") rfl (Or.inl ⟨_, rfl⟩) hrs0 hq
theorem sAl_elementData_0 {G : zG} {d : Nat} {Q : Option Value → Heap → Prop} {H : Heap} {a0 : Nat} {af1 : Nat} {x1 : Int32} {ve2 : Value} {n2 : Nat} {g2 : Nat → Value} {t2 : FieldType} (hre2 : zRf ve2 := by first | exact zRf_ref | exact zRf_null | exact zRf_rf _ | assumption) (hf1 : zFd G H a0 5 0 (.ref af1)) (ht2 : t2.isReference = true) (ha2 : zArr G H af1 t2 n2 g2) (hi2 : vp_in x1 n2) (he2 : g2 (x1).toNatClampNeg = ve2) (hq : Q (some ve2) H) : zW G d M_Al_elementData 0 [some (.ref a0), some (.int x1)] [] H Q :=
  zw_aload_n (i := 0) dAl_elementData_0 rfl rfl zRf_ref <| zw_getf dAl_elementData_1 zf_Al_9 hf1 <| zw_iload_n (i := 1) dAl_elementData_4 rfl rfl <| zw_aaldV dAl_elementData_5 ht2 ha2 hi2 he2 <| zw_aret dAl_elementData_6 (.object "java/lang/Object") rfl (Or.inl ⟨_, rfl⟩) hre2 hq
theorem sAl_set_0 {G : zG} {d : Nat} {Q : Option Value → Heap → Prop} {H : Heap} {st : List Value} {o2 : Option Value} {o3 : Option Value} {x1 : Int32} {a0 : Nat} {xf1 : Int32} {P : Int32 → Heap → Prop} (hf1 : zFd G H a0 5 1 (.int xf1)) (hd : 1 ≤ d) (hl : st.length ≤ 4) (hc : zC G (d - 1) M_Ob_checkIndex [(.int x1), (.int xf1)] H (zPi P)) (kk : ∀ (r : Int32) (H1 : Heap), P r H1 → zOk G H1 → H.size ≤ H1.size → zT H ≤ zT H1 → zW G d M_Al_set 8 [some (.ref a0), some (.int x1), o2, o3] ((.int r) :: st) H1 Q) : zW G d M_Al_set 0 [some (.ref a0), some (.int x1), o2, o3] st H Q :=
  zw_iload_n (i := 1) dAl_set_0 rfl rfl <| zw_aload_n (i := 0) dAl_set_1 rfl rfl zRf_ref <| zw_getf dAl_set_2 zf_Al_48 hf1 <| zw_callS [(.int x1), (.int xf1)] _ dAl_set_5 hd zk_Al_118 rfl rfl hl hc (zPi_k kk)
theorem sAl_set_8 {G : zG} {d : Nat} {Q : Option Value → Heap → Prop} {H : Heap} {st : List Value} {o2 : Option Value} {o3 : Option Value} {ws0 : Value} {a0 : Nat} {x1 : Int32} {P : Value → Heap → Prop} (hcs0 : ws0.category = 1 := by first | rfl | exact zRf.cat (by assumption)) (hd : 1 ≤ d) (hl : st.length ≤ 4) (ho : zIs G H a0 5) (hc : zC G (d - 1) M_Al_elementData [(.ref a0), (.int x1)] H (zPr P)) (kk : ∀ (r : Value) (H1 : Heap), zRf r → P r H1 → zOk G H1 → H.size ≤ H1.size → zT H ≤ zT H1 → zW G d M_Al_set 14 [some (.ref a0), some (.int x1), o2, o3] (r :: st) H1 Q) : zW G d M_Al_set 8 [some (.ref a0), some (.int x1), o2, o3] (ws0 :: st) H Q :=
  zw_pop dAl_set_8 hcs0 <| zw_aload_n (i := 0) dAl_set_9 rfl rfl zRf_ref <| zw_iload_n (i := 1) dAl_set_10 rfl rfl <| zw_callV [(.int x1)] _ dAl_set_11 hd zk_Al_123 ho rfl rfl hl hc (zPr_k kk)
theorem sAl_set_14 {G : zG} {d : Nat} {Q : Option Value → Heap → Prop} {H : Heap} {st : List Value} {o3 : Option Value} {vs0 : Value} {a0 : Nat} {vf1 : Value} {x1 : Int32} {v2 : Value} (hrs0 : zRf vs0 := by first | exact zRf_ref | exact zRf_null | exact zRf_rf _ | assumption) (hrf1 : zRf vf1 := by first | exact zRf_ref | exact zRf_null | exact zRf_rf _ | assumption) (hr2 : zRf v2 := by first | exact zRf_ref | exact zRf_null | exact zRf_rf _ | assumption) (hf1 : zFd G H a0 5 0 vf1) (kk : zW G d M_Al_set 21 [some (.ref a0), some (.int x1), some v2, some vs0] (v2 :: (.int x1) :: vf1 :: st) H Q) : zW G d M_Al_set 14 [some (.ref a0), some (.int x1), some v2, o3] (vs0 :: st) H Q :=
  zw_astore_n (i := 3) dAl_set_14 rfl (Nat.le_of_ble_eq_true rfl) hrs0 <| zw_aload_n (i := 0) dAl_set_15 rfl rfl zRf_ref <| zw_getf dAl_set_16 zf_Al_9 hf1 <| zw_iload_n (i := 1) dAl_set_19 rfl rfl <| zw_aload_n (i := 2) dAl_set_20 rfl rfl hr2 <| kk
theorem sAl_set_22 {G : zG} {d : Nat} {Q : Option Value → Heap → Prop} {H : Heap} {o0 : Option Value} {o1 : Option Value} {o2 : Option Value} {v3 : Value} (hr3 : zRf v3 := by first | exact zRf_ref | exact zRf_null | exact zRf_rf _ | assumption) (hq : Q (some v3) H) : zW G d M_Al_set 22 [o0, o1, o2, some v3] [] H Q :=
  zw_aload_n (i := 3) dAl_set_22 rfl rfl hr3 <| zw_aret dAl_set_23 (.object "java/lang/Object") rfl (Or.inl ⟨_, rfl⟩) hr3 hq
theorem sAl_add_0_0 {G : zG} {d : Nat} {Q : Option Value → Heap → Prop} {H : Heap} {st : List Value} {o1 : Option Value} {a0 : Nat} {xf1 : Int32} {b0 : Value} {b1 : Value} {b2 : Value} (hf1 : zFd G H a0 5 2 (.int xf1)) (ho : zObj G H a0 5 [b0, b1, b2]) (hw : zFr G a0) (kk : ∀ H1 : Heap, zObj G H1 a0 5 [b0, b1, (.int (xf1 + (1 : Int32)))] → zUp a0 H H1 → zW G d M_Al_add_0 10 [some (.ref a0), o1] st H1 Q) : zW G d M_Al_add_0 0 [some (.ref a0), o1] st H Q :=
  zw_aload_n (i := 0) dAl_add_0_0 rfl rfl zRf_ref <| zw_dup dAl_add_0_1 rfl <| zw_getf dAl_add_0_2 zf_Al_63 hf1 <| zw_iconst (1 : Int32) dAl_add_0_5 zki_1 <| zw_iadd dAl_add_0_6 <| zw_putf (k := 2) dAl_add_0_7 zp_Al_add_0_63 ho (Nat.le_of_ble_eq_true rfl) (Nat.le_of_ble_eq_true rfl) hw rfl rfl kk
theorem sAl_add_0_10 {G : zG} {d : Nat} {Q : Option Value → Heap → Prop} {H : Heap} {st : List Value} {a0 : Nat} {v1 : Value} {vf1 : Value} {xf2 : Int32} {P : Heap → Prop} (hr1 : zRf v1 := by first | exact zRf_ref | exact zRf_null | exact zRf_rf _ | assumption) (hrf1 : zRf vf1 := by first | exact zRf_ref | exact zRf_null | exact zRf_rf _ | assumption) (hf1 : zFd G H a0 5 0 vf1) (hf2 : zFd G H a0 5 1 (.int xf2)) (hd : 1 ≤ d) (hl : st.length ≤ 4) (ho : zIs G H a0 5) (hc : zC G (d - 1) M_Al_add_1 [(.ref a0), v1, vf1, (.int xf2)] H (zPv P)) (kk : ∀ H1 : Heap, P H1 → zOk G H1 → H.size ≤ H1.size → zT H ≤ zT H1 → zW G d M_Al_add_0 23 [some (.ref a0), some v1] st H1 Q) : zW G d M_Al_add_0 10 [some (.ref a0), some v1] st H Q :=
  zw_aload_n (i := 0) dAl_add_0_10 rfl rfl zRf_ref <| zw_aload_n (i := 1) dAl_add_0_11 rfl rfl hr1 <| zw_aload_n (i := 0) dAl_add_0_12 rfl rfl zRf_ref <| zw_getf dAl_add_0_13 zf_Al_9 hf1 <| zw_aload_n (i := 0) dAl_add_0_16 rfl rfl zRf_ref <| zw_getf dAl_add_0_17 zf_Al_48 hf2 <| zw_callV [v1, vf1, (.int xf2)] _ dAl_add_0_20 hd zk_Al_131 ho rfl rfl hl hc (zPv_k kk)
theorem sAl_add_0_23 {G : zG} {d : Nat} {Q : Option Value → Heap → Prop} {H : Heap} {o0 : Option Value} {o1 : Option Value} (hn : narrow .boolean (.int (1 : Int32)) = .int (1 : Int32)) (hq : Q (some (.int (1 : Int32))) H) : zW G d M_Al_add_0 23 [o0, o1] [] H Q :=
  zw_iconst (1 : Int32) dAl_add_0_23 zki_1 <| zw_iret dAl_add_0_24 .boolean rfl hn hq
theorem sAl_add_1_0 {G : zG} {d : Nat} {Q : Option Value → Heap → Prop} {H : Heap} {st : List Value} {o0 : Option Value} {o1 : Option Value} {x3 : Int32} {a2 : Nat} {n1 : Nat} {t1 : FieldType} {g1 : Nat → Value} (ha1 : zArr G H a2 t1 n1 g1) (kt : (¬ x3 = (nI n1)) → zW G d M_Al_add_1 11 [o0, o1, some (.ref a2), some (.int x3)] st H Q) (kf : (x3 = (nI n1)) → zW G d M_Al_add_1 6 [o0, o1, some (.ref a2), some (.int x3)] st H Q) : zW G d M_Al_add_1 0 [o0, o1, some (.ref a2), some (.int x3)] st H Q :=
  zw_iload_n (i := 3) dAl_add_1_0 rfl rfl <| zw_aload_n (i := 2) dAl_add_1_1 rfl rfl zRf_ref <| zw_alen dAl_add_1_2 ha1 <| zw_icmp_ne 11 dAl_add_1_3 (by decide) kt kf
theorem sAl_add_1_6 {G : zG} {d : Nat} {Q : Option Value → Heap → Prop} {H : Heap} {st : List Value} {o1 : Option Value} {o2 : Option Value} {o3 : Option Value} {a0 : Nat} {P : Value → Heap → Prop} (hd : 1 ≤ d) (hl : st.length ≤ 4) (ho : zIs G H a0 5) (hc : zC G (d - 1) M_Al_grow_0 [(.ref a0)] H (zPr P)) (kk : ∀ (r : Value) (H1 : Heap), zRf r → P r H1 → zOk G H1 → H.size ≤ H1.size → zT H ≤ zT H1 → zW G d M_Al_add_1 10 [some (.ref a0), o1, o2, o3] (r :: st) H1 Q) : zW G d M_Al_add_1 6 [some (.ref a0), o1, o2, o3] st H Q :=
  zw_aload_n (i := 0) dAl_add_1_6 rfl rfl zRf_ref <| zw_callV [] _ dAl_add_1_7 hd zk_Al_129 ho rfl rfl hl hc (zPr_k kk)
theorem sAl_add_1_10 {G : zG} {d : Nat} {Q : Option Value → Heap → Prop} {H : Heap} {st : List Value} {o0 : Option Value} {o2 : Option Value} {vs0 : Value} {x3 : Int32} {v1 : Value} (hrs0 : zRf vs0 := by first | exact zRf_ref | exact zRf_null | exact zRf_rf _ | assumption) (hr1 : zRf v1 := by first | exact zRf_ref | exact zRf_null | exact zRf_rf _ | assumption) (kk : zW G d M_Al_add_1 14 [o0, some v1, some vs0, some (.int x3)] (v1 :: (.int x3) :: vs0 :: st) H Q) : zW G d M_Al_add_1 10 [o0, some v1, o2, some (.int x3)] (vs0 :: st) H Q :=
  zw_astore_n (i := 2) dAl_add_1_10 rfl (Nat.le_of_ble_eq_true rfl) hrs0 <| zw_aload_n (i := 2) dAl_add_1_11 rfl rfl hrs0 <| zw_iload_n (i := 3) dAl_add_1_12 rfl rfl <| zw_aload_n (i := 1) dAl_add_1_13 rfl rfl hr1 <| kk
theorem sAl_add_1_11 {G : zG} {d : Nat} {Q : Option Value → Heap → Prop} {H : Heap} {st : List Value} {o0 : Option Value} {v2 : Value} {x3 : Int32} {v1 : Value} (hr2 : zRf v2 := by first | exact zRf_ref | exact zRf_null | exact zRf_rf _ | assumption) (hr1 : zRf v1 := by first | exact zRf_ref | exact zRf_null | exact zRf_rf _ | assumption) (kk : zW G d M_Al_add_1 14 [o0, some v1, some v2, some (.int x3)] (v1 :: (.int x3) :: v2 :: st) H Q) : zW G d M_Al_add_1 11 [o0, some v1, some v2, some (.int x3)] st H Q :=
  zw_aload_n (i := 2) dAl_add_1_11 rfl rfl hr2 <| zw_iload_n (i := 3) dAl_add_1_12 rfl rfl <| zw_aload_n (i := 1) dAl_add_1_13 rfl rfl hr1 <| kk
theorem sAl_add_1_15 {G : zG} {d : Nat} {Q : Option Value → Heap → Prop} {H : Heap} {st : List Value} {o1 : Option Value} {o2 : Option Value} {a0 : Nat} {x3 : Int32} {b0 : Value} {b1 : Value} {b2 : Value} (ho : zObj G H a0 5 [b0, b1, b2]) (hw : zFr G a0) (kk : ∀ H1 : Heap, zObj G H1 a0 5 [b0, (.int (x3 + (1 : Int32))), b2] → zUp a0 H H1 → zW G d M_Al_add_1 22 [some (.ref a0), o1, o2, some (.int x3)] st H1 Q) : zW G d M_Al_add_1 15 [some (.ref a0), o1, o2, some (.int x3)] st H Q :=
  zw_aload_n (i := 0) dAl_add_1_15 rfl rfl zRf_ref <| zw_iload_n (i := 3) dAl_add_1_16 rfl rfl <| zw_iconst (1 : Int32) dAl_add_1_17 zki_1 <| zw_iadd dAl_add_1_18 <| zw_putf (k := 1) dAl_add_1_19 zp_Al_add_1_48 ho (Nat.le_of_ble_eq_true rfl) (Nat.le_of_ble_eq_true rfl) hw rfl rfl kk
theorem sAl_add_1_22 {G : zG} {d : Nat} {Q : Option Value → Heap → Prop} {H : Heap} {o0 : Option Value} {o1 : Option Value} {o2 : Option Value} {o3 : Option Value} (hq : Q none H) : zW G d M_Al_add_1 22 [o0, o1, o2, o3] [] H Q :=
  zw_vret dAl_add_1_22 rfl hq
theorem sAl_grow_0_0 {G : zG} {d : Nat} {Q : Option Value → Heap → Prop} {H : Heap} {st : List Value} {a0 : Nat} {xf1 : Int32} {P : Value → Heap → Prop} (hf1 : zFd G H a0 5 1 (.int xf1)) (hd : 1 ≤ d) (hl : st.length ≤ 4) (ho : zIs G H a0 5) (hc : zC G (d - 1) M_Al_grow_1 [(.ref a0), (.int (xf1 + (1 : Int32)))] H (zPr P)) (kk : ∀ (r : Value) (H1 : Heap), zRf r → P r H1 → zOk G H1 → H.size ≤ H1.size → zT H ≤ zT H1 → zW G d M_Al_grow_0 10 [some (.ref a0)] (r :: st) H1 Q) : zW G d M_Al_grow_0 0 [some (.ref a0)] st H Q :=
  zw_aload_n (i := 0) dAl_grow_0_0 rfl rfl zRf_ref <| zw_aload_n (i := 0) dAl_grow_0_1 rfl rfl zRf_ref <| zw_getf dAl_grow_0_2 zf_Al_48 hf1 <| zw_iconst (1 : Int32) dAl_grow_0_5 zki_1 <| zw_iadd dAl_grow_0_6 <| zw_callV [(.int (xf1 + (1 : Int32)))] _ dAl_grow_0_7 hd zk_Al_69 ho rfl rfl hl hc (zPr_k kk)
theorem sAl_grow_0_10 {G : zG} {d : Nat} {Q : Option Value → Heap → Prop} {H : Heap} {o0 : Option Value} {vs0 : Value} (hrs0 : zRf vs0 := by first | exact zRf_ref | exact zRf_null | exact zRf_rf _ | assumption) (hq : Q (some vs0) H) : zW G d M_Al_grow_0 10 [o0] (vs0 :: []) H Q :=
  zw_aret dAl_grow_0_10 (.array (.object "java/lang/Object")) rfl (Or.inr ⟨_, rfl⟩) hrs0 hq
theorem sAl_grow_1_0 {G : zG} {d : Nat} {Q : Option Value → Heap → Prop} {H : Heap} {st : List Value} {o1 : Option Value} {o2 : Option Value} {o3 : Option Value} {a0 : Nat} {af1 : Nat} {n2 : Nat} {t2 : FieldType} {g2 : Nat → Value} (hf1 : zFd G H a0 5 0 (.ref af1)) (ha2 : zArr G H af1 t2 n2 g2) (kt : (0 < (nI n2)) → zW G d M_Al_grow_1 20 [some (.ref a0), o1, some (.int (nI n2)), o3] st H Q) (kf : (¬ 0 < (nI n2)) → zW G d M_Al_grow_1 10 [some (.ref a0), o1, some (.int (nI n2)), o3] st H Q) : zW G d M_Al_grow_1 0 [some (.ref a0), o1, o2, o3] st H Q :=
  zw_aload_n (i := 0) dAl_grow_1_0 rfl rfl zRf_ref <| zw_getf dAl_grow_1_1 zf_Al_9 hf1 <| zw_alen dAl_grow_1_4 ha2 <| zw_istore_n (i := 2) dAl_grow_1_5 rfl (Nat.le_of_ble_eq_true rfl) <| zw_iload_n (i := 2) dAl_grow_1_6 rfl rfl <| zw_if_gt 20 dAl_grow_1_7 (by decide) kt kf
theorem sAl_grow_1_10 {G : zG} {d : Nat} {Q : Option Value → Heap → Prop} {H : Heap} {st : List Value} {o1 : Option Value} {o2 : Option Value} {o3 : Option Value} {a0 : Nat} {vf1 : Value} {vf2 : Value} (hrf1 : zRf vf1 := by first | exact zRf_ref | exact zRf_null | exact zRf_rf _ | assumption) (hrf2 : zRf vf2 := by first | exact zRf_ref | exact zRf_null | exact zRf_rf _ | assumption) (hf1 : zFd G H a0 5 0 vf1) (hz2 : va_Z "java/util/ArrayList" "DEFAULTCAPACITY_EMPTY_ELEMENTDATA" "[Ljava/lang/Object;" vf2 (zFr G) (zS G) (zS G).heap) (kk : zW G d M_Al_grow_1 17 [some (.ref a0), o1, o2, o3] (vf2 :: vf1 :: st) H Q) : zW G d M_Al_grow_1 10 [some (.ref a0), o1, o2, o3] st H Q :=
  zw_aload_n (i := 0) dAl_grow_1_10 rfl rfl zRf_ref <| zw_getf dAl_grow_1_11 zf_Al_9 hf1 <| zw_gets dAl_grow_1_14 hz2 (zt1 174 rfl) (Or.inl rfl) <| kk
theorem sAl_grow_1_20 {G : zG} {d : Nat} {Q : Option Value → Heap → Prop} {H : Heap} {st : List Value} {o0 : Option Value} {o3 : Option Value} {x2 : Int32} {x1 : Int32} {P : Int32 → Heap → Prop} (hd : 1 ≤ d) (hl : st.length ≤ 4) (hc : zC G (d - 1) M_AS_newLength [(.int x2), (.int (x1 - x2)), (.int (x2 >>> ((1 : Int32) &&& 31)))] H (zPi P)) (kk : ∀ (r : Int32) (H1 : Heap), P r H1 → zOk G H1 → H.size ≤ H1.size → zT H ≤ zT H1 → zW G d M_Al_grow_1 30 [o0, some (.int x1), some (.int x2), o3] ((.int r) :: st) H1 Q) : zW G d M_Al_grow_1 20 [o0, some (.int x1), some (.int x2), o3] st H Q :=
  zw_iload_n (i := 2) dAl_grow_1_20 rfl rfl <| zw_iload_n (i := 1) dAl_grow_1_21 rfl rfl <| zw_iload_n (i := 2) dAl_grow_1_22 rfl rfl <| zw_isub dAl_grow_1_23 <| zw_iload_n (i := 2) dAl_grow_1_24 rfl rfl <| zw_iconst (1 : Int32) dAl_grow_1_25 zki_1 <| zw_ishr dAl_grow_1_26 <| zw_callS [(.int x2), (.int (x1 - x2)), (.int (x2 >>> ((1 : Int32) &&& 31)))] _ dAl_grow_1_27 hd zk_Al_73 rfl rfl hl hc (zPi_k kk)
theorem sAl_grow_1_30 {G : zG} {d : Nat} {Q : Option Value → Heap → Prop} {H : Heap} {st : List Value} {o1 : Option Value} {o2 : Option Value} {o3 : Option Value} {xs0 : Int32} {a0 : Nat} {vf1 : Value} {P : Value → Heap → Prop} (hrf1 : zRf vf1 := by first | exact zRf_ref | exact zRf_null | exact zRf_rf _ | assumption) (hf1 : zFd G H a0 5 0 vf1) (hd : 1 ≤ d) (hl : ((.ref a0) :: st).length ≤ 4) (hc : zC G (d - 1) M_Ar_copyOf_1 [vf1, (.int xs0)] H (zPr P)) (kk : ∀ (r : Value) (H1 : Heap), zRf r → P r H1 → zOk G H1 → H.size ≤ H1.size → zT H ≤ zT H1 → zW G d M_Al_grow_1 40 [some (.ref a0), o1, o2, some (.int xs0)] (r :: (.ref a0) :: st) H1 Q) : zW G d M_Al_grow_1 30 [some (.ref a0), o1, o2, o3] ((.int xs0) :: st) H Q :=
  zw_istore_n (i := 3) dAl_grow_1_30 rfl (Nat.le_of_ble_eq_true rfl) <| zw_aload_n (i := 0) dAl_grow_1_31 rfl rfl zRf_ref <| zw_aload_n (i := 0) dAl_grow_1_32 rfl rfl zRf_ref <| zw_getf dAl_grow_1_33 zf_Al_9 hf1 <| zw_iload_n (i := 3) dAl_grow_1_36 rfl rfl <| zw_callS [vf1, (.int xs0)] _ dAl_grow_1_37 hd zk_Al_66 rfl rfl hl hc (zPr_k kk)
theorem sAl_grow_1_40 {G : zG} {d : Nat} {Q : Option Value → Heap → Prop} {H : Heap} {st : List Value} {o0 : Option Value} {o1 : Option Value} {o2 : Option Value} {o3 : Option Value} {vs0 : Value} {as1 : Nat} {b0 : Value} {b1 : Value} {b2 : Value} (hrs0 : zRf vs0 := by first | exact zRf_ref | exact zRf_null | exact zRf_rf _ | assumption) (ho : zObj G H as1 5 [b0, b1, b2]) (hw : zFr G as1) (kk : ∀ H1 : Heap, zObj G H1 as1 5 [vs0, b1, b2] → zUp as1 H H1 → zW G d M_Al_grow_1 44 [o0, o1, o2, o3] (vs0 :: st) H1 Q) : zW G d M_Al_grow_1 40 [o0, o1, o2, o3] (vs0 :: (.ref as1) :: st) H Q :=
  zw_dup_x1 dAl_grow_1_40 hrs0.cat rfl <| zw_putf (k := 0) dAl_grow_1_41 zp_Al_grow_1_9 ho (Nat.le_of_ble_eq_true rfl) (Nat.le_of_ble_eq_true rfl) hw (zNarA hrs0) (zFitA hrs0) kk
theorem sAl_grow_1_44 {G : zG} {d : Nat} {Q : Option Value → Heap → Prop} {H : Heap} {o0 : Option Value} {o1 : Option Value} {o2 : Option Value} {o3 : Option Value} {vs0 : Value} (hrs0 : zRf vs0 := by first | exact zRf_ref | exact zRf_null | exact zRf_rf _ | assumption) (hq : Q (some vs0) H) : zW G d M_Al_grow_1 44 [o0, o1, o2, o3] (vs0 :: []) H Q :=
  zw_aret dAl_grow_1_44 (.array (.object "java/lang/Object")) rfl (Or.inr ⟨_, rfl⟩) hrs0 hq
theorem sAl_grow_1_45 {G : zG} {d : Nat} {Q : Option Value → Heap → Prop} {H : Heap} {st : List Value} {o2 : Option Value} {o3 : Option Value} {v0 : Value} {x1 : Int32} {P : Int32 → Heap → Prop} (hr0 : zRf v0 := by first | exact zRf_ref | exact zRf_null | exact zRf_rf _ | assumption) (hd : 1 ≤ d) (hl : (v0 :: st).length ≤ 4) (hc : zC G (d - 1) M_Ma_max [(.int (10 : Int32)), (.int x1)] H (zPi P)) (kk : ∀ (r : Int32) (H1 : Heap), P r H1 → zOk G H1 → H.size ≤ H1.size → zT H ≤ zT H1 → zW G d M_Al_grow_1 52 [some v0, some (.int x1), o2, o3] ((.int r) :: v0 :: st) H1 Q) : zW G d M_Al_grow_1 45 [some v0, some (.int x1), o2, o3] st H Q :=
  zw_aload_n (i := 0) dAl_grow_1_45 rfl rfl hr0 <| zw_bipush (10 : Int32) dAl_grow_1_46 zkb_10 <| zw_iload_n (i := 1) dAl_grow_1_48 rfl rfl <| zw_callS [(.int (10 : Int32)), (.int x1)] _ dAl_grow_1_49 hd zk_Al_79 rfl rfl hl hc (zPi_k kk)
theorem sAl_grow_1_55 {G : zG} {d : Nat} {Q : Option Value → Heap → Prop} {H : Heap} {st : List Value} {o0 : Option Value} {o1 : Option Value} {o2 : Option Value} {o3 : Option Value} {vs0 : Value} {as1 : Nat} {b0 : Value} {b1 : Value} {b2 : Value} (hrs0 : zRf vs0 := by first | exact zRf_ref | exact zRf_null | exact zRf_rf _ | assumption) (ho : zObj G H as1 5 [b0, b1, b2]) (hw : zFr G as1) (kk : ∀ H1 : Heap, zObj G H1 as1 5 [vs0, b1, b2] → zUp as1 H H1 → zW G d M_Al_grow_1 59 [o0, o1, o2, o3] (vs0 :: st) H1 Q) : zW G d M_Al_grow_1 55 [o0, o1, o2, o3] (vs0 :: (.ref as1) :: st) H Q :=
  zw_dup_x1 dAl_grow_1_55 hrs0.cat rfl <| zw_putf (k := 0) dAl_grow_1_56 zp_Al_grow_1_9 ho (Nat.le_of_ble_eq_true rfl) (Nat.le_of_ble_eq_true rfl) hw (zNarA hrs0) (zFitA hrs0) kk
theorem sAl_grow_1_59 {G : zG} {d : Nat} {Q : Option Value → Heap → Prop} {H : Heap} {o0 : Option Value} {o1 : Option Value} {o2 : Option Value} {o3 : Option Value} {vs0 : Value} (hrs0 : zRf vs0 := by first | exact zRf_ref | exact zRf_null | exact zRf_rf _ | assumption) (hq : Q (some vs0) H) : zW G d M_Al_grow_1 59 [o0, o1, o2, o3] (vs0 :: []) H Q :=
  zw_aret dAl_grow_1_59 (.array (.object "java/lang/Object")) rfl (Or.inr ⟨_, rfl⟩) hrs0 hq
theorem sAl_remove_0 {G : zG} {d : Nat} {Q : Option Value → Heap → Prop} {H : Heap} {st : List Value} {o2 : Option Value} {o3 : Option Value} {x1 : Int32} {a0 : Nat} {xf1 : Int32} {P : Int32 → Heap → Prop} (hf1 : zFd G H a0 5 1 (.int xf1)) (hd : 1 ≤ d) (hl : st.length ≤ 4) (hc : zC G (d - 1) M_Ob_checkIndex [(.int x1), (.int xf1)] H (zPi P)) (kk : ∀ (r : Int32) (H1 : Heap), P r H1 → zOk G H1 → H.size ≤ H1.size → zT H ≤ zT H1 → zW G d M_Al_remove 8 [some (.ref a0), some (.int x1), o2, o3] ((.int r) :: st) H1 Q) : zW G d M_Al_remove 0 [some (.ref a0), some (.int x1), o2, o3] st H Q :=
  zw_iload_n (i := 1) dAl_remove_0 rfl rfl <| zw_aload_n (i := 0) dAl_remove_1 rfl rfl zRf_ref <| zw_getf dAl_remove_2 zf_Al_48 hf1 <| zw_callS [(.int x1), (.int xf1)] _ dAl_remove_5 hd zk_Al_118 rfl rfl hl hc (zPi_k kk)
theorem sAl_remove_8 {G : zG} {d : Nat} {Q : Option Value → Heap → Prop} {H : Heap} {st : List Value} {o2 : Option Value} {o3 : Option Value} {ws0 : Value} {a0 : Nat} {af1 : Nat} {x1 : Int32} {ve2 : Value} {n2 : Nat} {g2 : Nat → Value} {t2 : FieldType} {P : Heap → Prop} (hcs0 : ws0.category = 1 := by first | rfl | exact zRf.cat (by assumption)) (hre2 : zRf ve2 := by first | exact zRf_ref | exact zRf_null | exact zRf_rf _ | assumption) (hf1 : zFd G H a0 5 0 (.ref af1)) (ht2 : t2.isReference = true) (ha2 : zArr G H af1 t2 n2 g2) (hi2 : vp_in x1 n2) (he2 : g2 (x1).toNatClampNeg = ve2) (hd : 1 ≤ d) (hl : st.length ≤ 4) (ho : zIs G H a0 5) (hc : zC G (d - 1) M_Al_fastRemove [(.ref a0), (.ref af1), (.int x1)] H (zPv P)) (kk : ∀ H1 : Heap, P H1 → zOk G H1 → H.size ≤ H1.size → zT H ≤ zT H1 → zW G d M_Al_remove 24 [some (.ref a0), some (.int x1), some (.ref af1), some ve2] st H1 Q) : zW G d M_Al_remove 8 [some (.ref a0), some (.int x1), o2, o3] (ws0 :: st) H Q :=
  zw_pop dAl_remove_8 hcs0 <| zw_aload_n (i := 0) dAl_remove_9 rfl rfl zRf_ref <| zw_getf dAl_remove_10 zf_Al_9 hf1 <| zw_astore_n (i := 2) dAl_remove_13 rfl (Nat.le_of_ble_eq_true rfl) zRf_ref <| zw_aload_n (i := 2) dAl_remove_14 rfl rfl zRf_ref <| zw_iload_n (i := 1) dAl_remove_15 rfl rfl <| zw_aaldV dAl_remove_16 ht2 ha2 hi2 he2 <| zw_astore_n (i := 3) dAl_remove_17 rfl (Nat.le_of_ble_eq_true rfl) hre2 <| zw_aload_n (i := 0) dAl_remove_18 rfl rfl zRf_ref <| zw_aload_n (i := 2) dAl_remove_19 rfl rfl zRf_ref <| zw_iload_n (i := 1) dAl_remove_20 rfl rfl <| zw_callV [(.ref af1), (.int x1)] _ dAl_remove_21 hd zk_Al_144 ho rfl rfl hl hc (zPv_k kk)
theorem sAl_remove_24 {G : zG} {d : Nat} {Q : Option Value → Heap → Prop} {H : Heap} {o0 : Option Value} {o1 : Option Value} {o2 : Option Value} {v3 : Value} (hr3 : zRf v3 := by first | exact zRf_ref | exact zRf_null | exact zRf_rf _ | assumption) (hq : Q (some v3) H) : zW G d M_Al_remove 24 [o0, o1, o2, some v3] [] H Q :=
  zw_aload_n (i := 3) dAl_remove_24 rfl rfl hr3 <| zw_aret dAl_remove_25 (.object "java/lang/Object") rfl (Or.inl ⟨_, rfl⟩) hr3 hq
theorem sAl_fastRemove_0 {G : zG} {d : Nat} {Q : Option Value → Heap → Prop} {H : Heap} {st : List Value} {o1 : Option Value} {o2 : Option Value} {o3 : Option Value} {a0 : Nat} {xf1 : Int32} {b0 : Value} {b1 : Value} {b2 : Value} (hf1 : zFd G H a0 5 2 (.int xf1)) (ho : zObj G H a0 5 [b0, b1, b2]) (hw : zFr G a0) (kk : ∀ H1 : Heap, zObj G H1 a0 5 [b0, b1, (.int (xf1 + (1 : Int32)))] → zUp a0 H H1 → zW G d M_Al_fastRemove 10 [some (.ref a0), o1, o2, o3] st H1 Q) : zW G d M_Al_fastRemove 0 [some (.ref a0), o1, o2, o3] st H Q :=
  zw_aload_n (i := 0) dAl_fastRemove_0 rfl rfl zRf_ref <| zw_dup dAl_fastRemove_1 rfl <| zw_getf dAl_fastRemove_2 zf_Al_63 hf1 <| zw_iconst (1 : Int32) dAl_fastRemove_5 zki_1 <| zw_iadd dAl_fastRemove_6 <| zw_putf (k := 2) dAl_fastRemove_7 zp_Al_fastRemove_63 ho (Nat.le_of_ble_eq_true rfl) (Nat.le_of_ble_eq_true rfl) hw rfl rfl kk
theorem sAl_fastRemove_10 {G : zG} {d : Nat} {Q : Option Value → Heap → Prop} {H : Heap} {st : List Value} {o1 : Option Value} {o3 : Option Value} {a0 : Nat} {xf1 : Int32} {x2 : Int32} (hf1 : zFd G H a0 5 1 (.int xf1)) (kt : ((xf1 - (1 : Int32)) ≤ x2) → zW G d M_Al_fastRemove 34 [some (.ref a0), o1, some (.int x2), some (.int (xf1 - (1 : Int32)))] st H Q) (kf : (¬ (xf1 - (1 : Int32)) ≤ x2) → zW G d M_Al_fastRemove 22 [some (.ref a0), o1, some (.int x2), some (.int (xf1 - (1 : Int32)))] st H Q) : zW G d M_Al_fastRemove 10 [some (.ref a0), o1, some (.int x2), o3] st H Q :=
  zw_aload_n (i := 0) dAl_fastRemove_10 rfl rfl zRf_ref <| zw_getf dAl_fastRemove_11 zf_Al_48 hf1 <| zw_iconst (1 : Int32) dAl_fastRemove_14 zki_1 <| zw_isub dAl_fastRemove_15 <| zw_dup dAl_fastRemove_16 rfl <| zw_istore_n (i := 3) dAl_fastRemove_17 rfl (Nat.le_of_ble_eq_true rfl) <| zw_iload_n (i := 2) dAl_fastRemove_18 rfl rfl <| zw_icmp_le 34 dAl_fastRemove_19 (by decide) kt kf
theorem sAl_fastRemove_22 {G : zG} {d : Nat} {Q : Option Value → Heap → Prop} {H : Heap} {st : List Value} {o0 : Option Value} {v1 : Value} {x2 : Int32} {x3 : Int32} (hr1 : zRf v1 := by first | exact zRf_ref | exact zRf_null | exact zRf_rf _ | assumption) (kk : zW G d M_Al_fastRemove 31 [o0, some v1, some (.int x2), some (.int x3)] ((.int (x3 - x2)) :: (.int x2) :: v1 :: (.int (x2 + (1 : Int32))) :: v1 :: st) H Q) : zW G d M_Al_fastRemove 22 [o0, some v1, some (.int x2), some (.int x3)] st H Q :=
  zw_aload_n (i := 1) dAl_fastRemove_22 rfl rfl hr1 <| zw_iload_n (i := 2) dAl_fastRemove_23 rfl rfl <| zw_iconst (1 : Int32) dAl_fastRemove_24 zki_1 <| zw_iadd dAl_fastRemove_25 <| zw_aload_n (i := 1) dAl_fastRemove_26 rfl rfl hr1 <| zw_iload_n (i := 2) dAl_fastRemove_27 rfl rfl <| zw_iload_n (i := 3) dAl_fastRemove_28 rfl rfl <| zw_iload_n (i := 2) dAl_fastRemove_29 rfl rfl <| zw_isub dAl_fastRemove_30 <| kk
theorem sAl_fastRemove_34 {G : zG} {d : Nat} {Q : Option Value → Heap → Prop} {H : Heap} {st : List Value} {o2 : Option Value} {v1 : Value} {a0 : Nat} {x3 : Int32} {b0 : Value} {b1 : Value} {b2 : Value} (hr1 : zRf v1 := by first | exact zRf_ref | exact zRf_null | exact zRf_rf _ | assumption) (ho : zObj G H a0 5 [b0, b1, b2]) (hw : zFr G a0) (kk : ∀ H1 : Heap, zObj G H1 a0 5 [b0, (.int x3), b2] → zUp a0 H H1 → zW G d M_Al_fastRemove 41 [some (.ref a0), some v1, o2, some (.int x3)] ((.int x3) :: v1 :: st) H1 Q) : zW G d M_Al_fastRemove 34 [some (.ref a0), some v1, o2, some (.int x3)] st H Q :=
  zw_aload_n (i := 1) dAl_fastRemove_34 rfl rfl hr1 <| zw_aload_n (i := 0) dAl_fastRemove_35 rfl rfl zRf_ref <| zw_iload_n (i := 3) dAl_fastRemove_36 rfl rfl <| zw_dup_x1 dAl_fastRemove_37 rfl rfl <| zw_putf (k := 1) dAl_fastRemove_38 zp_Al_fastRemove_48 ho (Nat.le_of_ble_eq_true rfl) (Nat.le_of_ble_eq_true rfl) hw rfl rfl kk
theorem sAl_fastRemove_41 {G : zG} {d : Nat} {Q : Option Value → Heap → Prop} {H : Heap} {st : List Value} {o0 : Option Value} {o1 : Option Value} {o2 : Option Value} {o3 : Option Value} (kk : zW G d M_Al_fastRemove 42 [o0, o1, o2, o3] (.null :: st) H Q) : zW G d M_Al_fastRemove 41 [o0, o1, o2, o3] st H Q :=
  zw_null dAl_fastRemove_41 <| kk
theorem sAl_fastRemove_43 {G : zG} {d : Nat} {Q : Option Value → Heap → Prop} {H : Heap} {o0 : Option Value} {o1 : Option Value} {o2 : Option Value} {o3 : Option Value} (hq : Q none H) : zW G d M_Al_fastRemove 43 [o0, o1, o2, o3] [] H Q :=
  zw_vret dAl_fastRemove_43 rfl hq

