theorem dL1_canEncode_0_0 : decode prog_22_method_3_code 0 = .ok (.iload_n 0, 1) := by decide +kernel
theorem dL1_canEncode_0_1 : decode prog_22_method_3_code 1 = .ok (.sipush 255, 3) := by decide +kernel
theorem dL1_canEncode_0_4 : decode prog_22_method_3_code 4 = .ok (.if_icmp .gt 7, 3) := by decide +kernel
theorem dL1_canEncode_0_7 : decode prog_22_method_3_code 7 = .ok (.iconst 1, 1) := by decide +kernel
theorem dL1_canEncode_0_8 : decode prog_22_method_3_code 8 = .ok (.goto 4, 3) := by decide +kernel
theorem dL1_canEncode_0_11 : decode prog_22_method_3_code 11 = .ok (.iconst 0, 1) := by decide +kernel
theorem dL1_canEncode_0_12 : decode prog_22_method_3_code 12 = .ok (.ireturn, 1) := by decide +kernel
theorem dL1_inflate_0 : decode prog_22_method_50_code 0 = .ok (.aload_n 0, 1) := by decide +kernel
theorem dL1_inflate_1 : decode prog_22_method_50_code 1 = .ok (.iload_n 1, 1) := by decide +kernel
theorem dL1_inflate_2 : decode prog_22_method_50_code 2 = .ok (.aload_n 2, 1) := by decide +kernel
theorem dL1_inflate_3 : decode prog_22_method_50_code 3 = .ok (.iload_n 3, 1) := by decide +kernel
theorem dL1_inflate_4 : decode prog_22_method_50_code 4 = .ok (.iload 4, 2) := by decide +kernel
theorem dL1_inflate_6 : decode prog_22_method_50_code 6 = .ok (.invokestatic 240, 3) := by decide +kernel
theorem dL1_inflate_9 : decode prog_22_method_50_code 9 = .ok (.return_, 1) := by decide +kernel
theorem dL1_fillNull_0 : decode prog_22_method_48_code 0 = .ok (.aload_n 0, 1) := by decide +kernel
theorem dL1_fillNull_1 : decode prog_22_method_48_code 1 = .ok (.iload_n 1, 1) := by decide +kernel
theorem dL1_fillNull_2 : decode prog_22_method_48_code 2 = .ok (.iload_n 2, 1) := by decide +kernel
theorem dL1_fillNull_3 : decode prog_22_method_48_code 3 = .ok (.iconst 0, 1) := by decide +kernel
theorem dL1_fillNull_4 : decode prog_22_method_48_code 4 = .ok (.invokestatic 236, 3) := by decide +kernel
theorem dL1_fillNull_7 : decode prog_22_method_48_code 7 = .ok (.return_, 1) := by decide +kernel
theorem dL1_charAt_0 : decode prog_22_method_2_code 0 = .ok (.iload_n 1, 1) := by decide +kernel
theorem dL1_charAt_1 : decode prog_22_method_2_code 1 = .ok (.aload_n 0, 1) := by decide +kernel
theorem dL1_charAt_2 : decode prog_22_method_2_code 2 = .ok (.arraylength, 1) := by decide +kernel
theorem dL1_charAt_3 : decode prog_22_method_2_code 3 = .ok (.invokestatic 9, 3) := by decide +kernel
theorem dL1_charAt_6 : decode prog_22_method_2_code 6 = .ok (.aload_n 0, 1) := by decide +kernel
theorem dL1_charAt_7 : decode prog_22_method_2_code 7 = .ok (.iload_n 1, 1) := by decide +kernel
theorem dL1_charAt_8 : decode prog_22_method_2_code 8 = .ok (.baload, 1) := by decide +kernel
theorem dL1_charAt_9 : decode prog_22_method_2_code 9 = .ok (.sipush 255, 3) := by decide +kernel
theorem dL1_charAt_12 : decode prog_22_method_2_code 12 = .ok (.iand, 1) := by decide +kernel
theorem dL1_charAt_13 : decode prog_22_method_2_code 13 = .ok (.i2c, 1) := by decide +kernel
theorem dL1_charAt_14 : decode prog_22_method_2_code 14 = .ok (.ireturn, 1) := by decide +kernel
theorem dL1_indexOf_0 : decode prog_22_method_22_code 0 = .ok (.iload_n 1, 1) := by decide +kernel
theorem dL1_indexOf_1 : decode prog_22_method_22_code 1 = .ok (.invokestatic 88, 3) := by decide +kernel
theorem dL1_indexOf_4 : decode prog_22_method_22_code 4 = .ok (.ifCond .ne 5, 3) := by decide +kernel
theorem dL1_indexOf_7 : decode prog_22_method_22_code 7 = .ok (.iconst (-1), 1) := by decide +kernel
theorem dL1_indexOf_8 : decode prog_22_method_22_code 8 = .ok (.ireturn, 1) := by decide +kernel
theorem dL1_indexOf_9 : decode prog_22_method_22_code 9 = .ok (.iload_n 2, 1) := by decide +kernel
theorem dL1_indexOf_10 : decode prog_22_method_22_code 10 = .ok (.iconst 0, 1) := by decide +kernel
theorem dL1_indexOf_11 : decode prog_22_method_22_code 11 = .ok (.invokestatic 92, 3) := by decide +kernel
theorem dL1_indexOf_14 : decode prog_22_method_22_code 14 = .ok (.istore_n 2, 1) := by decide +kernel
theorem dL1_indexOf_15 : decode prog_22_method_22_code 15 = .ok (.iload_n 3, 1) := by decide +kernel
theorem dL1_indexOf_16 : decode prog_22_method_22_code 16 = .ok (.aload_n 0, 1) := by decide +kernel
theorem dL1_indexOf_17 : decode prog_22_method_22_code 17 = .ok (.arraylength, 1) := by decide +kernel
theorem dL1_indexOf_18 : decode prog_22_method_22_code 18 = .ok (.invokestatic 38, 3) := by decide +kernel
theorem dL1_indexOf_21 : decode prog_22_method_22_code 21 = .ok (.istore_n 3, 1) := by decide +kernel
theorem dL1_indexOf_22 : decode prog_22_method_22_code 22 = .ok (.iload_n 2, 1) := by decide +kernel
theorem dL1_indexOf_23 : decode prog_22_method_22_code 23 = .ok (.iload_n 3, 1) := by decide +kernel
theorem dL1_indexOf_24 : decode prog_22_method_22_code 24 = .ok (.if_icmp .lt 5, 3) := by decide +kernel
theorem dL1_indexOf_27 : decode prog_22_method_22_code 27 = .ok (.iconst (-1), 1) := by decide +kernel
theorem dL1_indexOf_28 : decode prog_22_method_22_code 28 = .ok (.ireturn, 1) := by decide +kernel
theorem dL1_indexOf_29 : decode prog_22_method_22_code 29 = .ok (.aload_n 0, 1) := by decide +kernel
theorem dL1_indexOf_30 : decode prog_22_method_22_code 30 = .ok (.iload_n 1, 1) := by decide +kernel
theorem dL1_indexOf_31 : decode prog_22_method_22_code 31 = .ok (.iload_n 2, 1) := by decide +kernel
theorem dL1_indexOf_32 : decode prog_22_method_22_code 32 = .ok (.iload_n 3, 1) := by decide +kernel
theorem dL1_indexOf_33 : decode prog_22_method_22_code 33 = .ok (.invokestatic 95, 3) := by decide +kernel
theorem dL1_indexOf_36 : decode prog_22_method_22_code 36 = .ok (.ireturn, 1) := by decide +kernel
theorem dL1_canEncode_1_0 : decode prog_22_method_4_code 0 = .ok (.iload_n 0, 1) := by decide +kernel
theorem dL1_canEncode_1_1 : decode prog_22_method_4_code 1 = .ok (.ifCond .lt 14, 3) := by decide +kernel
theorem dL1_canEncode_1_4 : decode prog_22_method_4_code 4 = .ok (.iload_n 0, 1) := by decide +kernel
theorem dL1_canEncode_1_5 : decode prog_22_method_4_code 5 = .ok (.sipush 255, 3) := by decide +kernel
theorem dL1_canEncode_1_8 : decode prog_22_method_4_code 8 = .ok (.if_icmp .gt 7, 3) := by decide +kernel
theorem dL1_canEncode_1_11 : decode prog_22_method_4_code 11 = .ok (.iconst 1, 1) := by decide +kernel
theorem dL1_canEncode_1_12 : decode prog_22_method_4_code 12 = .ok (.goto 4, 3) := by decide +kernel
theorem dL1_canEncode_1_15 : decode prog_22_method_4_code 15 = .ok (.iconst 0, 1) := by decide +kernel
theorem dL1_canEncode_1_16 : decode prog_22_method_4_code 16 = .ok (.ireturn, 1) := by decide +kernel
theorem dL1_indexOfChar_0 : decode prog_22_method_23_code 0 = .ok (.iload_n 1, 1) := by decide +kernel
theorem dL1_indexOfChar_1 : decode prog_22_method_23_code 1 = .ok (.i2b, 1) := by decide +kernel
theorem dL1_indexOfChar_2 : decode prog_22_method_23_code 2 = .ok (.istore 4, 2) := by decide +kernel
theorem dL1_indexOfChar_4 : decode prog_22_method_23_code 4 = .ok (.iload_n 2, 1) := by decide +kernel
theorem dL1_indexOfChar_5 : decode prog_22_method_23_code 5 = .ok (.istore 5, 2) := by decide +kernel
theorem dL1_indexOfChar_7 : decode prog_22_method_23_code 7 = .ok (.iload 5, 2) := by decide +kernel
theorem dL1_indexOfChar_9 : decode prog_22_method_23_code 9 = .ok (.iload_n 3, 1) := by decide +kernel
theorem dL1_indexOfChar_10 : decode prog_22_method_23_code 10 = .ok (.if_icmp .ge 21, 3) := by decide +kernel
theorem dL1_indexOfChar_13 : decode prog_22_method_23_code 13 = .ok (.aload_n 0, 1) := by decide +kernel
theorem dL1_indexOfChar_14 : decode prog_22_method_23_code 14 = .ok (.iload 5, 2) := by decide +kernel
theorem dL1_indexOfChar_16 : decode prog_22_method_23_code 16 = .ok (.baload, 1) := by decide +kernel
theorem dL1_indexOfChar_17 : decode prog_22_method_23_code 17 = .ok (.iload 4, 2) := by decide +kernel
theorem dL1_indexOfChar_19 : decode prog_22_method_23_code 19 = .ok (.if_icmp .ne 6, 3) := by decide +kernel
theorem dL1_indexOfChar_22 : decode prog_22_method_23_code 22 = .ok (.iload 5, 2) := by decide +kernel
theorem dL1_indexOfChar_24 : decode prog_22_method_23_code 24 = .ok (.ireturn, 1) := by decide +kernel
theorem dL1_indexOfChar_25 : decode prog_22_method_23_code 25 = .ok (.iinc 5 1, 3) := by decide +kernel
theorem dL1_indexOfChar_28 : decode prog_22_method_23_code 28 = .ok (.goto (-21), 3) := by decide +kernel
theorem dL1_indexOfChar_31 : decode prog_22_method_23_code 31 = .ok (.iconst (-1), 1) := by decide +kernel
theorem dL1_indexOfChar_32 : decode prog_22_method_23_code 32 = .ok (.ireturn, 1) := by decide +kernel
theorem dL1_newString_0 : decode prog_22_method_47_code 0 = .ok (.iload_n 2, 1) := by decide +kernel
theorem dL1_newString_1 : decode prog_22_method_47_code 1 = .ok (.ifCond .ne 6, 3) := by decide +kernel
theorem dL1_newString_4 : decode prog_22_method_47_code 4 = .ok (.ldc 151, 2) := by decide +kernel
theorem dL1_newString_6 : decode prog_22_method_47_code 6 = .ok (.areturn, 1) := by decide +kernel
theorem dL1_newString_7 : decode prog_22_method_47_code 7 = .ok (.new 1, 3) := by decide +kernel
theorem dL1_newString_10 : decode prog_22_method_47_code 10 = .ok (.dup, 1) := by decide +kernel
theorem dL1_newString_11 : decode prog_22_method_47_code 11 = .ok (.aload_n 0, 1) := by decide +kernel
theorem dL1_newString_12 : decode prog_22_method_47_code 12 = .ok (.iload_n 1, 1) := by decide +kernel
theorem dL1_newString_13 : decode prog_22_method_47_code 13 = .ok (.iload_n 1, 1) := by decide +kernel
theorem dL1_newString_14 : decode prog_22_method_47_code 14 = .ok (.iload_n 2, 1) := by decide +kernel
theorem dL1_newString_15 : decode prog_22_method_47_code 15 = .ok (.iadd, 1) := by decide +kernel
theorem dL1_newString_16 : decode prog_22_method_47_code 16 = .ok (.invokestatic 232, 3) := by decide +kernel
theorem dL1_newString_19 : decode prog_22_method_47_code 19 = .ok (.iconst 0, 1) := by decide +kernel
theorem dL1_newString_20 : decode prog_22_method_47_code 20 = .ok (.invokespecial 112, 3) := by decide +kernel
theorem dL1_newString_23 : decode prog_22_method_47_code 23 = .ok (.areturn, 1) := by decide +kernel
theorem dL1_equals_0 : decode prog_22_method_13_code 0 = .ok (.aload_n 0, 1) := by decide +kernel
theorem dL1_equals_1 : decode prog_22_method_13_code 1 = .ok (.arraylength, 1) := by decide +kernel
theorem dL1_equals_2 : decode prog_22_method_13_code 2 = .ok (.aload_n 1, 1) := by decide +kernel
theorem dL1_equals_3 : decode prog_22_method_13_code 3 = .ok (.arraylength, 1) := by decide +kernel
theorem dL1_equals_4 : decode prog_22_method_13_code 4 = .ok (.if_icmp .ne 30, 3) := by decide +kernel
theorem dL1_equals_7 : decode prog_22_method_13_code 7 = .ok (.iconst 0, 1) := by decide +kernel
theorem dL1_equals_8 : decode prog_22_method_13_code 8 = .ok (.istore_n 2, 1) := by decide +kernel
theorem dL1_equals_9 : decode prog_22_method_13_code 9 = .ok (.iload_n 2, 1) := by decide +kernel
theorem dL1_equals_10 : decode prog_22_method_13_code 10 = .ok (.aload_n 0, 1) := by decide +kernel
theorem dL1_equals_11 : decode prog_22_method_13_code 11 = .ok (.arraylength, 1) := by decide +kernel
theorem dL1_equals_12 : decode prog_22_method_13_code 12 = .ok (.if_icmp .ge 20, 3) := by decide +kernel
theorem dL1_equals_15 : decode prog_22_method_13_code 15 = .ok (.aload_n 0, 1) := by decide +kernel
theorem dL1_equals_16 : decode prog_22_method_13_code 16 = .ok (.iload_n 2, 1) := by decide +kernel
theorem dL1_equals_17 : decode prog_22_method_13_code 17 = .ok (.baload, 1) := by decide +kernel
theorem dL1_equals_18 : decode prog_22_method_13_code 18 = .ok (.aload_n 1, 1) := by decide +kernel
theorem dL1_equals_19 : decode prog_22_method_13_code 19 = .ok (.iload_n 2, 1) := by decide +kernel
theorem dL1_equals_20 : decode prog_22_method_13_code 20 = .ok (.baload, 1) := by decide +kernel
theorem dL1_equals_21 : decode prog_22_method_13_code 21 = .ok (.if_icmp .eq 5, 3) := by decide +kernel
theorem dL1_equals_24 : decode prog_22_method_13_code 24 = .ok (.iconst 0, 1) := by decide +kernel
theorem dL1_equals_25 : decode prog_22_method_13_code 25 = .ok (.ireturn, 1) := by decide +kernel
theorem dL1_equals_26 : decode prog_22_method_13_code 26 = .ok (.iinc 2 1, 3) := by decide +kernel
theorem dL1_equals_29 : decode prog_22_method_13_code 29 = .ok (.goto (-20), 3) := by decide +kernel
theorem dL1_equals_32 : decode prog_22_method_13_code 32 = .ok (.iconst 1, 1) := by decide +kernel
theorem dL1_equals_33 : decode prog_22_method_13_code 33 = .ok (.ireturn, 1) := by decide +kernel
theorem dL1_equals_34 : decode prog_22_method_13_code 34 = .ok (.iconst 0, 1) := by decide +kernel
theorem dL1_equals_35 : decode prog_22_method_13_code 35 = .ok (.ireturn, 1) := by decide +kernel
theorem zk_L1_240 : zLkS "java/lang/StringLatin1" 240 M_U16_inflate 5 := ⟨zc_U16_inflate, zt2 97 rfl, Or.inl (zt2 96 rfl)⟩
theorem zk_L1_236 : zLkS "java/lang/StringLatin1" 236 M_Ar_fill 4 := ⟨zc_Ar_fill, zt2 149 rfl, Or.inl (zt2 148 rfl)⟩
theorem zk_L1_9 : zLkS "java/lang/StringLatin1" 9 M_St_checkIndex 2 := ⟨zc_St_checkIndex, zt2 129 rfl, Or.inl (zt3 16 rfl)⟩
theorem zk_L1_88 : zLkS "java/lang/StringLatin1" 88 M_L1_canEncode_1 1 := ⟨zc_L1_canEncode_1, zt3 39 rfl, Or.inl (zt3 38 rfl)⟩
theorem zk_L1_92 : zLkS "java/lang/StringLatin1" 92 M_Ma_max 2 := ⟨zc_Ma_max, zt2 58 rfl, Or.inl (zt3 41 rfl)⟩
theorem zk_L1_38 : zLkS "java/lang/StringLatin1" 38 M_Ma_min 2 := ⟨zc_Ma_min, zt2 76 rfl, Or.inl (zt3 42 rfl)⟩
theorem zk_L1_95 : zLkS "java/lang/StringLatin1" 95 M_L1_indexOfChar 4 := ⟨zc_L1_indexOfChar, zt3 44 rfl, Or.inl (zt3 43 rfl)⟩
theorem zn_L1_newString_1 : zNf M_L1_newString 1 8 4 [.null, .int 0, .int 0, .int 0] := ⟨_, _, _, ty_St, rfl, in_St, tyok_St, zt3 92 rfl, zt2 187 rfl, zt1 4 rfl, Nat.le_of_ble_eq_true rfl, zDf_St⟩
theorem zk_L1_232 : zLkS "java/lang/StringLatin1" 232 M_Ar_copyOfRange 3 := ⟨zc_Ar_copyOfRange, zt2 203 rfl, Or.inl (zt3 93 rfl)⟩
theorem zk_L1_112 : zLkI "java/lang/StringLatin1" 112 M_St_init_2 2 := ⟨zc_St_init_2, rfl, rfl, zt3 95 rfl, Or.inl (zt3 94 rfl)⟩
theorem sL1_canEncode_0_0 {G : zG} {d : Nat} {Q : Option Value → Heap → Prop} {H : Heap} {st : List Value} {x0 : Int32} (kt : ((255 : Int32) < x0) → zW G d M_L1_canEncode_0 11 [some (.int x0)] st H Q) (kf : (¬ (255 : Int32) < x0) → zW G d M_L1_canEncode_0 7 [some (.int x0)] st H Q) : zW G d M_L1_canEncode_0 0 [some (.int x0)] st H Q :=
  zw_iload_n (i := 0) dL1_canEncode_0_0 rfl rfl <| zw_sipush (255 : Int32) dL1_canEncode_0_1 zks_255 <| zw_icmp_gt 11 dL1_canEncode_0_4 (by decide) kt kf
theorem sL1_canEncode_0_7 {G : zG} {d : Nat} {Q : Option Value → Heap → Prop} {H : Heap} {o0 : Option Value} (hn : narrow .boolean (.int (1 : Int32)) = .int (1 : Int32)) (hq : Q (some (.int (1 : Int32))) H) : zW G d M_L1_canEncode_0 7 [o0] [] H Q :=
  zw_iconst (1 : Int32) dL1_canEncode_0_7 zki_1 <| zw_goto 12 dL1_canEncode_0_8 (by decide) <| zw_iret dL1_canEncode_0_12 .boolean rfl hn hq
theorem sL1_canEncode_0_11 {G : zG} {d : Nat} {Q : Option Value → Heap → Prop} {H : Heap} {o0 : Option Value} (hn : narrow .boolean (.int (0 : Int32)) = .int (0 : Int32)) (hq : Q (some (.int (0 : Int32))) H) : zW G d M_L1_canEncode_0 11 [o0] [] H Q :=
  zw_iconst (0 : Int32) dL1_canEncode_0_11 zki_0 <| zw_iret dL1_canEncode_0_12 .boolean rfl hn hq
theorem sL1_canEncode_0_12 {G : zG} {d : Nat} {Q : Option Value → Heap → Prop} {H : Heap} {o0 : Option Value} {xs0 : Int32} (hn : narrow .boolean (.int xs0) = .int xs0) (hq : Q (some (.int xs0)) H) : zW G d M_L1_canEncode_0 12 [o0] ((.int xs0) :: []) H Q :=
  zw_iret dL1_canEncode_0_12 .boolean rfl hn hq
theorem sL1_inflate_0 {G : zG} {d : Nat} {Q : Option Value → Heap → Prop} {H : Heap} {st : List Value} {v0 : Value} {x1 : Int32} {v2 : Value} {x3 : Int32} {x4 : Int32} {P : Heap → Prop} (hr0 : zRf v0 := by first | exact zRf_ref | exact zRf_null | exact zRf_rf _ | assumption) (hr2 : zRf v2 := by first | exact zRf_ref | exact zRf_null | exact zRf_rf _ | assumption) (hd : 1 ≤ d) (hl : st.length ≤ 4) (hc : zC G (d - 1) M_U16_inflate [v0, (.int x1), v2, (.int x3), (.int x4)] H (zPv P)) (kk : ∀ H1 : Heap, P H1 → zOk G H1 → H.size ≤ H1.size → zT H ≤ zT H1 → zW G d M_L1_inflate 9 [some v0, some (.int x1), some v2, some (.int x3), some (.int x4)] st H1 Q) : zW G d M_L1_inflate 0 [some v0, some (.int x1), some v2, some (.int x3), some (.int x4)] st H Q :=
  zw_aload_n (i := 0) dL1_inflate_0 rfl rfl hr0 <| zw_iload_n (i := 1) dL1_inflate_1 rfl rfl <| zw_aload_n (i := 2) dL1_inflate_2 rfl rfl hr2 <| zw_iload_n (i := 3) dL1_inflate_3 rfl rfl <| zw_iload (i := 4) dL1_inflate_4 rfl <| zw_callS [v0, (.int x1), v2, (.int x3), (.int x4)] _ dL1_inflate_6 hd zk_L1_240 rfl rfl hl hc (zPv_k kk)
theorem sL1_inflate_9 {G : zG} {d : Nat} {Q : Option Value → Heap → Prop} {H : Heap} {o0 : Option Value} {o1 : Option Value} {o2 : Option Value} {o3 : Option Value} {o4 : Option Value} (hq : Q none H) : zW G d M_L1_inflate 9 [o0, o1, o2, o3, o4] [] H Q :=
  zw_vret dL1_inflate_9 rfl hq
theorem sL1_fillNull_0 {G : zG} {d : Nat} {Q : Option Value → Heap → Prop} {H : Heap} {st : List Value} {v0 : Value} {x1 : Int32} {x2 : Int32} {P : Heap → Prop} (hr0 : zRf v0 := by first | exact zRf_ref | exact zRf_null | exact zRf_rf _ | assumption) (hd : 1 ≤ d) (hl : st.length ≤ 4) (hc : zC G (d - 1) M_Ar_fill [v0, (.int x1), (.int x2), (.int (0 : Int32))] H (zPv P)) (kk : ∀ H1 : Heap, P H1 → zOk G H1 → H.size ≤ H1.size → zT H ≤ zT H1 → zW G d M_L1_fillNull 7 [some v0, some (.int x1), some (.int x2)] st H1 Q) : zW G d M_L1_fillNull 0 [some v0, some (.int x1), some (.int x2)] st H Q :=
  zw_aload_n (i := 0) dL1_fillNull_0 rfl rfl hr0 <| zw_iload_n (i := 1) dL1_fillNull_1 rfl rfl <| zw_iload_n (i := 2) dL1_fillNull_2 rfl rfl <| zw_iconst (0 : Int32) dL1_fillNull_3 zki_0 <| zw_callS [v0, (.int x1), (.int x2), (.int (0 : Int32))] _ dL1_fillNull_4 hd zk_L1_236 rfl rfl hl hc (zPv_k kk)
theorem sL1_fillNull_7 {G : zG} {d : Nat} {Q : Option Value → Heap → Prop} {H : Heap} {o0 : Option Value} {o1 : Option Value} {o2 : Option Value} (hq : Q none H) : zW G d M_L1_fillNull 7 [o0, o1, o2] [] H Q :=
  zw_vret dL1_fillNull_7 rfl hq
theorem sL1_charAt_0 {G : zG} {d : Nat} {Q : Option Value → Heap → Prop} {H : Heap} {st : List Value} {x1 : Int32} {a0 : Nat} {n1 : Nat} {t1 : FieldType} {g1 : Nat → Value} {P : Heap → Prop} (ha1 : zArr G H a0 t1 n1 g1) (hd : 1 ≤ d) (hl : st.length ≤ 4) (hc : zC G (d - 1) M_St_checkIndex [(.int x1), (.int (nI n1))] H (zPv P)) (kk : ∀ H1 : Heap, P H1 → zOk G H1 → H.size ≤ H1.size → zT H ≤ zT H1 → zW G d M_L1_charAt 6 [some (.ref a0), some (.int x1)] st H1 Q) : zW G d M_L1_charAt 0 [some (.ref a0), some (.int x1)] st H Q :=
  zw_iload_n (i := 1) dL1_charAt_0 rfl rfl <| zw_aload_n (i := 0) dL1_charAt_1 rfl rfl zRf_ref <| zw_alen dL1_charAt_2 ha1 <| zw_callS [(.int x1), (.int (nI n1))] _ dL1_charAt_3 hd zk_L1_9 rfl rfl hl hc (zPv_k kk)
theorem sL1_charAt_6 {G : zG} {d : Nat} {Q : Option Value → Heap → Prop} {H : Heap} {a0 : Nat} {x1 : Int32} {n1 : Nat} {g1 : Nat → Int32} (ha1 : zArr G H a0 .byte n1 (fun j => .int (g1 j))) (hi1 : vp_in x1 n1) (hn : narrow .char (.int ((((g1 (x1).toNatClampNeg) &&& (255 : Int32))).toUInt32 % 65536).toInt32) = .int ((((g1 (x1).toNatClampNeg) &&& (255 : Int32))).toUInt32 % 65536).toInt32) (hq : Q (some (.int ((((g1 (x1).toNatClampNeg) &&& (255 : Int32))).toUInt32 % 65536).toInt32)) H) : zW G d M_L1_charAt 6 [some (.ref a0), some (.int x1)] [] H Q :=
  zw_aload_n (i := 0) dL1_charAt_6 rfl rfl zRf_ref <| zw_iload_n (i := 1) dL1_charAt_7 rfl rfl <| zw_bald dL1_charAt_8 ha1 hi1 <| zw_sipush (255 : Int32) dL1_charAt_9 zks_255 <| zw_iand dL1_charAt_12 <| zw_i2c dL1_charAt_13 <| zw_iret dL1_charAt_14 .char rfl hn hq
theorem sL1_indexOf_0 {G : zG} {d : Nat} {Q : Option Value → Heap → Prop} {H : Heap} {st : List Value} {o0 : Option Value} {o2 : Option Value} {o3 : Option Value} {x1 : Int32} {P : Int32 → Heap → Prop} (hd : 1 ≤ d) (hl : st.length ≤ 4) (hc : zC G (d - 1) M_L1_canEncode_1 [(.int x1)] H (zPi P)) (kk : ∀ (r : Int32) (H1 : Heap), P r H1 → zOk G H1 → H.size ≤ H1.size → zT H ≤ zT H1 → zW G d M_L1_indexOf 4 [o0, some (.int x1), o2, o3] ((.int r) :: st) H1 Q) : zW G d M_L1_indexOf 0 [o0, some (.int x1), o2, o3] st H Q :=
  zw_iload_n (i := 1) dL1_indexOf_0 rfl rfl <| zw_callS [(.int x1)] _ dL1_indexOf_1 hd zk_L1_88 rfl rfl hl hc (zPi_k kk)
theorem sL1_indexOf_4 {G : zG} {d : Nat} {Q : Option Value → Heap → Prop} {H : Heap} {st : List Value} {o0 : Option Value} {o1 : Option Value} {o2 : Option Value} {o3 : Option Value} {xs0 : Int32} (kt : (¬ xs0 = 0) → zW G d M_L1_indexOf 9 [o0, o1, o2, o3] st H Q) (kf : (xs0 = 0) → zW G d M_L1_indexOf 7 [o0, o1, o2, o3] st H Q) : zW G d M_L1_indexOf 4 [o0, o1, o2, o3] ((.int xs0) :: st) H Q :=
  zw_if_ne 9 dL1_indexOf_4 (by decide) kt kf
theorem sL1_indexOf_7 {G : zG} {d : Nat} {Q : Option Value → Heap → Prop} {H : Heap} {o0 : Option Value} {o1 : Option Value} {o2 : Option Value} {o3 : Option Value} (hq : Q (some (.int (-1 : Int32))) H) : zW G d M_L1_indexOf 7 [o0, o1, o2, o3] [] H Q :=
  zw_iconst (-1 : Int32) dL1_indexOf_7 zki_m1 <| zw_iret dL1_indexOf_8 .int rfl rfl hq
theorem sL1_indexOf_9 {G : zG} {d : Nat} {Q : Option Value → Heap → Prop} {H : Heap} {st : List Value} {o0 : Option Value} {o1 : Option Value} {o3 : Option Value} {x2 : Int32} {P : Int32 → Heap → Prop} (hd : 1 ≤ d) (hl : st.length ≤ 4) (hc : zC G (d - 1) M_Ma_max [(.int x2), (.int (0 : Int32))] H (zPi P)) (kk : ∀ (r : Int32) (H1 : Heap), P r H1 → zOk G H1 → H.size ≤ H1.size → zT H ≤ zT H1 → zW G d M_L1_indexOf 14 [o0, o1, some (.int x2), o3] ((.int r) :: st) H1 Q) : zW G d M_L1_indexOf 9 [o0, o1, some (.int x2), o3] st H Q :=
  zw_iload_n (i := 2) dL1_indexOf_9 rfl rfl <| zw_iconst (0 : Int32) dL1_indexOf_10 zki_0 <| zw_callS [(.int x2), (.int (0 : Int32))] _ dL1_indexOf_11 hd zk_L1_92 rfl rfl hl hc (zPi_k kk)
theorem sL1_indexOf_14 {G : zG} {d : Nat} {Q : Option Value → Heap → Prop} {H : Heap} {st : List Value} {o1 : Option Value} {o2 : Option Value} {xs0 : Int32} {x3 : Int32} {a0 : Nat} {n1 : Nat} {t1 : FieldType} {g1 : Nat → Value} {P : Int32 → Heap → Prop} (ha1 : zArr G H a0 t1 n1 g1) (hd : 1 ≤ d) (hl : st.length ≤ 4) (hc : zC G (d - 1) M_Ma_min [(.int x3), (.int (nI n1))] H (zPi P)) (kk : ∀ (r : Int32) (H1 : Heap), P r H1 → zOk G H1 → H.size ≤ H1.size → zT H ≤ zT H1 → zW G d M_L1_indexOf 21 [some (.ref a0), o1, some (.int xs0), some (.int x3)] ((.int r) :: st) H1 Q) : zW G d M_L1_indexOf 14 [some (.ref a0), o1, o2, some (.int x3)] ((.int xs0) :: st) H Q :=
  zw_istore_n (i := 2) dL1_indexOf_14 rfl (Nat.le_of_ble_eq_true rfl) <| zw_iload_n (i := 3) dL1_indexOf_15 rfl rfl <| zw_aload_n (i := 0) dL1_indexOf_16 rfl rfl zRf_ref <| zw_alen dL1_indexOf_17 ha1 <| zw_callS [(.int x3), (.int (nI n1))] _ dL1_indexOf_18 hd zk_L1_38 rfl rfl hl hc (zPi_k kk)
theorem sL1_indexOf_21 {G : zG} {d : Nat} {Q : Option Value → Heap → Prop} {H : Heap} {st : List Value} {o0 : Option Value} {o1 : Option Value} {o3 : Option Value} {xs0 : Int32} {x2 : Int32} (kt : (x2 < xs0) → zW G d M_L1_indexOf 29 [o0, o1, some (.int x2), some (.int xs0)] st H Q) (kf : (¬ x2 < xs0) → zW G d M_L1_indexOf 27 [o0, o1, some (.int x2), some (.int xs0)] st H Q) : zW G d M_L1_indexOf 21 [o0, o1, some (.int x2), o3] ((.int xs0) :: st) H Q :=
  zw_istore_n (i := 3) dL1_indexOf_21 rfl (Nat.le_of_ble_eq_true rfl) <| zw_iload_n (i := 2) dL1_indexOf_22 rfl rfl <| zw_iload_n (i := 3) dL1_indexOf_23 rfl rfl <| zw_icmp_lt 29 dL1_indexOf_24 (by decide) kt kf
theorem sL1_indexOf_27 {G : zG} {d : Nat} {Q : Option Value → Heap → Prop} {H : Heap} {o0 : Option Value} {o1 : Option Value} {o2 : Option Value} {o3 : Option Value} (hq : Q (some (.int (-1 : Int32))) H) : zW G d M_L1_indexOf 27 [o0, o1, o2, o3] [] H Q :=
  zw_iconst (-1 : Int32) dL1_indexOf_27 zki_m1 <| zw_iret dL1_indexOf_28 .int rfl rfl hq
theorem sL1_indexOf_29 {G : zG} {d : Nat} {Q : Option Value → Heap → Prop} {H : Heap} {st : List Value} {v0 : Value} {x1 : Int32} {x2 : Int32} {x3 : Int32} {P : Int32 → Heap → Prop} (hr0 : zRf v0 := by first | exact zRf_ref | exact zRf_null | exact zRf_rf _ | assumption) (hd : 1 ≤ d) (hl : st.length ≤ 4) (hc : zC G (d - 1) M_L1_indexOfChar [v0, (.int x1), (.int x2), (.int x3)] H (zPi P)) (kk : ∀ (r : Int32) (H1 : Heap), P r H1 → zOk G H1 → H.size ≤ H1.size → zT H ≤ zT H1 → zW G d M_L1_indexOf 36 [some v0, some (.int x1), some (.int x2), some (.int x3)] ((.int r) :: st) H1 Q) : zW G d M_L1_indexOf 29 [some v0, some (.int x1), some (.int x2), some (.int x3)] st H Q :=
  zw_aload_n (i := 0) dL1_indexOf_29 rfl rfl hr0 <| zw_iload_n (i := 1) dL1_indexOf_30 rfl rfl <| zw_iload_n (i := 2) dL1_indexOf_31 rfl rfl <| zw_iload_n (i := 3) dL1_indexOf_32 rfl rfl <| zw_callS [v0, (.int x1), (.int x2), (.int x3)] _ dL1_indexOf_33 hd zk_L1_95 rfl rfl hl hc (zPi_k kk)
theorem sL1_indexOf_36 {G : zG} {d : Nat} {Q : Option Value → Heap → Prop} {H : Heap} {o0 : Option Value} {o1 : Option Value} {o2 : Option Value} {o3 : Option Value} {xs0 : Int32} (hq : Q (some (.int xs0)) H) : zW G d M_L1_indexOf 36 [o0, o1, o2, o3] ((.int xs0) :: []) H Q :=
  zw_iret dL1_indexOf_36 .int rfl rfl hq
theorem sL1_canEncode_1_0 {G : zG} {d : Nat} {Q : Option Value → Heap → Prop} {H : Heap} {st : List Value} {x0 : Int32} (kt : (x0 < 0) → zW G d M_L1_canEncode_1 15 [some (.int x0)] st H Q) (kf : (¬ x0 < 0) → zW G d M_L1_canEncode_1 4 [some (.int x0)] st H Q) : zW G d M_L1_canEncode_1 0 [some (.int x0)] st H Q :=
  zw_iload_n (i := 0) dL1_canEncode_1_0 rfl rfl <| zw_if_lt 15 dL1_canEncode_1_1 (by decide) kt kf
theorem sL1_canEncode_1_4 {G : zG} {d : Nat} {Q : Option Value → Heap → Prop} {H : Heap} {st : List Value} {x0 : Int32} (kt : ((255 : Int32) < x0) → zW G d M_L1_canEncode_1 15 [some (.int x0)] st H Q) (kf : (¬ (255 : Int32) < x0) → zW G d M_L1_canEncode_1 11 [some (.int x0)] st H Q) : zW G d M_L1_canEncode_1 4 [some (.int x0)] st H Q :=
  zw_iload_n (i := 0) dL1_canEncode_1_4 rfl rfl <| zw_sipush (255 : Int32) dL1_canEncode_1_5 zks_255 <| zw_icmp_gt 15 dL1_canEncode_1_8 (by decide) kt kf
theorem sL1_canEncode_1_11 {G : zG} {d : Nat} {Q : Option Value → Heap → Prop} {H : Heap} {o0 : Option Value} (hn : narrow .boolean (.int (1 : Int32)) = .int (1 : Int32)) (hq : Q (some (.int (1 : Int32))) H) : zW G d M_L1_canEncode_1 11 [o0] [] H Q :=
  zw_iconst (1 : Int32) dL1_canEncode_1_11 zki_1 <| zw_goto 16 dL1_canEncode_1_12 (by decide) <| zw_iret dL1_canEncode_1_16 .boolean rfl hn hq
theorem sL1_canEncode_1_15 {G : zG} {d : Nat} {Q : Option Value → Heap → Prop} {H : Heap} {o0 : Option Value} (hn : narrow .boolean (.int (0 : Int32)) = .int (0 : Int32)) (hq : Q (some (.int (0 : Int32))) H) : zW G d M_L1_canEncode_1 15 [o0] [] H Q :=
  zw_iconst (0 : Int32) dL1_canEncode_1_15 zki_0 <| zw_iret dL1_canEncode_1_16 .boolean rfl hn hq
theorem sL1_canEncode_1_16 {G : zG} {d : Nat} {Q : Option Value → Heap → Prop} {H : Heap} {o0 : Option Value} {xs0 : Int32} (hn : narrow .boolean (.int xs0) = .int xs0) (hq : Q (some (.int xs0)) H) : zW G d M_L1_canEncode_1 16 [o0] ((.int xs0) :: []) H Q :=
  zw_iret dL1_canEncode_1_16 .boolean rfl hn hq
theorem sL1_indexOfChar_0 {G : zG} {d : Nat} {Q : Option Value → Heap → Prop} {H : Heap} {st : List Value} {o0 : Option Value} {o3 : Option Value} {o4 : Option Value} {o5 : Option Value} {x1 : Int32} {x2 : Int32} (kk : zW G d M_L1_indexOfChar 7 [o0, some (.int x1), some (.int x2), o3, some (.int (x1).toInt8.toInt32), some (.int x2)] st H Q) : zW G d M_L1_indexOfChar 0 [o0, some (.int x1), some (.int x2), o3, o4, o5] st H Q :=
  zw_iload_n (i := 1) dL1_indexOfChar_0 rfl rfl <| zw_i2b dL1_indexOfChar_1 <| zw_istore (i := 4) dL1_indexOfChar_2 (Nat.le_of_ble_eq_true rfl) <| zw_iload_n (i := 2) dL1_indexOfChar_4 rfl rfl <| zw_istore (i := 5) dL1_indexOfChar_5 (Nat.le_of_ble_eq_true rfl) <| kk
theorem sL1_indexOfChar_7 {G : zG} {d : Nat} {Q : Option Value → Heap → Prop} {H : Heap} {st : List Value} {o0 : Option Value} {o1 : Option Value} {o2 : Option Value} {o4 : Option Value} {x5 : Int32} {x3 : Int32} (kt : (x3 ≤ x5) → zW G d M_L1_indexOfChar 31 [o0, o1, o2, some (.int x3), o4, some (.int x5)] st H Q) (kf : (¬ x3 ≤ x5) → zW G d M_L1_indexOfChar 13 [o0, o1, o2, some (.int x3), o4, some (.int x5)] st H Q) : zW G d M_L1_indexOfChar 7 [o0, o1, o2, some (.int x3), o4, some (.int x5)] st H Q :=
  zw_iload (i := 5) dL1_indexOfChar_7 rfl <| zw_iload_n (i := 3) dL1_indexOfChar_9 rfl rfl <| zw_icmp_ge 31 dL1_indexOfChar_10 (by decide) kt kf
theorem sL1_indexOfChar_13 {G : zG} {d : Nat} {Q : Option Value → Heap → Prop} {H : Heap} {st : List Value} {o1 : Option Value} {o2 : Option Value} {o3 : Option Value} {a0 : Nat} {x5 : Int32} {x4 : Int32} {n1 : Nat} {g1 : Nat → Int32} (ha1 : zArr G H a0 .byte n1 (fun j => .int (g1 j))) (hi1 : vp_in x5 n1) (kt : (¬ (g1 (x5).toNatClampNeg) = x4) → zW G d M_L1_indexOfChar 25 [some (.ref a0), o1, o2, o3, some (.int x4), some (.int x5)] st H Q) (kf : ((g1 (x5).toNatClampNeg) = x4) → zW G d M_L1_indexOfChar 22 [some (.ref a0), o1, o2, o3, some (.int x4), some (.int x5)] st H Q) : zW G d M_L1_indexOfChar 13 [some (.ref a0), o1, o2, o3, some (.int x4), some (.int x5)] st H Q :=
  zw_aload_n (i := 0) dL1_indexOfChar_13 rfl rfl zRf_ref <| zw_iload (i := 5) dL1_indexOfChar_14 rfl <| zw_bald dL1_indexOfChar_16 ha1 hi1 <| zw_iload (i := 4) dL1_indexOfChar_17 rfl <| zw_icmp_ne 25 dL1_indexOfChar_19 (by decide) kt kf
theorem sL1_indexOfChar_22 {G : zG} {d : Nat} {Q : Option Value → Heap → Prop} {H : Heap} {o0 : Option Value} {o1 : Option Value} {o2 : Option Value} {o3 : Option Value} {o4 : Option Value} {x5 : Int32} (hq : Q (some (.int x5)) H) : zW G d M_L1_indexOfChar 22 [o0, o1, o2, o3, o4, some (.int x5)] [] H Q :=
  zw_iload (i := 5) dL1_indexOfChar_22 rfl <| zw_iret dL1_indexOfChar_24 .int rfl rfl hq
theorem sL1_indexOfChar_25 {G : zG} {d : Nat} {Q : Option Value → Heap → Prop} {H : Heap} {st : List Value} {o0 : Option Value} {o1 : Option Value} {o2 : Option Value} {o3 : Option Value} {o4 : Option Value} {x5 : Int32} (kk : zW G d M_L1_indexOfChar 7 [o0, o1, o2, o3, o4, some (.int (x5 + (1 : Int32)))] st H Q) : zW G d M_L1_indexOfChar 25 [o0, o1, o2, o3, o4, some (.int x5)] st H Q :=
  zw_iinc (i := 5) (x5 + (1 : Int32)) dL1_indexOfChar_25 rfl (by rw [zki_1]) <| zw_goto 7 dL1_indexOfChar_28 (by decide) <| kk
theorem sL1_indexOfChar_31 {G : zG} {d : Nat} {Q : Option Value → Heap → Prop} {H : Heap} {o0 : Option Value} {o1 : Option Value} {o2 : Option Value} {o3 : Option Value} {o4 : Option Value} {o5 : Option Value} (hq : Q (some (.int (-1 : Int32))) H) : zW G d M_L1_indexOfChar 31 [o0, o1, o2, o3, o4, o5] [] H Q :=
  zw_iconst (-1 : Int32) dL1_indexOfChar_31 zki_m1 <| zw_iret dL1_indexOfChar_32 .int rfl rfl hq
theorem sL1_newString_0 {G : zG} {d : Nat} {Q : Option Value → Heap → Prop} {H : Heap} {st : List Value} {o0 : Option Value} {o1 : Option Value} {x2 : Int32} (kt : (¬ x2 = 0) → zW G d M_L1_newString 7 [o0, o1, some (.int x2)] st H Q) (kf : (x2 = 0) → zW G d M_L1_newString 4 [o0, o1, some (.int x2)] st H Q) : zW G d M_L1_newString 0 [o0, o1, some (.int x2)] st H Q :=
  zw_iload_n (i := 2) dL1_newString_0 rfl rfl <| zw_if_ne 7 dL1_newString_1 (by decide) kt kf
theorem sL1_newString_4 {G : zG} {d : Nat} {Q : Option Value → Heap → Prop} {H : Heap} {o0 : Option Value} {o1 : Option Value} {o2 : Option Value} {ak1 : Nat} (hk1 : vk_R "java/lang/StringLatin1" 151 "" ak1 (zS G)) (hq : Q (some (.ref ak1)) H) : zW G d M_L1_newString 4 [o0, o1, o2] [] H Q :=
  zw_ldcS dL1_newString_4 rfl hk1 <| zw_aret dL1_newString_6 (.object "java/lang/String") rfl (Or.inl ⟨_, rfl⟩) zRf_ref hq
theorem sL1_newString_7 {G : zG} {d : Nat} {Q : Option Value → Heap → Prop} {H : Heap} {st : List Value} {o0 : Option Value} {o1 : Option Value} {o2 : Option Value} (hc1 : H.size + 1 ≤ zCp G) (hs1 : zT H + 4 ≤ zSp G) (kk : ∀ H1 : Heap, zObj G H1 H.size 8 [.null, .int 0, .int 0, .int 0] → zNw 4 H H1 → zW G d M_L1_newString 10 [o0, o1, o2] ((.ref H.size) :: st) H1 Q) : zW G d M_L1_newString 7 [o0, o1, o2] st H Q :=
  zw_new dL1_newString_7 zn_L1_newString_1 hc1 hs1 kk
theorem sL1_newString_10 {G : zG} {d : Nat} {Q : Option Value → Heap → Prop} {H : Heap} {st : List Value} {ws0 : Value} {v0 : Value} {x1 : Int32} {x2 : Int32} {P : Value → Heap → Prop} (hcs0 : ws0.category = 1 := by first | rfl | exact zRf.cat (by assumption)) (hr0 : zRf v0 := by first | exact zRf_ref | exact zRf_null | exact zRf_rf _ | assumption) (hd : 1 ≤ d) (hl : (ws0 :: ws0 :: st).length ≤ 4) (hc : zC G (d - 1) M_Ar_copyOfRange [v0, (.int x1), (.int (x1 + x2))] H (zPr P)) (kk : ∀ (r : Value) (H1 : Heap), zRf r → P r H1 → zOk G H1 → H.size ≤ H1.size → zT H ≤ zT H1 → zW G d M_L1_newString 19 [some v0, some (.int x1), some (.int x2)] (r :: ws0 :: ws0 :: st) H1 Q) : zW G d M_L1_newString 10 [some v0, some (.int x1), some (.int x2)] (ws0 :: st) H Q :=
  zw_dup dL1_newString_10 hcs0 <| zw_aload_n (i := 0) dL1_newString_11 rfl rfl hr0 <| zw_iload_n (i := 1) dL1_newString_12 rfl rfl <| zw_iload_n (i := 1) dL1_newString_13 rfl rfl <| zw_iload_n (i := 2) dL1_newString_14 rfl rfl <| zw_iadd dL1_newString_15 <| zw_callS [v0, (.int x1), (.int (x1 + x2))] _ dL1_newString_16 hd zk_L1_232 rfl rfl hl hc (zPr_k kk)
theorem sL1_newString_19 {G : zG} {d : Nat} {Q : Option Value → Heap → Prop} {H : Heap} {st : List Value} {o0 : Option Value} {o1 : Option Value} {o2 : Option Value} {vs0 : Value} {as1 : Nat} {P : Heap → Prop} (hrs0 : zRf vs0 := by first | exact zRf_ref | exact zRf_null | exact zRf_rf _ | assumption) (hd : 1 ≤ d) (hl : st.length ≤ 4) (hc : zC G (d - 1) M_St_init_2 [(.ref as1), vs0, (.int (0 : Int32))] H (zPv P)) (kk : ∀ H1 : Heap, P H1 → zOk G H1 → H.size ≤ H1.size → zT H ≤ zT H1 → zW G d M_L1_newString 23 [o0, o1, o2] st H1 Q) : zW G d M_L1_newString 19 [o0, o1, o2] (vs0 :: (.ref as1) :: st) H Q :=
  zw_iconst (0 : Int32) dL1_newString_19 zki_0 <| zw_callI [vs0, (.int (0 : Int32))] _ dL1_newString_20 hd zk_L1_112 rfl rfl hl hc (zPv_k kk)
theorem sL1_newString_23 {G : zG} {d : Nat} {Q : Option Value → Heap → Prop} {H : Heap} {o0 : Option Value} {o1 : Option Value} {o2 : Option Value} {vs0 : Value} (hrs0 : zRf vs0 := by first | exact zRf_ref | exact zRf_null | exact zRf_rf _ | assumption) (hq : Q (some vs0) H) : zW G d M_L1_newString 23 [o0, o1, o2] (vs0 :: []) H Q :=
  zw_aret dL1_newString_23 (.object "java/lang/String") rfl (Or.inl ⟨_, rfl⟩) hrs0 hq
theorem sL1_equals_0 {G : zG} {d : Nat} {Q : Option Value → Heap → Prop} {H : Heap} {st : List Value} {o2 : Option Value} {a0 : Nat} {a1 : Nat} {n1 : Nat} {t1 : FieldType} {g1 : Nat → Value} {n2 : Nat} {t2 : FieldType} {g2 : Nat → Value} (ha1 : zArr G H a0 t1 n1 g1) (ha2 : zArr G H a1 t2 n2 g2) (kt : (¬ (nI n1) = (nI n2)) → zW G d M_L1_equals 34 [some (.ref a0), some (.ref a1), o2] st H Q) (kf : ((nI n1) = (nI n2)) → zW G d M_L1_equals 7 [some (.ref a0), some (.ref a1), o2] st H Q) : zW G d M_L1_equals 0 [some (.ref a0), some (.ref a1), o2] st H Q :=
  zw_aload_n (i := 0) dL1_equals_0 rfl rfl zRf_ref <| zw_alen dL1_equals_1 ha1 <| zw_aload_n (i := 1) dL1_equals_2 rfl rfl zRf_ref <| zw_alen dL1_equals_3 ha2 <| zw_icmp_ne 34 dL1_equals_4 (by decide) kt kf
theorem sL1_equals_7 {G : zG} {d : Nat} {Q : Option Value → Heap → Prop} {H : Heap} {st : List Value} {o0 : Option Value} {o1 : Option Value} {o2 : Option Value} (kk : zW G d M_L1_equals 9 [o0, o1, some (.int (0 : Int32))] st H Q) : zW G d M_L1_equals 7 [o0, o1, o2] st H Q :=
  zw_iconst (0 : Int32) dL1_equals_7 zki_0 <| zw_istore_n (i := 2) dL1_equals_8 rfl (Nat.le_of_ble_eq_true rfl) <| kk
theorem sL1_equals_9 {G : zG} {d : Nat} {Q : Option Value → Heap → Prop} {H : Heap} {st : List Value} {o1 : Option Value} {x2 : Int32} {a0 : Nat} {n1 : Nat} {t1 : FieldType} {g1 : Nat → Value} (ha1 : zArr G H a0 t1 n1 g1) (kt : ((nI n1) ≤ x2) → zW G d M_L1_equals 32 [some (.ref a0), o1, some (.int x2)] st H Q) (kf : (¬ (nI n1) ≤ x2) → zW G d M_L1_equals 15 [some (.ref a0), o1, some (.int x2)] st H Q) : zW G d M_L1_equals 9 [some (.ref a0), o1, some (.int x2)] st H Q :=
  zw_iload_n (i := 2) dL1_equals_9 rfl rfl <| zw_aload_n (i := 0) dL1_equals_10 rfl rfl zRf_ref <| zw_alen dL1_equals_11 ha1 <| zw_icmp_ge 32 dL1_equals_12 (by decide) kt kf
theorem sL1_equals_15 {G : zG} {d : Nat} {Q : Option Value → Heap → Prop} {H : Heap} {st : List Value} {a0 : Nat} {x2 : Int32} {a1 : Nat} {n1 : Nat} {g1 : Nat → Int32} {n2 : Nat} {g2 : Nat → Int32} (ha1 : zArr G H a0 .byte n1 (fun j => .int (g1 j))) (hi1 : vp_in x2 n1) (ha2 : zArr G H a1 .byte n2 (fun j => .int (g2 j))) (hi2 : vp_in x2 n2) (kt : ((g1 (x2).toNatClampNeg) = (g2 (x2).toNatClampNeg)) → zW G d M_L1_equals 26 [some (.ref a0), some (.ref a1), some (.int x2)] st H Q) (kf : (¬ (g1 (x2).toNatClampNeg) = (g2 (x2).toNatClampNeg)) → zW G d M_L1_equals 24 [some (.ref a0), some (.ref a1), some (.int x2)] st H Q) : zW G d M_L1_equals 15 [some (.ref a0), some (.ref a1), some (.int x2)] st H Q :=
  zw_aload_n (i := 0) dL1_equals_15 rfl rfl zRf_ref <| zw_iload_n (i := 2) dL1_equals_16 rfl rfl <| zw_bald dL1_equals_17 ha1 hi1 <| zw_aload_n (i := 1) dL1_equals_18 rfl rfl zRf_ref <| zw_iload_n (i := 2) dL1_equals_19 rfl rfl <| zw_bald dL1_equals_20 ha2 hi2 <| zw_icmp_eq 26 dL1_equals_21 (by decide) kt kf
theorem sL1_equals_24 {G : zG} {d : Nat} {Q : Option Value → Heap → Prop} {H : Heap} {o0 : Option Value} {o1 : Option Value} {o2 : Option Value} (hn : narrow .boolean (.int (0 : Int32)) = .int (0 : Int32)) (hq : Q (some (.int (0 : Int32))) H) : zW G d M_L1_equals 24 [o0, o1, o2] [] H Q :=
  zw_iconst (0 : Int32) dL1_equals_24 zki_0 <| zw_iret dL1_equals_25 .boolean rfl hn hq
theorem sL1_equals_26 {G : zG} {d : Nat} {Q : Option Value → Heap → Prop} {H : Heap} {st : List Value} {o0 : Option Value} {o1 : Option Value} {x2 : Int32} (kk : zW G d M_L1_equals 9 [o0, o1, some (.int (x2 + (1 : Int32)))] st H Q) : zW G d M_L1_equals 26 [o0, o1, some (.int x2)] st H Q :=
  zw_iinc (i := 2) (x2 + (1 : Int32)) dL1_equals_26 rfl (by rw [zki_1]) <| zw_goto 9 dL1_equals_29 (by decide) <| kk
theorem sL1_equals_32 {G : zG} {d : Nat} {Q : Option Value → Heap → Prop} {H : Heap} {o0 : Option Value} {o1 : Option Value} {o2 : Option Value} (hn : narrow .boolean (.int (1 : Int32)) = .int (1 : Int32)) (hq : Q (some (.int (1 : Int32))) H) : zW G d M_L1_equals 32 [o0, o1, o2] [] H Q :=
  zw_iconst (1 : Int32) dL1_equals_32 zki_1 <| zw_iret dL1_equals_33 .boolean rfl hn hq
theorem sL1_equals_34 {G : zG} {d : Nat} {Q : Option Value → Heap → Prop} {H : Heap} {o0 : Option Value} {o1 : Option Value} {o2 : Option Value} (hn : narrow .boolean (.int (0 : Int32)) = .int (0 : Int32)) (hq : Q (some (.int (0 : Int32))) H) : zW G d M_L1_equals 34 [o0, o1, o2] [] H Q :=
  zw_iconst (0 : Int32) dL1_equals_34 zki_0 <| zw_iret dL1_equals_35 .boolean rfl hn hq


