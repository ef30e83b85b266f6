theorem dAL_init_0 : decode prog_26_method_1_code 0 = .ok (.aload_n 0, 1) := by decide +kernel
theorem dAL_init_1 : decode prog_26_method_1_code 1 = .ok (.invokespecial 1, 3) := by decide +kernel
theorem dAL_init_4 : decode prog_26_method_1_code 4 = .ok (.aload_n 0, 1) := by decide +kernel
theorem dAL_init_5 : decode prog_26_method_1_code 5 = .ok (.iconst 0, 1) := by decide +kernel
theorem dAL_init_6 : decode prog_26_method_1_code 6 = .ok (.putfield 7, 3) := by decide +kernel
theorem dAL_init_9 : decode prog_26_method_1_code 9 = .ok (.return_, 1) := by decide +kernel
theorem dAC_init_0 : decode prog_25_method_1_code 0 = .ok (.aload_n 0, 1) := by decide +kernel
theorem dAC_init_1 : decode prog_25_method_1_code 1 = .ok (.invokespecial 1, 3) := by decide +kernel
theorem dAC_init_4 : decode prog_25_method_1_code 4 = .ok (.return_, 1) := by decide +kernel
theorem dPc_checkFromIndexSize_0 : decode prog_35_method_13_code 0 = .ok (.iload_n 2, 1) := by decide +kernel
theorem dPc_checkFromIndexSize_1 : decode prog_35_method_13_code 1 = .ok (.iload_n 0, 1) := by decide +kernel
theorem dPc_checkFromIndexSize_2 : decode prog_35_method_13_code 2 = .ok (.ior, 1) := by decide +kernel
theorem dPc_checkFromIndexSize_3 : decode prog_35_method_13_code 3 = .ok (.iload_n 1, 1) := by decide +kernel
theorem dPc_checkFromIndexSize_4 : decode prog_35_method_13_code 4 = .ok (.ior, 1) := by decide +kernel
theorem dPc_checkFromIndexSize_5 : decode prog_35_method_13_code 5 = .ok (.ifCond .lt 10, 3) := by decide +kernel
theorem dPc_checkFromIndexSize_8 : decode prog_35_method_13_code 8 = .ok (.iload_n 1, 1) := by decide +kernel
theorem dPc_checkFromIndexSize_9 : decode prog_35_method_13_code 9 = .ok (.iload_n 2, 1) := by decide +kernel
theorem dPc_checkFromIndexSize_10 : decode prog_35_method_13_code 10 = .ok (.iload_n 0, 1) := by decide +kernel
theorem dPc_checkFromIndexSize_11 : decode prog_35_method_13_code 11 = .ok (.isub, 1) := by decide +kernel
theorem dPc_checkFromIndexSize_12 : decode prog_35_method_13_code 12 = .ok (.if_icmp .le 11, 3) := by decide +kernel
theorem dPc_checkFromIndexSize_15 : decode prog_35_method_13_code 15 = .ok (.aload_n 3, 1) := by decide +kernel
theorem dPc_checkFromIndexSize_16 : decode prog_35_method_13_code 16 = .ok (.iload_n 0, 1) := by decide +kernel
theorem dPc_checkFromIndexSize_17 : decode prog_35_method_13_code 17 = .ok (.iload_n 1, 1) := by decide +kernel
theorem dPc_checkFromIndexSize_18 : decode prog_35_method_13_code 18 = .ok (.iload_n 2, 1) := by decide +kernel
theorem dPc_checkFromIndexSize_23 : decode prog_35_method_13_code 23 = .ok (.iload_n 0, 1) := by decide +kernel
theorem dPc_checkFromIndexSize_24 : decode prog_35_method_13_code 24 = .ok (.ireturn, 1) := by decide +kernel
theorem dPc_checkIndex_0 : decode prog_35_method_11_code 0 = .ok (.iload_n 0, 1) := by decide +kernel
theorem dPc_checkIndex_1 : decode prog_35_method_11_code 1 = .ok (.ifCond .lt 8, 3) := by decide +kernel
theorem dPc_checkIndex_4 : decode prog_35_method_11_code 4 = .ok (.iload_n 0, 1) := by decide +kernel
theorem dPc_checkIndex_5 : decode prog_35_method_11_code 5 = .ok (.iload_n 1, 1) := by decide +kernel
theorem dPc_checkIndex_6 : decode prog_35_method_11_code 6 = .ok (.if_icmp .lt 10, 3) := by decide +kernel
theorem dPc_checkIndex_9 : decode prog_35_method_11_code 9 = .ok (.aload_n 2, 1) := by decide +kernel
theorem dPc_checkIndex_10 : decode prog_35_method_11_code 10 = .ok (.iload_n 0, 1) := by decide +kernel
theorem dPc_checkIndex_11 : decode prog_35_method_11_code 11 = .ok (.iload_n 1, 1) := by decide +kernel
theorem dPc_checkIndex_16 : decode prog_35_method_11_code 16 = .ok (.iload_n 0, 1) := by decide +kernel
theorem dPc_checkIndex_17 : decode prog_35_method_11_code 17 = .ok (.ireturn, 1) := by decide +kernel
theorem dPc_checkFromToIndex_0 : decode prog_35_method_12_code 0 = .ok (.iload_n 0, 1) := by decide +kernel
theorem dPc_checkFromToIndex_1 : decode prog_35_method_12_code 1 = .ok (.ifCond .lt 13, 3) := by decide +kernel
theorem dPc_checkFromToIndex_4 : decode prog_35_method_12_code 4 = .ok (.iload_n 0, 1) := by decide +kernel
theorem dPc_checkFromToIndex_5 : decode prog_35_method_12_code 5 = .ok (.iload_n 1, 1) := by decide +kernel
theorem dPc_checkFromToIndex_6 : decode prog_35_method_12_code 6 = .ok (.if_icmp .gt 8, 3) := by decide +kernel
theorem dPc_checkFromToIndex_9 : decode prog_35_method_12_code 9 = .ok (.iload_n 1, 1) := by decide +kernel
theorem dPc_checkFromToIndex_10 : decode prog_35_method_12_code 10 = .ok (.iload_n 2, 1) := by decide +kernel
theorem dPc_checkFromToIndex_11 : decode prog_35_method_12_code 11 = .ok (.if_icmp .le 11, 3) := by decide +kernel
theorem dPc_checkFromToIndex_14 : decode prog_35_method_12_code 14 = .ok (.aload_n 3, 1) := by decide +kernel
theorem dPc_checkFromToIndex_15 : decode prog_35_method_12_code 15 = .ok (.iload_n 0, 1) := by decide +kernel
theorem dPc_checkFromToIndex_16 : decode prog_35_method_12_code 16 = .ok (.iload_n 1, 1) := by decide +kernel
theorem dPc_checkFromToIndex_17 : decode prog_35_method_12_code 17 = .ok (.iload_n 2, 1) := by decide +kernel
theorem dPc_checkFromToIndex_22 : decode prog_35_method_12_code 22 = .ok (.iload_n 0, 1) := by decide +kernel
theorem dPc_checkFromToIndex_23 : decode prog_35_method_12_code 23 = .ok (.ireturn, 1) := by decide +kernel
theorem dOb_checkIndex_0 : decode prog_31_method_17_code 0 = .ok (.iload_n 0, 1) := by decide +kernel
theorem dOb_checkIndex_1 : decode prog_31_method_17_code 1 = .ok (.iload_n 1, 1) := by decide +kernel
theorem dOb_checkIndex_2 : decode prog_31_method_17_code 2 = .ok (.aconst_null, 1) := by decide +kernel
theorem dOb_checkIndex_3 : decode prog_31_method_17_code 3 = .ok (.invokestatic 105, 3) := by decide +kernel
theorem dOb_checkIndex_6 : decode prog_31_method_17_code 6 = .ok (.ireturn, 1) := by decide +kernel
theorem zk_AL_1 : zLkI "java/util/AbstractList" 1 M_AC_init 0 := ⟨zc_AC_init, rfl, rfl, zt1 171 rfl, Or.inl (zt1 170 rfl)⟩
theorem zf_AL_7 : zFl "java/util/AbstractList" 7 5 2 := ⟨_, _, _, "java/util/AbstractList", rfl, Nat.le_of_ble_eq_true rfl, in_Al, Or.inl (zt1 178 rfl), Or.inl rfl⟩
theorem zp_AL_init_7 : zPf M_AL_init 7 5 2 .int := ⟨zf_AL_7, _, _, _, ty_Al, rfl, tyok_Al, nm_Al, rfl, Or.inl rfl⟩
theorem zk_Ob_105 : zLkS "java/util/Objects" 105 M_Pc_checkIndex 3 := ⟨zc_Pc_checkIndex, zt2 132 rfl, Or.inl (zt4 104 rfl)⟩
theorem sAL_init_0 {G : zG} {d : Nat} {Q : Option Value → Heap → Prop} {H : Heap} {st : List Value} {a0 : Nat} {P : Heap → Prop} (hd : 1 ≤ d) (hl : st.length ≤ 4) (hc : zC G (d - 1) M_AC_init [(.ref a0)] H (zPv P)) (kk : ∀ H1 : Heap, P H1 → zOk G H1 → H.size ≤ H1.size → zT H ≤ zT H1 → zW G d M_AL_init 4 [some (.ref a0)] st H1 Q) : zW G d M_AL_init 0 [some (.ref a0)] st H Q :=
  zw_aload_n (i := 0) dAL_init_0 rfl rfl zRf_ref <| zw_callI [] _ dAL_init_1 hd zk_AL_1 rfl rfl hl hc (zPv_k kk)
theorem sAL_init_4 {G : zG} {d : Nat} {Q : Option Value → Heap → Prop} {H : Heap} {st : List Value} {a0 : Nat} {b0 : Value} {b1 : Value} {b2 : Value} (ho : zObj G H a0 5 [b0, b1, b2]) (hw : zFr G a0) (kk : ∀ H1 : Heap, zObj G H1 a0 5 [b0, b1, (.int (0 : Int32))] → zUp a0 H H1 → zW G d M_AL_init 9 [some (.ref a0)] st H1 Q) : zW G d M_AL_init 4 [some (.ref a0)] st H Q :=
  zw_aload_n (i := 0) dAL_init_4 rfl rfl zRf_ref <| zw_iconst (0 : Int32) dAL_init_5 zki_0 <| zw_putf (k := 2) dAL_init_6 zp_AL_init_7 ho (Nat.le_of_ble_eq_true rfl) (Nat.le_of_ble_eq_true rfl) hw rfl rfl kk
theorem sAL_init_9 {G : zG} {d : Nat} {Q : Option Value → Heap → Prop} {H : Heap} {o0 : Option Value} (hq : Q none H) : zW G d M_AL_init 9 [o0] [] H Q :=
  zw_vret dAL_init_9 rfl hq
theorem sAC_init_0 {G : zG} {d : Nat} {Q : Option Value → Heap → Prop} {H : Heap} {st : List Value} {a0 : Nat} (hd : 1 ≤ d) (hl : st.length ≤ 4) (kk : zW G d M_AC_init 4 [some (.ref a0)] st H Q) : zW G d M_AC_init 0 [some (.ref a0)] st H Q :=
  zw_aload_n (i := 0) dAC_init_0 rfl rfl zRf_ref <| zw_objInit dAC_init_1 hd (zt1 173 rfl) zo_inst zo_code hl kk
theorem sAC_init_4 {G : zG} {d : Nat} {Q : Option Value → Heap → Prop} {H : Heap} {o0 : Option Value} (hq : Q none H) : zW G d M_AC_init 4 [o0] [] H Q :=
  zw_vret dAC_init_4 rfl hq
theorem sPc_checkFromIndexSize_0 {G : zG} {d : Nat} {Q : Option Value → Heap → Prop} {H : Heap} {st : List Value} {o3 : Option Value} {x2 : Int32} {x0 : Int32} {x1 : Int32} (kt : (((x2 ||| x0) ||| x1) < 0) → zW G d M_Pc_checkFromIndexSize 15 [some (.int x0), some (.int x1), some (.int x2), o3] st H Q) (kf : (¬ ((x2 ||| x0) ||| x1) < 0) → zW G d M_Pc_checkFromIndexSize 8 [some (.int x0), some (.int x1), some (.int x2), o3] st H Q) : zW G d M_Pc_checkFromIndexSize 0 [some (.int x0), some (.int x1), some (.int x2), o3] st H Q :=
  zw_iload_n (i := 2) dPc_checkFromIndexSize_0 rfl rfl <| zw_iload_n (i := 0) dPc_checkFromIndexSize_1 rfl rfl <| zw_ior dPc_checkFromIndexSize_2 <| zw_iload_n (i := 1) dPc_checkFromIndexSize_3 rfl rfl <| zw_ior dPc_checkFromIndexSize_4 <| zw_if_lt 15 dPc_checkFromIndexSize_5 (by decide) kt kf
theorem sPc_checkFromIndexSize_8 {G : zG} {d : Nat} {Q : Option Value → Heap → Prop} {H : Heap} {st : List Value} {o3 : Option Value} {x1 : Int32} {x2 : Int32} {x0 : Int32} (kt : (x1 ≤ (x2 - x0)) → zW G d M_Pc_checkFromIndexSize 23 [some (.int x0), some (.int x1), some (.int x2), o3] st H Q) (kf : (¬ x1 ≤ (x2 - x0)) → zW G d M_Pc_checkFromIndexSize 15 [some (.int x0), some (.int x1), some (.int x2), o3] st H Q) : zW G d M_Pc_checkFromIndexSize 8 [some (.int x0), some (.int x1), some (.int x2), o3] st H Q :=
  zw_iload_n (i := 1) dPc_checkFromIndexSize_8 rfl rfl <| zw_iload_n (i := 2) dPc_checkFromIndexSize_9 rfl rfl <| zw_iload_n (i := 0) dPc_checkFromIndexSize_10 rfl rfl <| zw_isub dPc_checkFromIndexSize_11 <| zw_icmp_le 23 dPc_checkFromIndexSize_12 (by decide) kt kf
theorem sPc_checkFromIndexSize_15 {G : zG} {d : Nat} {Q : Option Value → Heap → Prop} {H : Heap} {st : List Value} {v3 : Value} {x0 : Int32} {x1 : Int32} {x2 : Int32} (hr3 : zRf v3 := by first | exact zRf_ref | exact zRf_null | exact zRf_rf _ | assumption) (kk : zW G d M_Pc_checkFromIndexSize 19 [some (.int x0), some (.int x1), some (.int x2), some v3] ((.int x2) :: (.int x1) :: (.int x0) :: v3 :: st) H Q) : zW G d M_Pc_checkFromIndexSize 15 [some (.int x0), some (.int x1), some (.int x2), some v3] st H Q :=
  zw_aload_n (i := 3) dPc_checkFromIndexSize_15 rfl rfl hr3 <| zw_iload_n (i := 0) dPc_checkFromIndexSize_16 rfl rfl <| zw_iload_n (i := 1) dPc_checkFromIndexSize_17 rfl rfl <| zw_iload_n (i := 2) dPc_checkFromIndexSize_18 rfl rfl <| kk
theorem sPc_checkFromIndexSize_23 {G : zG} {d : Nat} {Q : Option Value → Heap → Prop} {H : Heap} {o1 : Option Value} {o2 : Option Value} {o3 : Option Value} {x0 : Int32} (hq : Q (some (.int x0)) H) : zW G d M_Pc_checkFromIndexSize 23 [some (.int x0), o1, o2, o3] [] H Q :=
  zw_iload_n (i := 0) dPc_checkFromIndexSize_23 rfl rfl <| zw_iret dPc_checkFromIndexSize_24 .int rfl rfl hq
theorem sPc_checkIndex_0 {G : zG} {d : Nat} {Q : Option Value → Heap → Prop} {H : Heap} {st : List Value} {o1 : Option Value} {o2 : Option Value} {x0 : Int32} (kt : (x0 < 0) → zW G d M_Pc_checkIndex 9 [some (.int x0), o1, o2] st H Q) (kf : (¬ x0 < 0) → zW G d M_Pc_checkIndex 4 [some (.int x0), o1, o2] st H Q) : zW G d M_Pc_checkIndex 0 [some (.int x0), o1, o2] st H Q :=
  zw_iload_n (i := 0) dPc_checkIndex_0 rfl rfl <| zw_if_lt 9 dPc_checkIndex_1 (by decide) kt kf
theorem sPc_checkIndex_4 {G : zG} {d : Nat} {Q : Option Value → Heap → Prop} {H : Heap} {st : List Value} {o2 : Option Value} {x0 : Int32} {x1 : Int32} (kt : (x0 < x1) → zW G d M_Pc_checkIndex 16 [some (.int x0), some (.int x1), o2] st H Q) (kf : (¬ x0 < x1) → zW G d M_Pc_checkIndex 9 [some (.int x0), some (.int x1), o2] st H Q) : zW G d M_Pc_checkIndex 4 [some (.int x0), some (.int x1), o2] st H Q :=
  zw_iload_n (i := 0) dPc_checkIndex_4 rfl rfl <| zw_iload_n (i := 1) dPc_checkIndex_5 rfl rfl <| zw_icmp_lt 16 dPc_checkIndex_6 (by decide) kt kf
theorem sPc_checkIndex_9 {G : zG} {d : Nat} {Q : Option Value → Heap → Prop} {H : Heap} {st : List Value} {v2 : Value} {x0 : Int32} {x1 : Int32} (hr2 : zRf v2 := by first | exact zRf_ref | exact zRf_null | exact zRf_rf _ | assumption) (kk : zW G d M_Pc_checkIndex 12 [some (.int x0), some (.int x1), some v2] ((.int x1) :: (.int x0) :: v2 :: st) H Q) : zW G d M_Pc_checkIndex 9 [some (.int x0), some (.int x1), some v2] st H Q :=
  zw_aload_n (i := 2) dPc_checkIndex_9 rfl rfl hr2 <| zw_iload_n (i := 0) dPc_checkIndex_10 rfl rfl <| zw_iload_n (i := 1) dPc_checkIndex_11 rfl rfl <| kk
theorem sPc_checkIndex_16 {G : zG} {d : Nat} {Q : Option Value → Heap → Prop} {H : Heap} {o1 : Option Value} {o2 : Option Value} {x0 : Int32} (hq : Q (some (.int x0)) H) : zW G d M_Pc_checkIndex 16 [some (.int x0), o1, o2] [] H Q :=
  zw_iload_n (i := 0) dPc_checkIndex_16 rfl rfl <| zw_iret dPc_checkIndex_17 .int rfl rfl hq
theorem sPc_checkFromToIndex_0 {G : zG} {d : Nat} {Q : Option Value → Heap → Prop} {H : Heap} {st : List Value} {o1 : Option Value} {o2 : Option Value} {o3 : Option Value} {x0 : Int32} (kt : (x0 < 0) → zW G d M_Pc_checkFromToIndex 14 [some (.int x0), o1, o2, o3] st H Q) (kf : (¬ x0 < 0) → zW G d M_Pc_checkFromToIndex 4 [some (.int x0), o1, o2, o3] st H Q) : zW G d M_Pc_checkFromToIndex 0 [some (.int x0), o1, o2, o3] st H Q :=
  zw_iload_n (i := 0) dPc_checkFromToIndex_0 rfl rfl <| zw_if_lt 14 dPc_checkFromToIndex_1 (by decide) kt kf
theorem sPc_checkFromToIndex_4 {G : zG} {d : Nat} {Q : Option Value → Heap → Prop} {H : Heap} {st : List Value} {o2 : Option Value} {o3 : Option Value} {x0 : Int32} {x1 : Int32} (kt : (x1 < x0) → zW G d M_Pc_checkFromToIndex 14 [some (.int x0), some (.int x1), o2, o3] st H Q) (kf : (¬ x1 < x0) → zW G d M_Pc_checkFromToIndex 9 [some (.int x0), some (.int x1), o2, o3] st H Q) : zW G d M_Pc_checkFromToIndex 4 [some (.int x0), some (.int x1), o2, o3] st H Q :=
  zw_iload_n (i := 0) dPc_checkFromToIndex_4 rfl rfl <| zw_iload_n (i := 1) dPc_checkFromToIndex_5 rfl rfl <| zw_icmp_gt 14 dPc_checkFromToIndex_6 (by decide) kt kf
theorem sPc_checkFromToIndex_9 {G : zG} {d : Nat} {Q : Option Value → Heap → Prop} {H : Heap} {st : List Value} {o0 : Option Value} {o3 : Option Value} {x1 : Int32} {x2 : Int32} (kt : (x1 ≤ x2) → zW G d M_Pc_checkFromToIndex 22 [o0, some (.int x1), some (.int x2), o3] st H Q) (kf : (¬ x1 ≤ x2) → zW G d M_Pc_checkFromToIndex 14 [o0, some (.int x1), some (.int x2), o3] st H Q) : zW G d M_Pc_checkFromToIndex 9 [o0, some (.int x1), some (.int x2), o3] st H Q :=
  zw_iload_n (i := 1) dPc_checkFromToIndex_9 rfl rfl <| zw_iload_n (i := 2) dPc_checkFromToIndex_10 rfl rfl <| zw_icmp_le 22 dPc_checkFromToIndex_11 (by decide) kt kf
theorem sPc_checkFromToIndex_14 {G : zG} {d : Nat} {Q : Option Value → Heap → Prop} {H : Heap} {st : List Value} {v3 : Value} {x0 : Int32} {x1 : Int32} {x2 : Int32} (hr3 : zRf v3 := by first | exact zRf_ref | exact zRf_null | exact zRf_rf _ | assumption) (kk : zW G d M_Pc_checkFromToIndex 18 [some (.int x0), some (.int x1), some (.int x2), some v3] ((.int x2) :: (.int x1) :: (.int x0) :: v3 :: st) H Q) : zW G d M_Pc_checkFromToIndex 14 [some (.int x0), some (.int x1), some (.int x2), some v3] st H Q :=
  zw_aload_n (i := 3) dPc_checkFromToIndex_14 rfl rfl hr3 <| zw_iload_n (i := 0) dPc_checkFromToIndex_15 rfl rfl <| zw_iload_n (i := 1) dPc_checkFromToIndex_16 rfl rfl <| zw_iload_n (i := 2) dPc_checkFromToIndex_17 rfl rfl <| kk
theorem sPc_checkFromToIndex_22 {G : zG} {d : Nat} {Q : Option Value → Heap → Prop} {H : Heap} {o1 : Option Value} {o2 : Option Value} {o3 : Option Value} {x0 : Int32} (hq : Q (some (.int x0)) H) : zW G d M_Pc_checkFromToIndex 22 [some (.int x0), o1, o2, o3] [] H Q :=
  zw_iload_n (i := 0) dPc_checkFromToIndex_22 rfl rfl <| zw_iret dPc_checkFromToIndex_23 .int rfl rfl hq
theorem sOb_checkIndex_0 {G : zG} {d : Nat} {Q : Option Value → Heap → Prop} {H : Heap} {st : List Value} {x0 : Int32} {x1 : Int32} {P : Int32 → Heap → Prop} (hd : 1 ≤ d) (hl : st.length ≤ 4) (hc : zC G (d - 1) M_Pc_checkIndex [(.int x0), (.int x1), .null] H (zPi P)) (kk : ∀ (r : Int32) (H1 : Heap), P r H1 → zOk G H1 → H.size ≤ H1.size → zT H ≤ zT H1 → zW G d M_Ob_checkIndex 6 [some (.int x0), some (.int x1)] ((.int r) :: st) H1 Q) : zW G d M_Ob_checkIndex 0 [some (.int x0), some (.int x1)] st H Q :=
  zw_iload_n (i := 0) dOb_checkIndex_0 rfl rfl <| zw_iload_n (i := 1) dOb_checkIndex_1 rfl rfl <| zw_null dOb_checkIndex_2 <| zw_callS [(.int x0), (.int x1), .null] _ dOb_checkIndex_3 hd zk_Ob_105 rfl rfl hl hc (zPi_k kk)
theorem sOb_checkIndex_6 {G : zG} {d : Nat} {Q : Option Value → Heap → Prop} {H : Heap} {o0 : Option Value} {o1 : Option Value} {xs0 : Int32} (hq : Q (some (.int xs0)) H) : zW G d M_Ob_checkIndex 6 [o0, o1] ((.int xs0) :: []) H Q :=
  zw_iret dOb_checkIndex_6 .int rfl rfl hq

