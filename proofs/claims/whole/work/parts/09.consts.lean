theorem zkb_10 : (Int8.ofInt 10).toInt32 = 10 := by decide +kernel
theorem zkb_101 : (Int8.ofInt 101).toInt32 = 101 := by decide +kernel
theorem zkb_104 : (Int8.ofInt 104).toInt32 = 104 := by decide +kernel
theorem zkb_108 : (Int8.ofInt 108).toInt32 = 108 := by decide +kernel
theorem zkb_109 : (Int8.ofInt 109).toInt32 = 109 := by decide +kernel
theorem zkb_110 : (Int8.ofInt 110).toInt32 = 110 := by decide +kernel
theorem zkb_111 : (Int8.ofInt 111).toInt32 = 111 := by decide +kernel
theorem zkb_117 : (Int8.ofInt 117).toInt32 = 117 := by decide +kernel
theorem zkb_12 : (Int8.ofInt 12).toInt32 = 12 := by decide +kernel
theorem zkb_122 : (Int8.ofInt 122).toInt32 = 122 := by decide +kernel
theorem zkb_126 : (Int8.ofInt 126).toInt32 = 126 := by decide +kernel
theorem zkb_16 : (Int8.ofInt 16).toInt32 = 16 := by decide +kernel
theorem zkb_18 : (Int8.ofInt 18).toInt32 = 18 := by decide +kernel
theorem zkb_20 : (Int8.ofInt 20).toInt32 = 20 := by decide +kernel
theorem zkb_24 : (Int8.ofInt 24).toInt32 = 24 := by decide +kernel
theorem zkb_26 : (Int8.ofInt 26).toInt32 = 26 := by decide +kernel
theorem zkb_32 : (Int8.ofInt 32).toInt32 = 32 := by decide +kernel
theorem zkb_35 : (Int8.ofInt 35).toInt32 = 35 := by decide +kernel
theorem zkb_38 : (Int8.ofInt 38).toInt32 = 38 := by decide +kernel
theorem zkb_40 : (Int8.ofInt 40).toInt32 = 40 := by decide +kernel
theorem zkb_41 : (Int8.ofInt 41).toInt32 = 41 := by decide +kernel
theorem zkb_43 : (Int8.ofInt 43).toInt32 = 43 := by decide +kernel
theorem zkb_45 : (Int8.ofInt 45).toInt32 = 45 := by decide +kernel
theorem zkb_46 : (Int8.ofInt 46).toInt32 = 46 := by decide +kernel
theorem zkb_47 : (Int8.ofInt 47).toInt32 = 47 := by decide +kernel
theorem zkb_48 : (Int8.ofInt 48).toInt32 = 48 := by decide +kernel
theorem zkb_57 : (Int8.ofInt 57).toInt32 = 57 := by decide +kernel
theorem zkb_58 : (Int8.ofInt 58).toInt32 = 58 := by decide +kernel
theorem zkb_59 : (Int8.ofInt 59).toInt32 = 59 := by decide +kernel
theorem zkb_6 : (Int8.ofInt 6).toInt32 = 6 := by decide +kernel
theorem zkb_61 : (Int8.ofInt 61).toInt32 = 61 := by decide +kernel
theorem zkb_63 : (Int8.ofInt 63).toInt32 = 63 := by decide +kernel
theorem zkb_66 : (Int8.ofInt 66).toInt32 = 66 := by decide +kernel
theorem zkb_7 : (Int8.ofInt 7).toInt32 = 7 := by decide +kernel
theorem zkb_8 : (Int8.ofInt 8).toInt32 = 8 := by decide +kernel
theorem zkb_95 : (Int8.ofInt 95).toInt32 = 95 := by decide +kernel
theorem zkb_96 : (Int8.ofInt 96).toInt32 = 96 := by decide +kernel
theorem zkb_97 : (Int8.ofInt 97).toInt32 = 97 := by decide +kernel
theorem zki_0 : Int32.ofInt 0 = 0 := by decide +kernel
theorem zki_1 : Int32.ofInt 1 = 1 := by decide +kernel
theorem zki_2 : Int32.ofInt 2 = 2 := by decide +kernel
theorem zki_3 : Int32.ofInt 3 = 3 := by decide +kernel
theorem zki_4 : Int32.ofInt 4 = 4 := by decide +kernel
theorem zki_5 : Int32.ofInt 5 = 5 := by decide +kernel
theorem zki_m1 : Int32.ofInt (-1) = (-1) := by decide +kernel
theorem zki_m8 : Int32.ofInt (-8) = (-8) := by decide +kernel
theorem zks_1000 : (Int16.ofInt 1000).toInt32 = 1000 := by decide +kernel
theorem zks_135 : (Int16.ofInt 135).toInt32 = 135 := by decide +kernel
theorem zks_150 : (Int16.ofInt 150).toInt32 = 150 := by decide +kernel
theorem zks_1500 : (Int16.ofInt 1500).toInt32 = 1500 := by decide +kernel
theorem zks_192 : (Int16.ofInt 192).toInt32 = 192 := by decide +kernel
theorem zks_1980 : (Int16.ofInt 1980).toInt32 = 1980 := by decide +kernel
theorem zks_2000 : (Int16.ofInt 2000).toInt32 = 2000 := by decide +kernel
theorem zks_2100 : (Int16.ofInt 2100).toInt32 = 2100 := by decide +kernel
theorem zks_2200 : (Int16.ofInt 2200).toInt32 = 2200 := by decide +kernel
theorem zks_255 : (Int16.ofInt 255).toInt32 = 255 := by decide +kernel
theorem zks_30000 : (Int16.ofInt 30000).toInt32 = 30000 := by decide +kernel
theorem zks_400 : (Int16.ofInt 400).toInt32 = 400 := by decide +kernel
theorem zks_4035 : (Int16.ofInt 4035).toInt32 = 4035 := by decide +kernel
theorem zks_480 : (Int16.ofInt 480).toInt32 = 480 := by decide +kernel
theorem zks_585 : (Int16.ofInt 585).toInt32 = 585 := by decide +kernel
theorem zks_602 : (Int16.ofInt 602).toInt32 = 602 := by decide +kernel
theorem zks_750 : (Int16.ofInt 750).toInt32 = 750 := by decide +kernel
theorem zks_751 : (Int16.ofInt 751).toInt32 = 751 := by decide +kernel
theorem zks_752 : (Int16.ofInt 752).toInt32 = 752 := by decide +kernel
theorem zks_753 : (Int16.ofInt 753).toInt32 = 753 := by decide +kernel
theorem zks_754 : (Int16.ofInt 754).toInt32 = 754 := by decide +kernel
theorem zks_755 : (Int16.ofInt 755).toInt32 = 755 := by decide +kernel
theorem zks_756 : (Int16.ofInt 756).toInt32 = 756 := by decide +kernel
theorem zks_8000 : (Int16.ofInt 8000).toInt32 = 8000 := by decide +kernel
theorem zks_9900 : (Int16.ofInt 9900).toInt32 = 9900 := by decide +kernel
theorem zks_m1000 : (Int16.ofInt (-1000)).toInt32 = (-1000) := by decide +kernel
theorem zc_N_init : zCl M_N_init 0 := ⟨zt1 32 rfl, zt1 1 rfl, ⟨by decide +kernel, by decide +kernel⟩, by decide +kernel, Nat.le_of_ble_eq_true rfl⟩
theorem zc_Sb_init : zCl M_Sb_init 0 := ⟨zt1 40 rfl, zt1 3 rfl, ⟨by decide +kernel, by decide +kernel⟩, by decide +kernel, Nat.le_of_ble_eq_true rfl⟩
theorem zc_Ab_init : zCl M_Ab_init 1 := ⟨zt1 43 rfl, zt1 2 rfl, ⟨by decide +kernel, by decide +kernel⟩, by decide +kernel, Nat.le_of_ble_eq_true rfl⟩
theorem zc_U16_newBytesFor : zCl M_U16_newBytesFor 1 := ⟨zt1 49 rfl, zt1 5 rfl, ⟨by decide +kernel, by decide +kernel⟩, by decide +kernel, Nat.le_of_ble_eq_true rfl⟩
theorem zc_U16_newBytesLength : zCl M_U16_newBytesLength 1 := ⟨zt1 52 rfl, zt1 5 rfl, ⟨by decide +kernel, by decide +kernel⟩, by decide +kernel, Nat.le_of_ble_eq_true rfl⟩
theorem zc_Ad_init : zCl M_Ad_init 4 := ⟨zt1 76 rfl, zt1 6 rfl, ⟨by decide +kernel, by decide +kernel⟩, by decide +kernel, Nat.le_of_ble_eq_true rfl⟩
theorem zc_Fl_init : zCl M_Fl_init 0 := ⟨zt1 101 rfl, zt1 8 rfl, ⟨by decide +kernel, by decide +kernel⟩, by decide +kernel, Nat.le_of_ble_eq_true rfl⟩
theorem zc_An_init : zCl M_An_init 3 := ⟨zt1 130 rfl, zt1 7 rfl, ⟨by decide +kernel, by decide +kernel⟩, by decide +kernel, Nat.le_of_ble_eq_true rfl⟩
theorem zc_Al_init : zCl M_Al_init 0 := ⟨zt1 166 rfl, zt1 11 rfl, ⟨by decide +kernel, by decide +kernel⟩, by decide +kernel, Nat.le_of_ble_eq_true rfl⟩
theorem zc_AL_init : zCl M_AL_init 0 := ⟨zt1 169 rfl, zt1 10 rfl, ⟨by decide +kernel, by decide +kernel⟩, by decide +kernel, Nat.le_of_ble_eq_true rfl⟩
theorem zc_AC_init : zCl M_AC_init 0 := ⟨zt1 172 rfl, zt1 9 rfl, ⟨by decide +kernel, by decide +kernel⟩, by decide +kernel, Nat.le_of_ble_eq_true rfl⟩
theorem zc_Jr_init : zCl M_Jr_init 0 := ⟨zt1 192 rfl, zt1 12 rfl, ⟨by decide +kernel, by decide +kernel⟩, by decide +kernel, Nat.le_of_ble_eq_true rfl⟩
theorem zc_Kp_init : zCl M_Kp_init 0 := ⟨zt1 204 rfl, zt1 13 rfl, ⟨by decide +kernel, by decide +kernel⟩, by decide +kernel, Nat.le_of_ble_eq_true rfl⟩
theorem zc_N_feed : zCl M_N_feed 5 := ⟨zt2 27 rfl, zt1 1 rfl, ⟨by decide +kernel, by decide +kernel⟩, by decide +kernel, Nat.le_of_ble_eq_true rfl⟩
theorem zc_Sb_length : zCl M_Sb_length 0 := ⟨zt2 31 rfl, zt1 3 rfl, ⟨by decide +kernel, by decide +kernel⟩, by decide +kernel, Nat.le_of_ble_eq_true rfl⟩
theorem zc_Ab_length : zCl M_Ab_length 0 := ⟨zt2 34 rfl, zt1 2 rfl, ⟨by decide +kernel, by decide +kernel⟩, by decide +kernel, Nat.le_of_ble_eq_true rfl⟩
theorem zc_N_addWord : zCl M_N_addWord 1 := ⟨zt2 38 rfl, zt1 1 rfl, ⟨by decide +kernel, by decide +kernel⟩, by decide +kernel, Nat.le_of_ble_eq_true rfl⟩
theorem zc_Sb_append_0 : zCl M_Sb_append_0 1 := ⟨zt2 42 rfl, zt1 3 rfl, ⟨by decide +kernel, by decide +kernel⟩, by decide +kernel, Nat.le_of_ble_eq_true rfl⟩
theorem zc_Ab_append_0 : zCl M_Ab_append_0 1 := ⟨zt2 45 rfl, zt1 2 rfl, ⟨by decide +kernel, by decide +kernel⟩, by decide +kernel, Nat.le_of_ble_eq_true rfl⟩
theorem zc_Ab_ensureCapacityInternal : zCl M_Ab_ensureCapacityInternal 1 := ⟨zt2 49 rfl, zt1 2 rfl, ⟨by decide +kernel, by decide +kernel⟩, by decide +kernel, Nat.le_of_ble_eq_true rfl⟩
theorem zc_Ab_newCapacity : zCl M_Ab_newCapacity 1 := ⟨zt2 53 rfl, zt1 2 rfl, ⟨by decide +kernel, by decide +kernel⟩, by decide +kernel, Nat.le_of_ble_eq_true rfl⟩
theorem zc_AS_newLength : zCl M_AS_newLength 3 := ⟨zt2 56 rfl, zt1 15 rfl, ⟨by decide +kernel, by decide +kernel⟩, by decide +kernel, Nat.le_of_ble_eq_true rfl⟩
theorem zc_Ma_max : zCl M_Ma_max 2 := ⟨zt2 59 rfl, zt1 16 rfl, ⟨by decide +kernel, by decide +kernel⟩, by decide +kernel, Nat.le_of_ble_eq_true rfl⟩
theorem zc_AS_hugeLength : zCl M_AS_hugeLength 2 := ⟨zt2 63 rfl, zt1 15 rfl, ⟨by decide +kernel, by decide +kernel⟩, by decide +kernel, Nat.le_of_ble_eq_true rfl⟩
theorem zc_Ar_copyOf_0 : zCl M_Ar_copyOf_0 2 := ⟨zt2 67 rfl, zt1 17 rfl, ⟨by decide +kernel, by decide +kernel⟩, by decide +kernel, Nat.le_of_ble_eq_true rfl⟩
theorem zc_Ma_min : zCl M_Ma_min 2 := ⟨zt2 77 rfl, zt1 16 rfl, ⟨by decide +kernel, by decide +kernel⟩, by decide +kernel, Nat.le_of_ble_eq_true rfl⟩
theorem zc_Ab_isLatin1 : zCl M_Ab_isLatin1 0 := ⟨zt2 85 rfl, zt1 2 rfl, ⟨by decide +kernel, by decide +kernel⟩, by decide +kernel, Nat.le_of_ble_eq_true rfl⟩
theorem zc_L1_canEncode_0 : zCl M_L1_canEncode_0 1 := ⟨zt2 88 rfl, zt1 19 rfl, ⟨by decide +kernel, by decide +kernel⟩, by decide +kernel, Nat.le_of_ble_eq_true rfl⟩
theorem zc_Ab_inflate : zCl M_Ab_inflate 0 := ⟨zt2 92 rfl, zt1 2 rfl, ⟨by decide +kernel, by decide +kernel⟩, by decide +kernel, Nat.le_of_ble_eq_true rfl⟩
theorem zc_L1_inflate : zCl M_L1_inflate 5 := ⟨zt2 95 rfl, zt1 19 rfl, ⟨by decide +kernel, by decide +kernel⟩, by decide +kernel, Nat.le_of_ble_eq_true rfl⟩
theorem zc_U16_inflate : zCl M_U16_inflate 5 := ⟨zt2 98 rfl, zt1 5 rfl, ⟨by decide +kernel, by decide +kernel⟩, by decide +kernel, Nat.le_of_ble_eq_true rfl⟩
theorem zc_U16_checkBoundsOffCount : zCl M_U16_checkBoundsOffCount 3 := ⟨zt2 101 rfl, zt1 5 rfl, ⟨by decide +kernel, by decide +kernel⟩, by decide +kernel, Nat.le_of_ble_eq_true rfl⟩
theorem zc_U16_length : zCl M_U16_length 1 := ⟨zt2 104 rfl, zt1 5 rfl, ⟨by decide +kernel, by decide +kernel⟩, by decide +kernel, Nat.le_of_ble_eq_true rfl⟩
theorem zc_St_checkBoundsOffCount : zCl M_St_checkBoundsOffCount 3 := ⟨zt2 107 rfl, zt1 4 rfl, ⟨by decide +kernel, by decide +kernel⟩, by decide +kernel, Nat.le_of_ble_eq_true rfl⟩
theorem zc_Pc_checkFromIndexSize : zCl M_Pc_checkFromIndexSize 4 := ⟨zt2 112 rfl, zt1 20 rfl, ⟨by decide +kernel, by decide +kernel⟩, by decide +kernel, Nat.le_of_ble_eq_true rfl⟩
theorem zc_U16_putChar : zCl M_U16_putChar 3 := ⟨zt2 115 rfl, zt1 5 rfl, ⟨by decide +kernel, by decide +kernel⟩, by decide +kernel, Nat.le_of_ble_eq_true rfl⟩
theorem zc_U16_putCharSB : zCl M_U16_putCharSB 3 := ⟨zt2 124 rfl, zt1 5 rfl, ⟨by decide +kernel, by decide +kernel⟩, by decide +kernel, Nat.le_of_ble_eq_true rfl⟩
theorem zc_U16_checkIndex : zCl M_U16_checkIndex 2 := ⟨zt2 127 rfl, zt1 5 rfl, ⟨by decide +kernel, by decide +kernel⟩, by decide +kernel, Nat.le_of_ble_eq_true rfl⟩
theorem zc_St_checkIndex : zCl M_St_checkIndex 2 := ⟨zt2 130 rfl, zt1 4 rfl, ⟨by decide +kernel, by decide +kernel⟩, by decide +kernel, Nat.le_of_ble_eq_true rfl⟩
theorem zc_Pc_checkIndex : zCl M_Pc_checkIndex 3 := ⟨zt2 133 rfl, zt1 20 rfl, ⟨by decide +kernel, by decide +kernel⟩, by decide +kernel, Nat.le_of_ble_eq_true rfl⟩
theorem zc_N_end : zCl M_N_end 1 := ⟨zt2 137 rfl, zt1 1 rfl, ⟨by decide +kernel, by decide +kernel⟩, by decide +kernel, Nat.le_of_ble_eq_true rfl⟩
theorem zc_Sb_setLength : zCl M_Sb_setLength 1 := ⟨zt2 141 rfl, zt1 3 rfl, ⟨by decide +kernel, by decide +kernel⟩, by decide +kernel, Nat.le_of_ble_eq_true rfl⟩
theorem zc_Ab_setLength : zCl M_Ab_setLength 1 := ⟨zt2 144 rfl, zt1 2 rfl, ⟨by decide +kernel, by decide +kernel⟩, by decide +kernel, Nat.le_of_ble_eq_true rfl⟩
theorem zc_L1_fillNull : zCl M_L1_fillNull 3 := ⟨zt2 147 rfl, zt1 19 rfl, ⟨by decide +kernel, by decide +kernel⟩, by decide +kernel, Nat.le_of_ble_eq_true rfl⟩
theorem zc_Ar_fill : zCl M_Ar_fill 4 := ⟨zt2 150 rfl, zt1 17 rfl, ⟨by decide +kernel, by decide +kernel⟩, by decide +kernel, Nat.le_of_ble_eq_true rfl⟩
theorem zc_Ar_rangeCheck : zCl M_Ar_rangeCheck 3 := ⟨zt2 153 rfl, zt1 17 rfl, ⟨by decide +kernel, by decide +kernel⟩, by decide +kernel, Nat.le_of_ble_eq_true rfl⟩
theorem zc_U16_fillNull : zCl M_U16_fillNull 3 := ⟨zt2 156 rfl, zt1 5 rfl, ⟨by decide +kernel, by decide +kernel⟩, by decide +kernel, Nat.le_of_ble_eq_true rfl⟩
theorem zc_N_out : zCl M_N_out 1 := ⟨zt2 161 rfl, zt1 1 rfl, ⟨by decide +kernel, by decide +kernel⟩, by decide +kernel, Nat.le_of_ble_eq_true rfl⟩
theorem zc_Sb_charAt : zCl M_Sb_charAt 1 := ⟨zt2 165 rfl, zt1 3 rfl, ⟨by decide +kernel, by decide +kernel⟩, by decide +kernel, Nat.le_of_ble_eq_true rfl⟩
theorem zc_Ab_charAt : zCl M_Ab_charAt 1 := ⟨zt2 168 rfl, zt1 2 rfl, ⟨by decide +kernel, by decide +kernel⟩, by decide +kernel, Nat.le_of_ble_eq_true rfl⟩
theorem zc_U16_getChar : zCl M_U16_getChar 2 := ⟨zt2 173 rfl, zt1 5 rfl, ⟨by decide +kernel, by decide +kernel⟩, by decide +kernel, Nat.le_of_ble_eq_true rfl⟩
theorem zc_N_resolve : zCl M_N_resolve 0 := ⟨zt2 177 rfl, zt1 1 rfl, ⟨by decide +kernel, by decide +kernel⟩, by decide +kernel, Nat.le_of_ble_eq_true rfl⟩
theorem zc_N_takeText : zCl M_N_takeText 0 := ⟨zt2 181 rfl, zt1 1 rfl, ⟨by decide +kernel, by decide +kernel⟩, by decide +kernel, Nat.le_of_ble_eq_true rfl⟩
theorem zc_Sb_toString : zCl M_Sb_toString 0 := ⟨zt2 185 rfl, zt1 3 rfl, ⟨by decide +kernel, by decide +kernel⟩, by decide +kernel, Nat.le_of_ble_eq_true rfl⟩
theorem zc_St_init_0 : zCl M_St_init_0 1 := ⟨zt2 190 rfl, zt1 4 rfl, ⟨by decide +kernel, by decide +kernel⟩, by decide +kernel, Nat.le_of_ble_eq_true rfl⟩
theorem zc_St_init_1 : zCl M_St_init_1 2 := ⟨zt2 193 rfl, zt1 4 rfl, ⟨by decide +kernel, by decide +kernel⟩, by decide +kernel, Nat.le_of_ble_eq_true rfl⟩
theorem zc_Ab_getValue : zCl M_Ab_getValue 0 := ⟨zt2 199 rfl, zt1 2 rfl, ⟨by decide +kernel, by decide +kernel⟩, by decide +kernel, Nat.le_of_ble_eq_true rfl⟩
theorem zc_Ar_copyOfRange : zCl M_Ar_copyOfRange 3 := ⟨zt2 204 rfl, zt1 17 rfl, ⟨by decide +kernel, by decide +kernel⟩, by decide +kernel, Nat.le_of_ble_eq_true rfl⟩
theorem zc_Ar_copyOfRangeByte : zCl M_Ar_copyOfRangeByte 3 := ⟨zt2 207 rfl, zt1 17 rfl, ⟨by decide +kernel, by decide +kernel⟩, by decide +kernel, Nat.le_of_ble_eq_true rfl⟩
theorem zc_Ar_checkLength : zCl M_Ar_checkLength 2 := ⟨zt2 210 rfl, zt1 17 rfl, ⟨by decide +kernel, by decide +kernel⟩, by decide +kernel, Nat.le_of_ble_eq_true rfl⟩
theorem zc_U16_compress_0 : zCl M_U16_compress_0 3 := ⟨zt2 214 rfl, zt1 5 rfl, ⟨by decide +kernel, by decide +kernel⟩, by decide +kernel, Nat.le_of_ble_eq_true rfl⟩
theorem zc_U16_compress_1 : zCl M_U16_compress_1 5 := ⟨zt2 217 rfl, zt1 5 rfl, ⟨by decide +kernel, by decide +kernel⟩, by decide +kernel, Nat.le_of_ble_eq_true rfl⟩
theorem zc_U16_coderFromArrayLen : zCl M_U16_coderFromArrayLen 2 := ⟨zt2 222 rfl, zt1 5 rfl, ⟨by decide +kernel, by decide +kernel⟩, by decide +kernel, Nat.le_of_ble_eq_true rfl⟩
theorem zc_Tx_badByte : zCl M_Tx_badByte 1 := ⟨zt2 236 rfl, zt1 21 rfl, ⟨by decide +kernel, by decide +kernel⟩, by decide +kernel, Nat.le_of_ble_eq_true rfl⟩
theorem zc_St_length : zCl M_St_length 0 := ⟨zt3 0 rfl, zt1 4 rfl, ⟨by decide +kernel, by decide +kernel⟩, by decide +kernel, Nat.le_of_ble_eq_true rfl⟩
theorem zc_St_coder : zCl M_St_coder 0 := ⟨zt3 4 rfl, zt1 4 rfl, ⟨by decide +kernel, by decide +kernel⟩, by decide +kernel, Nat.le_of_ble_eq_true rfl⟩
theorem zc_St_charAt : zCl M_St_charAt 1 := ⟨zt3 8 rfl, zt1 4 rfl, ⟨by decide +kernel, by decide +kernel⟩, by decide +kernel, Nat.le_of_ble_eq_true rfl⟩
theorem zc_St_isLatin1 : zCl M_St_isLatin1 0 := ⟨zt3 12 rfl, zt1 4 rfl, ⟨by decide +kernel, by decide +kernel⟩, by decide +kernel, Nat.le_of_ble_eq_true rfl⟩
theorem zc_L1_charAt : zCl M_L1_charAt 2 := ⟨zt3 15 rfl, zt1 19 rfl, ⟨by decide +kernel, by decide +kernel⟩, by decide +kernel, Nat.le_of_ble_eq_true rfl⟩
theorem zc_U16_charAt : zCl M_U16_charAt 2 := ⟨zt3 19 rfl, zt1 5 rfl, ⟨by decide +kernel, by decide +kernel⟩, by decide +kernel, Nat.le_of_ble_eq_true rfl⟩
theorem zc_Ad_read : zCl M_Ad_read 2 := ⟨zt3 22 rfl, zt1 6 rfl, ⟨by decide +kernel, by decide +kernel⟩, by decide +kernel, Nat.le_of_ble_eq_true rfl⟩
theorem zc_Ad_placeOrLength : zCl M_Ad_placeOrLength 2 := ⟨zt3 25 rfl, zt1 6 rfl, ⟨by decide +kernel, by decide +kernel⟩, by decide +kernel, Nat.le_of_ble_eq_true rfl⟩
theorem zc_St_indexOf_0 : zCl M_St_indexOf_0 1 := ⟨zt3 29 rfl, zt1 4 rfl, ⟨by decide +kernel, by decide +kernel⟩, by decide +kernel, Nat.le_of_ble_eq_true rfl⟩
theorem zc_St_indexOf_1 : zCl M_St_indexOf_1 2 := ⟨zt3 33 rfl, zt1 4 rfl, ⟨by decide +kernel, by decide +kernel⟩, by decide +kernel, Nat.le_of_ble_eq_true rfl⟩
theorem zc_L1_indexOf : zCl M_L1_indexOf 4 := ⟨zt3 37 rfl, zt1 19 rfl, ⟨by decide +kernel, by decide +kernel⟩, by decide +kernel, Nat.le_of_ble_eq_true rfl⟩
theorem zc_L1_canEncode_1 : zCl M_L1_canEncode_1 1 := ⟨zt3 40 rfl, zt1 19 rfl, ⟨by decide +kernel, by decide +kernel⟩, by decide +kernel, Nat.le_of_ble_eq_true rfl⟩
theorem zc_L1_indexOfChar : zCl M_L1_indexOfChar 4 := ⟨zt3 45 rfl, zt1 19 rfl, ⟨by decide +kernel, by decide +kernel⟩, by decide +kernel, Nat.le_of_ble_eq_true rfl⟩
theorem zc_U16_indexOf : zCl M_U16_indexOf 4 := ⟨zt3 48 rfl, zt1 5 rfl, ⟨by decide +kernel, by decide +kernel⟩, by decide +kernel, Nat.le_of_ble_eq_true rfl⟩
theorem zc_U16_indexOfChar : zCl M_U16_indexOfChar 4 := ⟨zt3 54 rfl, zt1 5 rfl, ⟨by decide +kernel, by decide +kernel⟩, by decide +kernel, Nat.le_of_ble_eq_true rfl⟩
theorem zc_U16_checkBoundsBeginEnd : zCl M_U16_checkBoundsBeginEnd 3 := ⟨zt3 57 rfl, zt1 5 rfl, ⟨by decide +kernel, by decide +kernel⟩, by decide +kernel, Nat.le_of_ble_eq_true rfl⟩
theorem zc_St_checkBoundsBeginEnd : zCl M_St_checkBoundsBeginEnd 3 := ⟨zt3 60 rfl, zt1 4 rfl, ⟨by decide +kernel, by decide +kernel⟩, by decide +kernel, Nat.le_of_ble_eq_true rfl⟩
theorem zc_Pc_checkFromToIndex : zCl M_Pc_checkFromToIndex 4 := ⟨zt3 63 rfl, zt1 20 rfl, ⟨by decide +kernel, by decide +kernel⟩, by decide +kernel, Nat.le_of_ble_eq_true rfl⟩
theorem zc_U16_indexOfCharUnsafe : zCl M_U16_indexOfCharUnsafe 4 := ⟨zt3 66 rfl, zt1 5 rfl, ⟨by decide +kernel, by decide +kernel⟩, by decide +kernel, Nat.le_of_ble_eq_true rfl⟩
theorem zc_U16_indexOfSupplementary : zCl M_U16_indexOfSupplementary 4 := ⟨zt3 69 rfl, zt1 5 rfl, ⟨by decide +kernel, by decide +kernel⟩, by decide +kernel, Nat.le_of_ble_eq_true rfl⟩
theorem zc_Ch_isValidCodePoint : zCl M_Ch_isValidCodePoint 1 := ⟨zt3 72 rfl, zt1 22 rfl, ⟨by decide +kernel, by decide +kernel⟩, by decide +kernel, Nat.le_of_ble_eq_true rfl⟩
theorem zc_Ch_highSurrogate : zCl M_Ch_highSurrogate 1 := ⟨zt3 75 rfl, zt1 22 rfl, ⟨by decide +kernel, by decide +kernel⟩, by decide +kernel, Nat.le_of_ble_eq_true rfl⟩
theorem zc_Ch_lowSurrogate : zCl M_Ch_lowSurrogate 1 := ⟨zt3 79 rfl, zt1 22 rfl, ⟨by decide +kernel, by decide +kernel⟩, by decide +kernel, Nat.le_of_ble_eq_true rfl⟩
theorem zc_St_substring_0 : zCl M_St_substring_0 2 := ⟨zt3 86 rfl, zt1 4 rfl, ⟨by decide +kernel, by decide +kernel⟩, by decide +kernel, Nat.le_of_ble_eq_true rfl⟩
theorem zc_L1_newString : zCl M_L1_newString 3 := ⟨zt3 90 rfl, zt1 19 rfl, ⟨by decide +kernel, by decide +kernel⟩, by decide +kernel, Nat.le_of_ble_eq_true rfl⟩
theorem zc_St_init_2 : zCl M_St_init_2 2 := ⟨zt3 96 rfl, zt1 4 rfl, ⟨by decide +kernel, by decide +kernel⟩, by decide +kernel, Nat.le_of_ble_eq_true rfl⟩
theorem zc_U16_newString : zCl M_U16_newString 3 := ⟨zt3 99 rfl, zt1 5 rfl, ⟨by decide +kernel, by decide +kernel⟩, by decide +kernel, Nat.le_of_ble_eq_true rfl⟩
theorem zc_St_substring_1 : zCl M_St_substring_1 1 := ⟨zt3 109 rfl, zt1 4 rfl, ⟨by decide +kernel, by decide +kernel⟩, by decide +kernel, Nat.le_of_ble_eq_true rfl⟩
theorem zc_Ad_isQuery : zCl M_Ad_isQuery 1 := ⟨zt3 113 rfl, zt1 6 rfl, ⟨by decide +kernel, by decide +kernel⟩, by decide +kernel, Nat.le_of_ble_eq_true rfl⟩
theorem zc_St_isEmpty : zCl M_St_isEmpty 0 := ⟨zt3 117 rfl, zt1 4 rfl, ⟨by decide +kernel, by decide +kernel⟩, by decide +kernel, Nat.le_of_ble_eq_true rfl⟩
theorem zc_Tx_hasOnly : zCl M_Tx_hasOnly 2 := ⟨zt3 121 rfl, zt1 21 rfl, ⟨by decide +kernel, by decide +kernel⟩, by decide +kernel, Nat.le_of_ble_eq_true rfl⟩
theorem zc_Tx_isSmallLetter : zCl M_Tx_isSmallLetter 1 := ⟨zt3 124 rfl, zt1 21 rfl, ⟨by decide +kernel, by decide +kernel⟩, by decide +kernel, Nat.le_of_ble_eq_true rfl⟩
theorem zc_Tx_isDigit : zCl M_Tx_isDigit 1 := ⟨zt3 127 rfl, zt1 21 rfl, ⟨by decide +kernel, by decide +kernel⟩, by decide +kernel, Nat.le_of_ble_eq_true rfl⟩
theorem zc_Tx_isName : zCl M_Tx_isName 1 := ⟨zt3 131 rfl, zt1 21 rfl, ⟨by decide +kernel, by decide +kernel⟩, by decide +kernel, Nat.le_of_ble_eq_true rfl⟩
theorem zc_Tx_noNameAt : zCl M_Tx_noNameAt 1 := ⟨zt3 134 rfl, zt1 21 rfl, ⟨by decide +kernel, by decide +kernel⟩, by decide +kernel, Nat.le_of_ble_eq_true rfl⟩
theorem zc_Pt_init : zCl M_Pt_init 0 := ⟨zt3 142 rfl, zt1 23 rfl, ⟨by decide +kernel, by decide +kernel⟩, by decide +kernel, Nat.le_of_ble_eq_true rfl⟩
theorem zc_Tx_begins : zCl M_Tx_begins 2 := ⟨zt3 157 rfl, zt1 21 rfl, ⟨by decide +kernel, by decide +kernel⟩, by decide +kernel, Nat.le_of_ble_eq_true rfl⟩
theorem zc_St_equals : zCl M_St_equals 1 := ⟨zt3 162 rfl, zt1 4 rfl, ⟨by decide +kernel, by decide +kernel⟩, by decide +kernel, Nat.le_of_ble_eq_true rfl⟩
theorem zc_L1_equals : zCl M_L1_equals 2 := ⟨zt3 166 rfl, zt1 19 rfl, ⟨by decide +kernel, by decide +kernel⟩, by decide +kernel, Nat.le_of_ble_eq_true rfl⟩
theorem zc_Pt_startBeside : zCl M_Pt_startBeside 1 := ⟨zt3 172 rfl, zt1 23 rfl, ⟨by decide +kernel, by decide +kernel⟩, by decide +kernel, Nat.le_of_ble_eq_true rfl⟩
theorem zc_Sb_append_1 : zCl M_Sb_append_1 1 := ⟨zt3 176 rfl, zt1 3 rfl, ⟨by decide +kernel, by decide +kernel⟩, by decide +kernel, Nat.le_of_ble_eq_true rfl⟩
theorem zc_Ab_append_1 : zCl M_Ab_append_1 1 := ⟨zt3 179 rfl, zt1 2 rfl, ⟨by decide +kernel, by decide +kernel⟩, by decide +kernel, Nat.le_of_ble_eq_true rfl⟩
theorem zc_Ab_appendNull : zCl M_Ab_appendNull 0 := ⟨zt3 183 rfl, zt1 2 rfl, ⟨by decide +kernel, by decide +kernel⟩, by decide +kernel, Nat.le_of_ble_eq_true rfl⟩
theorem zc_U16_putCharsAt : zCl M_U16_putCharsAt 6 := ⟨zt3 186 rfl, zt1 5 rfl, ⟨by decide +kernel, by decide +kernel⟩, by decide +kernel, Nat.le_of_ble_eq_true rfl⟩
theorem zc_Ab_putStringAt : zCl M_Ab_putStringAt 2 := ⟨zt3 191 rfl, zt1 2 rfl, ⟨by decide +kernel, by decide +kernel⟩, by decide +kernel, Nat.le_of_ble_eq_true rfl⟩
theorem zc_Ab_inflateIfNeededFor : zCl M_Ab_inflateIfNeededFor 1 := ⟨zt3 195 rfl, zt1 2 rfl, ⟨by decide +kernel, by decide +kernel⟩, by decide +kernel, Nat.le_of_ble_eq_true rfl⟩
theorem zc_St_getBytes : zCl M_St_getBytes 3 := ⟨zt3 200 rfl, zt1 4 rfl, ⟨by decide +kernel, by decide +kernel⟩, by decide +kernel, Nat.le_of_ble_eq_true rfl⟩
theorem zc_Ad_segments : zCl M_Ad_segments 0 := ⟨zt3 206 rfl, zt1 6 rfl, ⟨by decide +kernel, by decide +kernel⟩, by decide +kernel, Nat.le_of_ble_eq_true rfl⟩
theorem zc_Pt_pop : zCl M_Pt_pop 0 := ⟨zt3 211 rfl, zt1 23 rfl, ⟨by decide +kernel, by decide +kernel⟩, by decide +kernel, Nat.le_of_ble_eq_true rfl⟩
theorem zc_Pt_take : zCl M_Pt_take 1 := ⟨zt3 218 rfl, zt1 23 rfl, ⟨by decide +kernel, by decide +kernel⟩, by decide +kernel, Nat.le_of_ble_eq_true rfl⟩
theorem zc_Pt_takeOne : zCl M_Pt_takeOne 2 := ⟨zt3 227 rfl, zt1 23 rfl, ⟨by decide +kernel, by decide +kernel⟩, by decide +kernel, Nat.le_of_ble_eq_true rfl⟩
theorem zc_Pt_push : zCl M_Pt_push 1 := ⟨zt3 234 rfl, zt1 23 rfl, ⟨by decide +kernel, by decide +kernel⟩, by decide +kernel, Nat.le_of_ble_eq_true rfl⟩
theorem zc_N_writeAddress : zCl M_N_writeAddress 2 := ⟨zt4 1 rfl, zt1 1 rfl, ⟨by decide +kernel, by decide +kernel⟩, by decide +kernel, Nat.le_of_ble_eq_true rfl⟩
theorem zc_Ad_appendTo : zCl M_Ad_appendTo 1 := ⟨zt4 5 rfl, zt1 6 rfl, ⟨by decide +kernel, by decide +kernel⟩, by decide +kernel, Nat.le_of_ble_eq_true rfl⟩
theorem zc_N_base : zCl M_N_base 0 := ⟨zt4 11 rfl, zt1 1 rfl, ⟨by decide +kernel, by decide +kernel⟩, by decide +kernel, Nat.le_of_ble_eq_true rfl⟩
theorem zc_N_server : zCl M_N_server 0 := ⟨zt4 16 rfl, zt1 1 rfl, ⟨by decide +kernel, by decide +kernel⟩, by decide +kernel, Nat.le_of_ble_eq_true rfl⟩
theorem zc_Sv_init : zCl M_Sv_init 2 := ⟨zt4 21 rfl, zt1 24 rfl, ⟨by decide +kernel, by decide +kernel⟩, by decide +kernel, Nat.le_of_ble_eq_true rfl⟩
theorem zc_Sv_firstWrong : zCl M_Sv_firstWrong 0 := ⟨zt4 45 rfl, zt1 24 rfl, ⟨by decide +kernel, by decide +kernel⟩, by decide +kernel, Nat.le_of_ble_eq_true rfl⟩
theorem zc_Sv_takeAddress : zCl M_Sv_takeAddress 1 := ⟨zt4 53 rfl, zt1 24 rfl, ⟨by decide +kernel, by decide +kernel⟩, by decide +kernel, Nat.le_of_ble_eq_true rfl⟩
theorem zc_Fl_take : zCl M_Fl_take 2 := ⟨zt4 61 rfl, zt1 8 rfl, ⟨by decide +kernel, by decide +kernel⟩, by decide +kernel, Nat.le_of_ble_eq_true rfl⟩
theorem zc_Fl_takeAge : zCl M_Fl_takeAge 1 := ⟨zt4 70 rfl, zt1 8 rfl, ⟨by decide +kernel, by decide +kernel⟩, by decide +kernel, Nat.le_of_ble_eq_true rfl⟩
theorem zc_Tx_isNumber : zCl M_Tx_isNumber 1 := ⟨zt4 73 rfl, zt1 21 rfl, ⟨by decide +kernel, by decide +kernel⟩, by decide +kernel, Nat.le_of_ble_eq_true rfl⟩
theorem zc_Tx_number : zCl M_Tx_number 1 := ⟨zt4 76 rfl, zt1 21 rfl, ⟨by decide +kernel, by decide +kernel⟩, by decide +kernel, Nat.le_of_ble_eq_true rfl⟩
theorem zc_Fl_takeCookie : zCl M_Fl_takeCookie 1 := ⟨zt4 81 rfl, zt1 8 rfl, ⟨by decide +kernel, by decide +kernel⟩, by decide +kernel, Nat.le_of_ble_eq_true rfl⟩
theorem zc_N_placeOfAnswer : zCl M_N_placeOfAnswer 1 := ⟨zt4 92 rfl, zt1 1 rfl, ⟨by decide +kernel, by decide +kernel⟩, by decide +kernel, Nat.le_of_ble_eq_true rfl⟩
theorem zc_Al_size : zCl M_Al_size 0 := ⟨zt4 96 rfl, zt1 11 rfl, ⟨by decide +kernel, by decide +kernel⟩, by decide +kernel, Nat.le_of_ble_eq_true rfl⟩
theorem zc_Al_get : zCl M_Al_get 1 := ⟨zt4 100 rfl, zt1 11 rfl, ⟨by decide +kernel, by decide +kernel⟩, by decide +kernel, Nat.le_of_ble_eq_true rfl⟩
theorem zc_Ob_checkIndex : zCl M_Ob_checkIndex 2 := ⟨zt4 103 rfl, zt1 25 rfl, ⟨by decide +kernel, by decide +kernel⟩, by decide +kernel, Nat.le_of_ble_eq_true rfl⟩
theorem zc_Al_elementData : zCl M_Al_elementData 1 := ⟨zt4 108 rfl, zt1 11 rfl, ⟨by decide +kernel, by decide +kernel⟩, by decide +kernel, Nat.le_of_ble_eq_true rfl⟩
theorem zc_Ad_isSamePlace : zCl M_Ad_isSamePlace 1 := ⟨zt4 112 rfl, zt1 6 rfl, ⟨by decide +kernel, by decide +kernel⟩, by decide +kernel, Nat.le_of_ble_eq_true rfl⟩
theorem zc_Al_set : zCl M_Al_set 2 := ⟨zt4 117 rfl, zt1 11 rfl, ⟨by decide +kernel, by decide +kernel⟩, by decide +kernel, Nat.le_of_ble_eq_true rfl⟩
theorem zc_Al_add_0 : zCl M_Al_add_0 1 := ⟨zt4 121 rfl, zt1 11 rfl, ⟨by decide +kernel, by decide +kernel⟩, by decide +kernel, Nat.le_of_ble_eq_true rfl⟩
theorem zc_Al_add_1 : zCl M_Al_add_1 3 := ⟨zt4 125 rfl, zt1 11 rfl, ⟨by decide +kernel, by decide +kernel⟩, by decide +kernel, Nat.le_of_ble_eq_true rfl⟩
theorem zc_Al_grow_0 : zCl M_Al_grow_0 0 := ⟨zt4 129 rfl, zt1 11 rfl, ⟨by decide +kernel, by decide +kernel⟩, by decide +kernel, Nat.le_of_ble_eq_true rfl⟩
theorem zc_Al_grow_1 : zCl M_Al_grow_1 1 := ⟨zt4 133 rfl, zt1 11 rfl, ⟨by decide +kernel, by decide +kernel⟩, by decide +kernel, Nat.le_of_ble_eq_true rfl⟩
theorem zc_Ar_copyOf_1 : zCl M_Ar_copyOf_1 2 := ⟨zt4 137 rfl, zt1 17 rfl, ⟨by decide +kernel, by decide +kernel⟩, by decide +kernel, Nat.le_of_ble_eq_true rfl⟩
theorem zc_Ar_copyOf_2 : zCl M_Ar_copyOf_2 3 := ⟨zt4 158 rfl, zt1 17 rfl, ⟨by decide +kernel, by decide +kernel⟩, by decide +kernel, Nat.le_of_ble_eq_true rfl⟩
theorem zc_N_fetch : zCl M_N_fetch 0 := ⟨zt4 167 rfl, zt1 1 rfl, ⟨by decide +kernel, by decide +kernel⟩, by decide +kernel, Nat.le_of_ble_eq_true rfl⟩
theorem zc_N_follow : zCl M_N_follow 1 := ⟨zt4 171 rfl, zt1 1 rfl, ⟨by decide +kernel, by decide +kernel⟩, by decide +kernel, Nat.le_of_ble_eq_true rfl⟩
theorem zc_N_answerFrom : zCl M_N_answerFrom 1 := ⟨zt4 175 rfl, zt1 1 rfl, ⟨by decide +kernel, by decide +kernel⟩, by decide +kernel, Nat.le_of_ble_eq_true rfl⟩
theorem zc_Kp_fresh : zCl M_Kp_fresh 2 := ⟨zt4 179 rfl, zt1 13 rfl, ⟨by decide +kernel, by decide +kernel⟩, by decide +kernel, Nat.le_of_ble_eq_true rfl⟩
theorem zc_Kp_placeOf : zCl M_Kp_placeOf 1 := ⟨zt4 183 rfl, zt1 13 rfl, ⟨by decide +kernel, by decide +kernel⟩, by decide +kernel, Nat.le_of_ble_eq_true rfl⟩
theorem zc_N_request : zCl M_N_request 1 := ⟨zt4 191 rfl, zt1 1 rfl, ⟨by decide +kernel, by decide +kernel⟩, by decide +kernel, Nat.le_of_ble_eq_true rfl⟩
theorem zc_Jr_tell : zCl M_Jr_tell 2 := ⟨zt4 195 rfl, zt1 12 rfl, ⟨by decide +kernel, by decide +kernel⟩, by decide +kernel, Nat.le_of_ble_eq_true rfl⟩
theorem zc_Ck_init : zCl M_Ck_init 3 := ⟨zt4 208 rfl, zt1 26 rfl, ⟨by decide +kernel, by decide +kernel⟩, by decide +kernel, Nat.le_of_ble_eq_true rfl⟩
theorem zc_Jr_put : zCl M_Jr_put 1 := ⟨zt4 226 rfl, zt1 12 rfl, ⟨by decide +kernel, by decide +kernel⟩, by decide +kernel, Nat.le_of_ble_eq_true rfl⟩
theorem zc_Kt_init : zCl M_Kt_init 2 := ⟨zt4 233 rfl, zt1 27 rfl, ⟨by decide +kernel, by decide +kernel⟩, by decide +kernel, Nat.le_of_ble_eq_true rfl⟩
theorem zc_Kp_put : zCl M_Kp_put 1 := ⟨zt5 7 rfl, zt1 13 rfl, ⟨by decide +kernel, by decide +kernel⟩, by decide +kernel, Nat.le_of_ble_eq_true rfl⟩
theorem zc_Al_remove : zCl M_Al_remove 1 := ⟨zt5 11 rfl, zt1 11 rfl, ⟨by decide +kernel, by decide +kernel⟩, by decide +kernel, Nat.le_of_ble_eq_true rfl⟩
theorem zc_Al_fastRemove : zCl M_Al_fastRemove 2 := ⟨zt5 15 rfl, zt1 11 rfl, ⟨by decide +kernel, by decide +kernel⟩, by decide +kernel, Nat.le_of_ble_eq_true rfl⟩
theorem zc_N_body : zCl M_N_body 1 := ⟨zt5 22 rfl, zt1 1 rfl, ⟨by decide +kernel, by decide +kernel⟩, by decide +kernel, Nat.le_of_ble_eq_true rfl⟩
theorem zc_N_tick : zCl M_N_tick 1 := ⟨zt5 27 rfl, zt1 1 rfl, ⟨by decide +kernel, by decide +kernel⟩, by decide +kernel, Nat.le_of_ble_eq_true rfl⟩
theorem zc_N_forget : zCl M_N_forget 0 := ⟨zt5 31 rfl, zt1 1 rfl, ⟨by decide +kernel, by decide +kernel⟩, by decide +kernel, Nat.le_of_ble_eq_true rfl⟩
theorem zc_Jr_dropLast : zCl M_Jr_dropLast 1 := ⟨zt5 36 rfl, zt1 12 rfl, ⟨by decide +kernel, by decide +kernel⟩, by decide +kernel, Nat.le_of_ble_eq_true rfl⟩
theorem zc_N_write : zCl M_N_write 1 := ⟨zt5 41 rfl, zt1 1 rfl, ⟨by decide +kernel, by decide +kernel⟩, by decide +kernel, Nat.le_of_ble_eq_true rfl⟩
theorem zc_N_count : zCl M_N_count 1 := ⟨zt5 45 rfl, zt1 1 rfl, ⟨by decide +kernel, by decide +kernel⟩, by decide +kernel, Nat.le_of_ble_eq_true rfl⟩
theorem zc_Jr_size : zCl M_Jr_size 0 := ⟨zt5 49 rfl, zt1 12 rfl, ⟨by decide +kernel, by decide +kernel⟩, by decide +kernel, Nat.le_of_ble_eq_true rfl⟩
theorem zc_Kp_size : zCl M_Kp_size 0 := ⟨zt5 53 rfl, zt1 13 rfl, ⟨by decide +kernel, by decide +kernel⟩, by decide +kernel, Nat.le_of_ble_eq_true rfl⟩
theorem zc_Mo_server : zCl M_Mo_server 0 := ⟨zt5 57 rfl, zt1 14 rfl, ⟨by decide +kernel, by decide +kernel⟩, by decide +kernel, Nat.le_of_ble_eq_true rfl⟩
theorem zc_Mo_take : zCl M_Mo_take 0 := ⟨zt5 62 rfl, zt1 14 rfl, ⟨by decide +kernel, by decide +kernel⟩, by decide +kernel, Nat.le_of_ble_eq_true rfl⟩
theorem zc_Mo_wrong : zCl M_Mo_wrong 1 := ⟨zt5 65 rfl, zt1 14 rfl, ⟨by decide +kernel, by decide +kernel⟩, by decide +kernel, Nat.le_of_ble_eq_true rfl⟩
theorem zc_Mo_tokenEnd : zCl M_Mo_tokenEnd 1 := ⟨zt5 69 rfl, zt1 14 rfl, ⟨by decide +kernel, by decide +kernel⟩, by decide +kernel, Nat.le_of_ble_eq_true rfl⟩
theorem zc_Mo_isBlank : zCl M_Mo_isBlank 1 := ⟨zt5 72 rfl, zt1 14 rfl, ⟨by decide +kernel, by decide +kernel⟩, by decide +kernel, Nat.le_of_ble_eq_true rfl⟩
theorem zc_Mo_refer : zCl M_Mo_refer 4 := ⟨zt5 76 rfl, zt1 14 rfl, ⟨by decide +kernel, by decide +kernel⟩, by decide +kernel, Nat.le_of_ble_eq_true rfl⟩
theorem zc_Mo_nameEnd : zCl M_Mo_nameEnd 3 := ⟨zt5 79 rfl, zt1 14 rfl, ⟨by decide +kernel, by decide +kernel⟩, by decide +kernel, Nat.le_of_ble_eq_true rfl⟩
theorem zc_Mo_isSmall : zCl M_Mo_isSmall 1 := ⟨zt5 82 rfl, zt1 14 rfl, ⟨by decide +kernel, by decide +kernel⟩, by decide +kernel, Nat.le_of_ble_eq_true rfl⟩
theorem zc_Mo_isDigit : zCl M_Mo_isDigit 1 := ⟨zt5 85 rfl, zt1 14 rfl, ⟨by decide +kernel, by decide +kernel⟩, by decide +kernel, Nat.le_of_ble_eq_true rfl⟩
theorem zc_Mo_put : zCl M_Mo_put 2 := ⟨zt5 89 rfl, zt1 14 rfl, ⟨by decide +kernel, by decide +kernel⟩, by decide +kernel, Nat.le_of_ble_eq_true rfl⟩
theorem zc_Mo_segments : zCl M_Mo_segments 2 := ⟨zt5 93 rfl, zt1 14 rfl, ⟨by decide +kernel, by decide +kernel⟩, by decide +kernel, Nat.le_of_ble_eq_true rfl⟩
theorem zc_Mo_oneSegment : zCl M_Mo_oneSegment 2 := ⟨zt5 97 rfl, zt1 14 rfl, ⟨by decide +kernel, by decide +kernel⟩, by decide +kernel, Nat.le_of_ble_eq_true rfl⟩
theorem zc_Mo_isSegment : zCl M_Mo_isSegment 1 := ⟨zt5 100 rfl, zt1 14 rfl, ⟨by decide +kernel, by decide +kernel⟩, by decide +kernel, Nat.le_of_ble_eq_true rfl⟩
theorem zc_Mo_segment : zCl M_Mo_segment 3 := ⟨zt5 104 rfl, zt1 14 rfl, ⟨by decide +kernel, by decide +kernel⟩, by decide +kernel, Nat.le_of_ble_eq_true rfl⟩
theorem zc_Mo_siteEnd : zCl M_Mo_siteEnd 1 := ⟨zt5 108 rfl, zt1 14 rfl, ⟨by decide +kernel, by decide +kernel⟩, by decide +kernel, Nat.le_of_ble_eq_true rfl⟩
theorem zc_Mo_baseSegments : zCl M_Mo_baseSegments 2 := ⟨zt5 112 rfl, zt1 14 rfl, ⟨by decide +kernel, by decide +kernel⟩, by decide +kernel, Nat.le_of_ble_eq_true rfl⟩
theorem zc_Mo_queryAt : zCl M_Mo_queryAt 1 := ⟨zt5 116 rfl, zt1 14 rfl, ⟨by decide +kernel, by decide +kernel⟩, by decide +kernel, Nat.le_of_ble_eq_true rfl⟩
theorem zc_Mo_query : zCl M_Mo_query 4 := ⟨zt5 120 rfl, zt1 14 rfl, ⟨by decide +kernel, by decide +kernel⟩, by decide +kernel, Nat.le_of_ble_eq_true rfl⟩
theorem zc_Mo_isQuery : zCl M_Mo_isQuery 1 := ⟨zt5 123 rfl, zt1 14 rfl, ⟨by decide +kernel, by decide +kernel⟩, by decide +kernel, Nat.le_of_ble_eq_true rfl⟩
theorem zc_Mo_copyRow : zCl M_Mo_copyRow 2 := ⟨zt5 127 rfl, zt1 14 rfl, ⟨by decide +kernel, by decide +kernel⟩, by decide +kernel, Nat.le_of_ble_eq_true rfl⟩
theorem zc_Mo_field : zCl M_Mo_field 2 := ⟨zt5 131 rfl, zt1 14 rfl, ⟨by decide +kernel, by decide +kernel⟩, by decide +kernel, Nat.le_of_ble_eq_true rfl⟩
theorem zc_Mo_isWord : zCl M_Mo_isWord 4 := ⟨zt5 135 rfl, zt1 14 rfl, ⟨by decide +kernel, by decide +kernel⟩, by decide +kernel, Nat.le_of_ble_eq_true rfl⟩
theorem zc_Mo_alike : zCl M_Mo_alike 2 := ⟨zt5 143 rfl, zt1 14 rfl, ⟨by decide +kernel, by decide +kernel⟩, by decide +kernel, Nat.le_of_ble_eq_true rfl⟩
theorem zc_Mo_same : zCl M_Mo_same 5 := ⟨zt5 146 rfl, zt1 14 rfl, ⟨by decide +kernel, by decide +kernel⟩, by decide +kernel, Nat.le_of_ble_eq_true rfl⟩
theorem zc_Mo_init : zCl M_Mo_init 0 := ⟨zt5 150 rfl, zt1 14 rfl, ⟨by decide +kernel, by decide +kernel⟩, by decide +kernel, Nat.le_of_ble_eq_true rfl⟩
theorem zc_Mo_feed : zCl M_Mo_feed 5 := ⟨zt6 70 rfl, zt1 14 rfl, ⟨by decide +kernel, by decide +kernel⟩, by decide +kernel, Nat.le_of_ble_eq_true rfl⟩
theorem zc_Mo_putFour : zCl M_Mo_putFour 1 := ⟨zt6 74 rfl, zt1 14 rfl, ⟨by decide +kernel, by decide +kernel⟩, by decide +kernel, Nat.le_of_ble_eq_true rfl⟩
theorem zc_Mo_end : zCl M_Mo_end 1 := ⟨zt6 78 rfl, zt1 14 rfl, ⟨by decide +kernel, by decide +kernel⟩, by decide +kernel, Nat.le_of_ble_eq_true rfl⟩
theorem zc_Mo_out : zCl M_Mo_out 1 := ⟨zt6 82 rfl, zt1 14 rfl, ⟨by decide +kernel, by decide +kernel⟩, by decide +kernel, Nat.le_of_ble_eq_true rfl⟩
theorem zc_Mo_resolve : zCl M_Mo_resolve 0 := ⟨zt6 86 rfl, zt1 14 rfl, ⟨by decide +kernel, by decide +kernel⟩, by decide +kernel, Nat.le_of_ble_eq_true rfl⟩
theorem zc_Mo_sayRow : zCl M_Mo_sayRow 1 := ⟨zt6 90 rfl, zt1 14 rfl, ⟨by decide +kernel, by decide +kernel⟩, by decide +kernel, Nat.le_of_ble_eq_true rfl⟩
theorem zc_Mo_sayAll : zCl M_Mo_sayAll 3 := ⟨zt6 94 rfl, zt1 14 rfl, ⟨by decide +kernel, by decide +kernel⟩, by decide +kernel, Nat.le_of_ble_eq_true rfl⟩
theorem zc_Mo_say : zCl M_Mo_say 1 := ⟨zt6 98 rfl, zt1 14 rfl, ⟨by decide +kernel, by decide +kernel⟩, by decide +kernel, Nat.le_of_ble_eq_true rfl⟩
theorem zc_Mo_base : zCl M_Mo_base 0 := ⟨zt6 102 rfl, zt1 14 rfl, ⟨by decide +kernel, by decide +kernel⟩, by decide +kernel, Nat.le_of_ble_eq_true rfl⟩
theorem zc_Mo_fetch : zCl M_Mo_fetch 0 := ⟨zt6 106 rfl, zt1 14 rfl, ⟨by decide +kernel, by decide +kernel⟩, by decide +kernel, Nat.le_of_ble_eq_true rfl⟩
theorem zc_Mo_fetchIt : zCl M_Mo_fetchIt 0 := ⟨zt6 110 rfl, zt1 14 rfl, ⟨by decide +kernel, by decide +kernel⟩, by decide +kernel, Nat.le_of_ble_eq_true rfl⟩
theorem zc_Mo_ask : zCl M_Mo_ask 0 := ⟨zt6 114 rfl, zt1 14 rfl, ⟨by decide +kernel, by decide +kernel⟩, by decide +kernel, Nat.le_of_ble_eq_true rfl⟩
theorem zc_Mo_tellCookies : zCl M_Mo_tellCookies 0 := ⟨zt6 118 rfl, zt1 14 rfl, ⟨by decide +kernel, by decide +kernel⟩, by decide +kernel, Nat.le_of_ble_eq_true rfl⟩
theorem zc_Mo_send : zCl M_Mo_send 1 := ⟨zt6 122 rfl, zt1 14 rfl, ⟨by decide +kernel, by decide +kernel⟩, by decide +kernel, Nat.le_of_ble_eq_true rfl⟩
theorem zc_Mo_dropCookie : zCl M_Mo_dropCookie 1 := ⟨zt6 126 rfl, zt1 14 rfl, ⟨by decide +kernel, by decide +kernel⟩, by decide +kernel, Nat.le_of_ble_eq_true rfl⟩
theorem zc_Mo_keep : zCl M_Mo_keep 1 := ⟨zt6 130 rfl, zt1 14 rfl, ⟨by decide +kernel, by decide +kernel⟩, by decide +kernel, Nat.le_of_ble_eq_true rfl⟩
theorem zc_Mo_body : zCl M_Mo_body 1 := ⟨zt6 134 rfl, zt1 14 rfl, ⟨by decide +kernel, by decide +kernel⟩, by decide +kernel, Nat.le_of_ble_eq_true rfl⟩
theorem zc_Mo_tick : zCl M_Mo_tick 1 := ⟨zt6 138 rfl, zt1 14 rfl, ⟨by decide +kernel, by decide +kernel⟩, by decide +kernel, Nat.le_of_ble_eq_true rfl⟩
theorem zc_Mo_forget : zCl M_Mo_forget 0 := ⟨zt6 142 rfl, zt1 14 rfl, ⟨by decide +kernel, by decide +kernel⟩, by decide +kernel, Nat.le_of_ble_eq_true rfl⟩
theorem zc_Mo_write : zCl M_Mo_write 1 := ⟨zt6 146 rfl, zt1 14 rfl, ⟨by decide +kernel, by decide +kernel⟩, by decide +kernel, Nat.le_of_ble_eq_true rfl⟩
theorem zc_Mo_count : zCl M_Mo_count 1 := ⟨zt6 150 rfl, zt1 14 rfl, ⟨by decide +kernel, by decide +kernel⟩, by decide +kernel, Nat.le_of_ble_eq_true rfl⟩
