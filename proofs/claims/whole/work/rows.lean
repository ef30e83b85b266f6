section
-- ===== PART A: goes FIRST, ahead of the names: the tables' words, and 'selects' of the private methods out of them =====
/-- a private method of a class that the tables say can be made, by its rows of tables_1 -/
def lw_okq (q : MethodName × Nat) : Prop := (q.1.cls ≠ "java/lang/invoke/MethodHandle" ∧ q.1.cls ≠ "java/lang/invoke/VarHandle") ∧ Cond.instantiable q.1.cls q.2 ∈ tables_1 ∧ Cond.privateMethod q.1 ∈ tables_1 ∧ Cond.instanceMethod q.1 ∈ tables_1
theorem lw_p0 : lw_okq (⟨"NetDesk", "addWord", "(I)V"⟩, 17) := ⟨⟨by decide +kernel, by decide +kernel⟩, List.mem_of_getElem? (i := 29) (by decide +kernel), List.mem_of_getElem? (i := 276) (by decide +kernel), List.mem_of_getElem? (i := 277) (by decide +kernel)⟩
theorem lw_p1 : lw_okq (⟨"NetDesk", "takeText", "()Ljava/lang/String;"⟩, 17) := ⟨⟨by decide +kernel, by decide +kernel⟩, List.mem_of_getElem? (i := 29) (by decide +kernel), List.mem_of_getElem? (i := 419) (by decide +kernel), List.mem_of_getElem? (i := 420) (by decide +kernel)⟩
theorem lw_p2 : lw_okq (⟨"NetDesk$Path", "pop", "()V"⟩, 2) := ⟨⟨by decide +kernel, by decide +kernel⟩, List.mem_of_getElem? (i := 619) (by decide +kernel), List.mem_of_getElem? (i := 689) (by decide +kernel), List.mem_of_getElem? (i := 690) (by decide +kernel)⟩
theorem lw_p3 : lw_okq (⟨"NetDesk$Path", "takeOne", "(Ljava/lang/String;Z)Z"⟩, 2) := ⟨⟨by decide +kernel, by decide +kernel⟩, List.mem_of_getElem? (i := 619) (by decide +kernel), List.mem_of_getElem? (i := 705) (by decide +kernel), List.mem_of_getElem? (i := 706) (by decide +kernel)⟩
theorem lw_p4 : lw_okq (⟨"NetDesk$Path", "push", "(Ljava/lang/String;)V"⟩, 2) := ⟨⟨by decide +kernel, by decide +kernel⟩, List.mem_of_getElem? (i := 619) (by decide +kernel), List.mem_of_getElem? (i := 712) (by decide +kernel), List.mem_of_getElem? (i := 713) (by decide +kernel)⟩
theorem lw_p5 : lw_okq (⟨"NetDesk", "writeAddress", "(LNetDesk$Address;Ljava/lang/String;)I"⟩, 17) := ⟨⟨by decide +kernel, by decide +kernel⟩, List.mem_of_getElem? (i := 29) (by decide +kernel), List.mem_of_getElem? (i := 719) (by decide +kernel), List.mem_of_getElem? (i := 720) (by decide +kernel)⟩
theorem lw_p6 : lw_okq (⟨"NetDesk$ServerText", "takeAddress", "(Ljava/lang/String;)Z"⟩, 4) := ⟨⟨by decide +kernel, by decide +kernel⟩, List.mem_of_getElem? (i := 738) (by decide +kernel), List.mem_of_getElem? (i := 771) (by decide +kernel), List.mem_of_getElem? (i := 772) (by decide +kernel)⟩
theorem lw_p7 : lw_okq (⟨"NetDesk$Fields", "takeAge", "(Ljava/lang/String;)Z"⟩, 6) := ⟨⟨by decide +kernel, by decide +kernel⟩, List.mem_of_getElem? (i := 98) (by decide +kernel), List.mem_of_getElem? (i := 788) (by decide +kernel), List.mem_of_getElem? (i := 789) (by decide +kernel)⟩
theorem lw_p8 : lw_okq (⟨"NetDesk$Fields", "takeCookie", "(Ljava/lang/String;)Z"⟩, 6) := ⟨⟨by decide +kernel, by decide +kernel⟩, List.mem_of_getElem? (i := 98) (by decide +kernel), List.mem_of_getElem? (i := 799) (by decide +kernel), List.mem_of_getElem? (i := 800) (by decide +kernel)⟩
theorem lw_p9 : lw_okq (⟨"NetDesk", "placeOfAnswer", "(LNetDesk$Address;)I"⟩, 17) := ⟨⟨by decide +kernel, by decide +kernel⟩, List.mem_of_getElem? (i := 29) (by decide +kernel), List.mem_of_getElem? (i := 810) (by decide +kernel), List.mem_of_getElem? (i := 811) (by decide +kernel)⟩
theorem lw_p10 : lw_okq (⟨"java/util/ArrayList", "add", "(Ljava/lang/Object;[Ljava/lang/Object;I)V"⟩, 3) := ⟨⟨by decide +kernel, by decide +kernel⟩, List.mem_of_getElem? (i := 163) (by decide +kernel), List.mem_of_getElem? (i := 843) (by decide +kernel), List.mem_of_getElem? (i := 844) (by decide +kernel)⟩
theorem lw_p11 : lw_okq (⟨"java/util/ArrayList", "grow", "()[Ljava/lang/Object;"⟩, 3) := ⟨⟨by decide +kernel, by decide +kernel⟩, List.mem_of_getElem? (i := 163) (by decide +kernel), List.mem_of_getElem? (i := 847) (by decide +kernel), List.mem_of_getElem? (i := 848) (by decide +kernel)⟩
theorem lw_p12 : lw_okq (⟨"java/util/ArrayList", "grow", "(I)[Ljava/lang/Object;"⟩, 3) := ⟨⟨by decide +kernel, by decide +kernel⟩, List.mem_of_getElem? (i := 163) (by decide +kernel), List.mem_of_getElem? (i := 851) (by decide +kernel), List.mem_of_getElem? (i := 852) (by decide +kernel)⟩
theorem lw_p13 : lw_okq (⟨"NetDesk", "follow", "(LNetDesk$Address;)V"⟩, 17) := ⟨⟨by decide +kernel, by decide +kernel⟩, List.mem_of_getElem? (i := 29) (by decide +kernel), List.mem_of_getElem? (i := 889) (by decide +kernel), List.mem_of_getElem? (i := 890) (by decide +kernel)⟩
theorem lw_p14 : lw_okq (⟨"NetDesk", "answerFrom", "(LNetDesk$Address;)LNetDesk$Answer;"⟩, 17) := ⟨⟨by decide +kernel, by decide +kernel⟩, List.mem_of_getElem? (i := 29) (by decide +kernel), List.mem_of_getElem? (i := 893) (by decide +kernel), List.mem_of_getElem? (i := 894) (by decide +kernel)⟩
theorem lw_p15 : lw_okq (⟨"NetDesk$Keep", "placeOf", "(LNetDesk$Address;)I"⟩, 1) := ⟨⟨by decide +kernel, by decide +kernel⟩, List.mem_of_getElem? (i := 201) (by decide +kernel), List.mem_of_getElem? (i := 901) (by decide +kernel), List.mem_of_getElem? (i := 902) (by decide +kernel)⟩
def lw_privs_1 : List (MethodName × Nat) := [(⟨"NetDesk", "addWord", "(I)V"⟩, 17), (⟨"NetDesk", "takeText", "()Ljava/lang/String;"⟩, 17), (⟨"NetDesk$Path", "pop", "()V"⟩, 2), (⟨"NetDesk$Path", "takeOne", "(Ljava/lang/String;Z)Z"⟩, 2), (⟨"NetDesk$Path", "push", "(Ljava/lang/String;)V"⟩, 2), (⟨"NetDesk", "writeAddress", "(LNetDesk$Address;Ljava/lang/String;)I"⟩, 17), (⟨"NetDesk$ServerText", "takeAddress", "(Ljava/lang/String;)Z"⟩, 4), (⟨"NetDesk$Fields", "takeAge", "(Ljava/lang/String;)Z"⟩, 6), (⟨"NetDesk$Fields", "takeCookie", "(Ljava/lang/String;)Z"⟩, 6), (⟨"NetDesk", "placeOfAnswer", "(LNetDesk$Address;)I"⟩, 17), (⟨"java/util/ArrayList", "add", "(Ljava/lang/Object;[Ljava/lang/Object;I)V"⟩, 3), (⟨"java/util/ArrayList", "grow", "()[Ljava/lang/Object;"⟩, 3), (⟨"java/util/ArrayList", "grow", "(I)[Ljava/lang/Object;"⟩, 3), (⟨"NetDesk", "follow", "(LNetDesk$Address;)V"⟩, 17), (⟨"NetDesk", "answerFrom", "(LNetDesk$Address;)LNetDesk$Answer;"⟩, 17), (⟨"NetDesk$Keep", "placeOf", "(LNetDesk$Address;)I"⟩, 1)]
theorem lw_r1 : ∀ q ∈ lw_privs_1, lw_okq q := List.forall_mem_cons.mpr ⟨lw_p0, List.forall_mem_cons.mpr ⟨lw_p1, List.forall_mem_cons.mpr ⟨lw_p2, List.forall_mem_cons.mpr ⟨lw_p3, List.forall_mem_cons.mpr ⟨lw_p4, List.forall_mem_cons.mpr ⟨lw_p5, List.forall_mem_cons.mpr ⟨lw_p6, List.forall_mem_cons.mpr ⟨lw_p7, List.forall_mem_cons.mpr ⟨lw_p8, List.forall_mem_cons.mpr ⟨lw_p9, List.forall_mem_cons.mpr ⟨lw_p10, List.forall_mem_cons.mpr ⟨lw_p11, List.forall_mem_cons.mpr ⟨lw_p12, List.forall_mem_cons.mpr ⟨lw_p13, List.forall_mem_cons.mpr ⟨lw_p14, List.forall_mem_cons.mpr ⟨lw_p15, fun _ h => absurd h List.not_mem_nil⟩⟩⟩⟩⟩⟩⟩⟩⟩⟩⟩⟩⟩⟩⟩⟩
theorem lw_p16 : lw_okq (⟨"NetDesk", "request", "(LNetDesk$Address;)LNetDesk$Answer;"⟩, 17) := ⟨⟨by decide +kernel, by decide +kernel⟩, List.mem_of_getElem? (i := 29) (by decide +kernel), List.mem_of_getElem? (i := 909) (by decide +kernel), List.mem_of_getElem? (i := 910) (by decide +kernel)⟩
theorem lw_p17 : lw_okq (⟨"java/util/ArrayList", "fastRemove", "([Ljava/lang/Object;I)V"⟩, 3) := ⟨⟨by decide +kernel, by decide +kernel⟩, List.mem_of_getElem? (i := 163) (by decide +kernel), List.mem_of_getElem? (i := 973) (by decide +kernel), List.mem_of_getElem? (i := 974) (by decide +kernel)⟩
theorem lw_p18 : lw_okq (⟨"NetDeskModel", "take", "()I"⟩, 51) := ⟨⟨by decide +kernel, by decide +kernel⟩, List.mem_of_getElem? (i := 1021) (by decide +kernel), List.mem_of_getElem? (i := 1019) (by decide +kernel), List.mem_of_getElem? (i := 1020) (by decide +kernel)⟩
theorem lw_p19 : lw_okq (⟨"NetDeskModel", "tokenEnd", "(I)I"⟩, 51) := ⟨⟨by decide +kernel, by decide +kernel⟩, List.mem_of_getElem? (i := 1021) (by decide +kernel), List.mem_of_getElem? (i := 1027) (by decide +kernel), List.mem_of_getElem? (i := 1028) (by decide +kernel)⟩
theorem lw_p20 : lw_okq (⟨"NetDeskModel", "refer", "([BIII)Z"⟩, 51) := ⟨⟨by decide +kernel, by decide +kernel⟩, List.mem_of_getElem? (i := 1021) (by decide +kernel), List.mem_of_getElem? (i := 1034) (by decide +kernel), List.mem_of_getElem? (i := 1035) (by decide +kernel)⟩
theorem lw_p21 : lw_okq (⟨"NetDeskModel", "put", "(II)V"⟩, 51) := ⟨⟨by decide +kernel, by decide +kernel⟩, List.mem_of_getElem? (i := 1021) (by decide +kernel), List.mem_of_getElem? (i := 1047) (by decide +kernel), List.mem_of_getElem? (i := 1048) (by decide +kernel)⟩
theorem lw_p22 : lw_okq (⟨"NetDeskModel", "segments", "([BI)Z"⟩, 51) := ⟨⟨by decide +kernel, by decide +kernel⟩, List.mem_of_getElem? (i := 1021) (by decide +kernel), List.mem_of_getElem? (i := 1051) (by decide +kernel), List.mem_of_getElem? (i := 1052) (by decide +kernel)⟩
theorem lw_p23 : lw_okq (⟨"NetDeskModel", "oneSegment", "([BI)Z"⟩, 51) := ⟨⟨by decide +kernel, by decide +kernel⟩, List.mem_of_getElem? (i := 1021) (by decide +kernel), List.mem_of_getElem? (i := 1055) (by decide +kernel), List.mem_of_getElem? (i := 1056) (by decide +kernel)⟩
theorem lw_p24 : lw_okq (⟨"NetDeskModel", "segment", "([BII)V"⟩, 51) := ⟨⟨by decide +kernel, by decide +kernel⟩, List.mem_of_getElem? (i := 1021) (by decide +kernel), List.mem_of_getElem? (i := 1062) (by decide +kernel), List.mem_of_getElem? (i := 1063) (by decide +kernel)⟩
theorem lw_p25 : lw_okq (⟨"NetDeskModel", "siteEnd", "(I)I"⟩, 51) := ⟨⟨by decide +kernel, by decide +kernel⟩, List.mem_of_getElem? (i := 1021) (by decide +kernel), List.mem_of_getElem? (i := 1066) (by decide +kernel), List.mem_of_getElem? (i := 1067) (by decide +kernel)⟩
theorem lw_p26 : lw_okq (⟨"NetDeskModel", "baseSegments", "(IZ)V"⟩, 51) := ⟨⟨by decide +kernel, by decide +kernel⟩, List.mem_of_getElem? (i := 1021) (by decide +kernel), List.mem_of_getElem? (i := 1070) (by decide +kernel), List.mem_of_getElem? (i := 1071) (by decide +kernel)⟩
theorem lw_p27 : lw_okq (⟨"NetDeskModel", "queryAt", "(I)I"⟩, 51) := ⟨⟨by decide +kernel, by decide +kernel⟩, List.mem_of_getElem? (i := 1021) (by decide +kernel), List.mem_of_getElem? (i := 1074) (by decide +kernel), List.mem_of_getElem? (i := 1075) (by decide +kernel)⟩
theorem lw_p28 : lw_okq (⟨"NetDeskModel", "query", "([BIIZ)Z"⟩, 51) := ⟨⟨by decide +kernel, by decide +kernel⟩, List.mem_of_getElem? (i := 1021) (by decide +kernel), List.mem_of_getElem? (i := 1078) (by decide +kernel), List.mem_of_getElem? (i := 1079) (by decide +kernel)⟩
theorem lw_p29 : lw_okq (⟨"NetDeskModel", "copyRow", "(II)V"⟩, 51) := ⟨⟨by decide +kernel, by decide +kernel⟩, List.mem_of_getElem? (i := 1021) (by decide +kernel), List.mem_of_getElem? (i := 1085) (by decide +kernel), List.mem_of_getElem? (i := 1086) (by decide +kernel)⟩
theorem lw_p30 : lw_okq (⟨"NetDeskModel", "field", "(II)Z"⟩, 51) := ⟨⟨by decide +kernel, by decide +kernel⟩, List.mem_of_getElem? (i := 1021) (by decide +kernel), List.mem_of_getElem? (i := 1089) (by decide +kernel), List.mem_of_getElem? (i := 1090) (by decide +kernel)⟩
theorem lw_p31 : lw_okq (⟨"NetDeskModel", "alike", "(II)Z"⟩, 51) := ⟨⟨by decide +kernel, by decide +kernel⟩, List.mem_of_getElem? (i := 1021) (by decide +kernel), List.mem_of_getElem? (i := 1101) (by decide +kernel), List.mem_of_getElem? (i := 1102) (by decide +kernel)⟩
def lw_privs_2 : List (MethodName × Nat) := [(⟨"NetDesk", "request", "(LNetDesk$Address;)LNetDesk$Answer;"⟩, 17), (⟨"java/util/ArrayList", "fastRemove", "([Ljava/lang/Object;I)V"⟩, 3), (⟨"NetDeskModel", "take", "()I"⟩, 51), (⟨"NetDeskModel", "tokenEnd", "(I)I"⟩, 51), (⟨"NetDeskModel", "refer", "([BIII)Z"⟩, 51), (⟨"NetDeskModel", "put", "(II)V"⟩, 51), (⟨"NetDeskModel", "segments", "([BI)Z"⟩, 51), (⟨"NetDeskModel", "oneSegment", "([BI)Z"⟩, 51), (⟨"NetDeskModel", "segment", "([BII)V"⟩, 51), (⟨"NetDeskModel", "siteEnd", "(I)I"⟩, 51), (⟨"NetDeskModel", "baseSegments", "(IZ)V"⟩, 51), (⟨"NetDeskModel", "queryAt", "(I)I"⟩, 51), (⟨"NetDeskModel", "query", "([BIIZ)Z"⟩, 51), (⟨"NetDeskModel", "copyRow", "(II)V"⟩, 51), (⟨"NetDeskModel", "field", "(II)Z"⟩, 51), (⟨"NetDeskModel", "alike", "(II)Z"⟩, 51)]
theorem lw_r2 : ∀ q ∈ lw_privs_2, lw_okq q := List.forall_mem_cons.mpr ⟨lw_p16, List.forall_mem_cons.mpr ⟨lw_p17, List.forall_mem_cons.mpr ⟨lw_p18, List.forall_mem_cons.mpr ⟨lw_p19, List.forall_mem_cons.mpr ⟨lw_p20, List.forall_mem_cons.mpr ⟨lw_p21, List.forall_mem_cons.mpr ⟨lw_p22, List.forall_mem_cons.mpr ⟨lw_p23, List.forall_mem_cons.mpr ⟨lw_p24, List.forall_mem_cons.mpr ⟨lw_p25, List.forall_mem_cons.mpr ⟨lw_p26, List.forall_mem_cons.mpr ⟨lw_p27, List.forall_mem_cons.mpr ⟨lw_p28, List.forall_mem_cons.mpr ⟨lw_p29, List.forall_mem_cons.mpr ⟨lw_p30, List.forall_mem_cons.mpr ⟨lw_p31, fun _ h => absurd h List.not_mem_nil⟩⟩⟩⟩⟩⟩⟩⟩⟩⟩⟩⟩⟩⟩⟩⟩
theorem lw_p32 : lw_okq (⟨"NetDeskModel", "putFour", "(I)V"⟩, 51) := ⟨⟨by decide +kernel, by decide +kernel⟩, List.mem_of_getElem? (i := 1021) (by decide +kernel), List.mem_of_getElem? (i := 1272) (by decide +kernel), List.mem_of_getElem? (i := 1273) (by decide +kernel)⟩
theorem lw_p33 : lw_okq (⟨"NetDeskModel", "sayRow", "(I)V"⟩, 51) := ⟨⟨by decide +kernel, by decide +kernel⟩, List.mem_of_getElem? (i := 1021) (by decide +kernel), List.mem_of_getElem? (i := 1288) (by decide +kernel), List.mem_of_getElem? (i := 1289) (by decide +kernel)⟩
theorem lw_p34 : lw_okq (⟨"NetDeskModel", "sayAll", "([BII)V"⟩, 51) := ⟨⟨by decide +kernel, by decide +kernel⟩, List.mem_of_getElem? (i := 1021) (by decide +kernel), List.mem_of_getElem? (i := 1292) (by decide +kernel), List.mem_of_getElem? (i := 1293) (by decide +kernel)⟩
theorem lw_p35 : lw_okq (⟨"NetDeskModel", "say", "(I)V"⟩, 51) := ⟨⟨by decide +kernel, by decide +kernel⟩, List.mem_of_getElem? (i := 1021) (by decide +kernel), List.mem_of_getElem? (i := 1296) (by decide +kernel), List.mem_of_getElem? (i := 1297) (by decide +kernel)⟩
theorem lw_p36 : lw_okq (⟨"NetDeskModel", "fetchIt", "()V"⟩, 51) := ⟨⟨by decide +kernel, by decide +kernel⟩, List.mem_of_getElem? (i := 1021) (by decide +kernel), List.mem_of_getElem? (i := 1308) (by decide +kernel), List.mem_of_getElem? (i := 1309) (by decide +kernel)⟩
theorem lw_p37 : lw_okq (⟨"NetDeskModel", "ask", "()V"⟩, 51) := ⟨⟨by decide +kernel, by decide +kernel⟩, List.mem_of_getElem? (i := 1021) (by decide +kernel), List.mem_of_getElem? (i := 1312) (by decide +kernel), List.mem_of_getElem? (i := 1313) (by decide +kernel)⟩
theorem lw_p38 : lw_okq (⟨"NetDeskModel", "tellCookies", "()V"⟩, 51) := ⟨⟨by decide +kernel, by decide +kernel⟩, List.mem_of_getElem? (i := 1021) (by decide +kernel), List.mem_of_getElem? (i := 1316) (by decide +kernel), List.mem_of_getElem? (i := 1317) (by decide +kernel)⟩
theorem lw_p39 : lw_okq (⟨"NetDeskModel", "send", "(I)V"⟩, 51) := ⟨⟨by decide +kernel, by decide +kernel⟩, List.mem_of_getElem? (i := 1021) (by decide +kernel), List.mem_of_getElem? (i := 1320) (by decide +kernel), List.mem_of_getElem? (i := 1321) (by decide +kernel)⟩
theorem lw_p40 : lw_okq (⟨"NetDeskModel", "dropCookie", "(I)V"⟩, 51) := ⟨⟨by decide +kernel, by decide +kernel⟩, List.mem_of_getElem? (i := 1021) (by decide +kernel), List.mem_of_getElem? (i := 1324) (by decide +kernel), List.mem_of_getElem? (i := 1325) (by decide +kernel)⟩
theorem lw_p41 : lw_okq (⟨"NetDeskModel", "keep", "(I)V"⟩, 51) := ⟨⟨by decide +kernel, by decide +kernel⟩, List.mem_of_getElem? (i := 1021) (by decide +kernel), List.mem_of_getElem? (i := 1328) (by decide +kernel), List.mem_of_getElem? (i := 1329) (by decide +kernel)⟩
def lw_privs_3 : List (MethodName × Nat) := [(⟨"NetDeskModel", "putFour", "(I)V"⟩, 51), (⟨"NetDeskModel", "sayRow", "(I)V"⟩, 51), (⟨"NetDeskModel", "sayAll", "([BII)V"⟩, 51), (⟨"NetDeskModel", "say", "(I)V"⟩, 51), (⟨"NetDeskModel", "fetchIt", "()V"⟩, 51), (⟨"NetDeskModel", "ask", "()V"⟩, 51), (⟨"NetDeskModel", "tellCookies", "()V"⟩, 51), (⟨"NetDeskModel", "send", "(I)V"⟩, 51), (⟨"NetDeskModel", "dropCookie", "(I)V"⟩, 51), (⟨"NetDeskModel", "keep", "(I)V"⟩, 51)]
theorem lw_r3 : ∀ q ∈ lw_privs_3, lw_okq q := List.forall_mem_cons.mpr ⟨lw_p32, List.forall_mem_cons.mpr ⟨lw_p33, List.forall_mem_cons.mpr ⟨lw_p34, List.forall_mem_cons.mpr ⟨lw_p35, List.forall_mem_cons.mpr ⟨lw_p36, List.forall_mem_cons.mpr ⟨lw_p37, List.forall_mem_cons.mpr ⟨lw_p38, List.forall_mem_cons.mpr ⟨lw_p39, List.forall_mem_cons.mpr ⟨lw_p40, List.forall_mem_cons.mpr ⟨lw_p41, fun _ h => absurd h List.not_mem_nil⟩⟩⟩⟩⟩⟩⟩⟩⟩⟩
def lw_privs : List (MethodName × Nat) := lw_privs_1 ++ (lw_privs_2 ++ (lw_privs_3))
def lw_tbl : List Cond := k2_sels lw_privs ++ tables_1
theorem lw_privs_ok : ∀ q ∈ lw_privs, lw_okq q := by
  show ∀ q ∈ lw_privs_1 ++ (lw_privs_2 ++ (lw_privs_3)), lw_okq q
  exact List.forall_mem_append.mpr ⟨lw_r1, List.forall_mem_append.mpr ⟨lw_r2, lw_r3⟩⟩

theorem zapp {α : Type} {w : α} {a b : List α} (h : w ∈ b) : w ∈ a ++ b := List.mem_append_right _ h
theorem zt1 (i : Nat) {w : Cond} (h : tables_1_1[i]? = some w) : w ∈ lw_tbl := List.mem_append_right _ (show w ∈ tables_1 from List.mem_append_left _ (List.mem_of_getElem? h))
theorem zt2 (i : Nat) {w : Cond} (h : tables_1_2[i]? = some w) : w ∈ lw_tbl := List.mem_append_right _ (show w ∈ tables_1 from List.mem_append_right _ (List.mem_append_left _ (List.mem_of_getElem? h)))
theorem zt3 (i : Nat) {w : Cond} (h : tables_1_3[i]? = some w) : w ∈ lw_tbl := List.mem_append_right _ (show w ∈ tables_1 from List.mem_append_right _ (List.mem_append_right _ (List.mem_append_left _ (List.mem_of_getElem? h))))
theorem zt4 (i : Nat) {w : Cond} (h : tables_1_4[i]? = some w) : w ∈ lw_tbl := List.mem_append_right _ (show w ∈ tables_1 from List.mem_append_right _ (List.mem_append_right _ (List.mem_append_right _ (List.mem_append_left _ (List.mem_of_getElem? h)))))
theorem zt5 (i : Nat) {w : Cond} (h : tables_1_5[i]? = some w) : w ∈ lw_tbl := List.mem_append_right _ (show w ∈ tables_1 from List.mem_append_right _ (List.mem_append_right _ (List.mem_append_right _ (List.mem_append_right _ (List.mem_append_left _ (List.mem_of_getElem? h))))))
theorem zt6 (i : Nat) {w : Cond} (h : tables_1_6[i]? = some w) : w ∈ lw_tbl := List.mem_append_right _ (show w ∈ tables_1 from List.mem_append_right _ (List.mem_append_right _ (List.mem_append_right _ (List.mem_append_right _ (List.mem_append_right _ (List.mem_of_getElem? h))))))
theorem zsel (i : Nat) {q : MethodName × Nat} (h : lw_privs[i]? = some q) : Cond.selects q.1.cls q.1 q.1 ∈ lw_tbl := List.mem_append_left _ (List.mem_map.mpr ⟨q, List.mem_of_getElem? h, rfl⟩)
theorem zo_inst : Cond.instanceMethod objectInit ∈ lw_tbl := zt1 34 (by decide +kernel)
-- ['(Jvm.Cond.code ({ cls := "java/lang/Object", name := "<init>", desc := "()V" } : Jvm.MethodName) object_method_1_code (1 : Nat) (Option.none : Option Jvm.ClassFile.FieldType))']
theorem zo_code : Cond.code objectInit ⟨#[0xb1]⟩ 1 none ∈ lw_tbl := zt1 35 (by decide +kernel)
def R_N : String := "NetDesk"
def T_N : u_T := fun k => match k with
  | 0 => ("NetDesk", "tape", "Ljava/lang/StringBuilder;", true)
  | 1 => ("NetDesk", "written", "Ljava/lang/StringBuilder;", true)
  | 2 => ("NetDesk", "home", "LNetDesk$Address;", true)
  | 3 => ("NetDesk", "empty", "LNetDesk$Answer;", true)
  | 4 => ("NetDesk", "answers", "Ljava/util/ArrayList;", true)
  | 5 => ("NetDesk", "jar", "LNetDesk$Jar;", true)
  | 6 => ("NetDesk", "keep", "LNetDesk$Keep;", true)
  | 7 => ("NetDesk", "requestCookies", "Ljava/lang/StringBuilder;", true)
  | 8 => ("NetDesk", "theBase", "LNetDesk$Address;", false)
  | 9 => ("NetDesk", "clock", "I", false)
  | 10 => ("NetDesk", "requests", "I", false)
  | 11 => ("NetDesk", "requestAt", "LNetDesk$Address;", false)
  | 12 => ("NetDesk", "came", "LNetDesk$Answer;", false)
  | 13 => ("NetDesk", "cameFrom", "LNetDesk$Address;", false)
  | 14 => ("NetDesk", "firstMark", "Ljava/lang/String;", false)
  | 15 => ("NetDesk", "followed", "I", false)
  | _ => ("NetDesk", "cameKept", "Z", false)
def ty_N : Nat → FieldType := fun k => match k with
  | 0 => (.object "java/lang/StringBuilder")
  | 1 => (.object "java/lang/StringBuilder")
  | 2 => (.object "NetDesk$Address")
  | 3 => (.object "NetDesk$Answer")
  | 4 => (.object "java/util/ArrayList")
  | 5 => (.object "NetDesk$Jar")
  | 6 => (.object "NetDesk$Keep")
  | 7 => (.object "java/lang/StringBuilder")
  | 8 => (.object "NetDesk$Address")
  | 9 => .int
  | 10 => .int
  | 11 => (.object "NetDesk$Address")
  | 12 => (.object "NetDesk$Answer")
  | 13 => (.object "NetDesk$Address")
  | 14 => (.object "java/lang/String")
  | 15 => .int
  | _ => .boolean
theorem nm_N : ∀ a, a < 17 → ∀ b, b < 17 → a ≠ b → (T_N a).2.1 ≠ (T_N b).2.1 := by decide +kernel
theorem tyok_N : ∀ k, k < 17 → parseFieldDescriptor (T_N k).2.2.1 = some (ty_N k) := by decide +kernel
set_option maxRecDepth 20000 in
theorem in_N : ∀ w ∈ u_ws "NetDesk" T_N 17, w ∈ lw_tbl := by
  have h : (u_ws "NetDesk" T_N 17).all (fun w => decide (w ∈ tables_1)) = true := by decide +kernel
  exact fun w hw => List.mem_append_right _ (of_decide_eq_true (List.all_eq_true.mp h w hw))
theorem zDf_N : ∀ j, j < ([.null, .null, .null, .null, .null, .null, .null, .null, .null, .int 0, .int 0, .null, .null, .null, .null, .int 0, .int 0] : List Value).length → ([.null, .null, .null, .null, .null, .null, .null, .null, .null, .int 0, .int 0, .null, .null, .null, .null, .int 0, .int 0] : List Value)[j]? = some (defaultValue (ty_N j)) := by decide +kernel
def R_Sb : String := "java/lang/StringBuilder"
def T_Sb : u_T := fun k => match k with
  | 0 => ("java/lang/AbstractStringBuilder", "value", "[B", false)
  | 1 => ("java/lang/AbstractStringBuilder", "coder", "B", false)
  | 2 => ("java/lang/AbstractStringBuilder", "maybeLatin1", "Z", false)
  | _ => ("java/lang/AbstractStringBuilder", "count", "I", false)
def ty_Sb : Nat → FieldType := fun k => match k with
  | 0 => (.array .byte)
  | 1 => .byte
  | 2 => .boolean
  | _ => .int
theorem nm_Sb : ∀ a, a < 4 → ∀ b, b < 4 → a ≠ b → (T_Sb a).2.1 ≠ (T_Sb b).2.1 := by decide +kernel
theorem tyok_Sb : ∀ k, k < 4 → parseFieldDescriptor (T_Sb k).2.2.1 = some (ty_Sb k) := by decide +kernel
set_option maxRecDepth 20000 in
theorem in_Sb : ∀ w ∈ u_ws "java/lang/StringBuilder" T_Sb 4, w ∈ lw_tbl := by
  have h : (u_ws "java/lang/StringBuilder" T_Sb 4).all (fun w => decide (w ∈ tables_1)) = true := by decide +kernel
  exact fun w hw => List.mem_append_right _ (of_decide_eq_true (List.all_eq_true.mp h w hw))
theorem zDf_Sb : ∀ j, j < ([.null, .int 0, .int 0, .int 0] : List Value).length → ([.null, .int 0, .int 0, .int 0] : List Value)[j]? = some (defaultValue (ty_Sb j)) := by decide +kernel
def R_Ad : String := "NetDesk$Address"
def T_Ad : u_T := fun k => match k with
  | 0 => ("NetDesk$Address", "site", "Ljava/lang/String;", true)
  | 1 => ("NetDesk$Address", "path", "Ljava/lang/String;", true)
  | 2 => ("NetDesk$Address", "query", "Ljava/lang/String;", true)
  | _ => ("NetDesk$Address", "mark", "Ljava/lang/String;", true)
def ty_Ad : Nat → FieldType := fun k => match k with
  | 0 => (.object "java/lang/String")
  | 1 => (.object "java/lang/String")
  | 2 => (.object "java/lang/String")
  | _ => (.object "java/lang/String")
theorem nm_Ad : ∀ a, a < 4 → ∀ b, b < 4 → a ≠ b → (T_Ad a).2.1 ≠ (T_Ad b).2.1 := by decide +kernel
theorem tyok_Ad : ∀ k, k < 4 → parseFieldDescriptor (T_Ad k).2.2.1 = some (ty_Ad k) := by decide +kernel
set_option maxRecDepth 20000 in
theorem in_Ad : ∀ w ∈ u_ws "NetDesk$Address" T_Ad 4, w ∈ lw_tbl := by
  have h : (u_ws "NetDesk$Address" T_Ad 4).all (fun w => decide (w ∈ tables_1)) = true := by decide +kernel
  exact fun w hw => List.mem_append_right _ (of_decide_eq_true (List.all_eq_true.mp h w hw))
theorem zDf_Ad : ∀ j, j < ([.null, .null, .null, .null] : List Value).length → ([.null, .null, .null, .null] : List Value)[j]? = some (defaultValue (ty_Ad j)) := by decide +kernel
def R_An : String := "NetDesk$Answer"
def T_An : u_T := fun k => match k with
  | 0 => ("NetDesk$Answer", "at", "LNetDesk$Address;", true)
  | 1 => ("NetDesk$Answer", "age", "I", true)
  | 2 => ("NetDesk$Answer", "cookieName", "Ljava/lang/String;", true)
  | 3 => ("NetDesk$Answer", "cookieValue", "Ljava/lang/String;", true)
  | 4 => ("NetDesk$Answer", "to", "LNetDesk$Address;", true)
  | 5 => ("NetDesk$Answer", "open", "Z", true)
  | _ => ("NetDesk$Answer", "content", "Ljava/lang/String;", true)
def ty_An : Nat → FieldType := fun k => match k with
  | 0 => (.object "NetDesk$Address")
  | 1 => .int
  | 2 => (.object "java/lang/String")
  | 3 => (.object "java/lang/String")
  | 4 => (.object "NetDesk$Address")
  | 5 => .boolean
  | _ => (.object "java/lang/String")
theorem nm_An : ∀ a, a < 7 → ∀ b, b < 7 → a ≠ b → (T_An a).2.1 ≠ (T_An b).2.1 := by decide +kernel
theorem tyok_An : ∀ k, k < 7 → parseFieldDescriptor (T_An k).2.2.1 = some (ty_An k) := by decide +kernel
set_option maxRecDepth 20000 in
theorem in_An : ∀ w ∈ u_ws "NetDesk$Answer" T_An 7, w ∈ lw_tbl := by
  have h : (u_ws "NetDesk$Answer" T_An 7).all (fun w => decide (w ∈ tables_1)) = true := by decide +kernel
  exact fun w hw => List.mem_append_right _ (of_decide_eq_true (List.all_eq_true.mp h w hw))
theorem zDf_An : ∀ j, j < ([.null, .int 0, .null, .null, .null, .int 0, .null] : List Value).length → ([.null, .int 0, .null, .null, .null, .int 0, .null] : List Value)[j]? = some (defaultValue (ty_An j)) := by decide +kernel
def R_Fl : String := "NetDesk$Fields"
def T_Fl : u_T := fun k => match k with
  | 0 => ("NetDesk$Fields", "hasAge", "Z", false)
  | 1 => ("NetDesk$Fields", "age", "I", false)
  | 2 => ("NetDesk$Fields", "cookieName", "Ljava/lang/String;", false)
  | 3 => ("NetDesk$Fields", "cookieValue", "Ljava/lang/String;", false)
  | 4 => ("NetDesk$Fields", "to", "LNetDesk$Address;", false)
  | _ => ("NetDesk$Fields", "open", "Z", false)
def ty_Fl : Nat → FieldType := fun k => match k with
  | 0 => .boolean
  | 1 => .int
  | 2 => (.object "java/lang/String")
  | 3 => (.object "java/lang/String")
  | 4 => (.object "NetDesk$Address")
  | _ => .boolean
theorem nm_Fl : ∀ a, a < 6 → ∀ b, b < 6 → a ≠ b → (T_Fl a).2.1 ≠ (T_Fl b).2.1 := by decide +kernel
theorem tyok_Fl : ∀ k, k < 6 → parseFieldDescriptor (T_Fl k).2.2.1 = some (ty_Fl k) := by decide +kernel
set_option maxRecDepth 20000 in
theorem in_Fl : ∀ w ∈ u_ws "NetDesk$Fields" T_Fl 6, w ∈ lw_tbl := by
  have h : (u_ws "NetDesk$Fields" T_Fl 6).all (fun w => decide (w ∈ tables_1)) = true := by decide +kernel
  exact fun w hw => List.mem_append_right _ (of_decide_eq_true (List.all_eq_true.mp h w hw))
theorem zDf_Fl : ∀ j, j < ([.int 0, .int 0, .null, .null, .null, .int 0] : List Value).length → ([.int 0, .int 0, .null, .null, .null, .int 0] : List Value)[j]? = some (defaultValue (ty_Fl j)) := by decide +kernel
def R_Al : String := "java/util/ArrayList"
def T_Al : u_T := fun k => match k with
  | 0 => ("java/util/ArrayList", "elementData", "[Ljava/lang/Object;", false)
  | 1 => ("java/util/ArrayList", "size", "I", false)
  | _ => ("java/util/AbstractList", "modCount", "I", false)
def ty_Al : Nat → FieldType := fun k => match k with
  | 0 => (.array (.object "java/lang/Object"))
  | 1 => .int
  | _ => .int
theorem nm_Al : ∀ a, a < 3 → ∀ b, b < 3 → a ≠ b → (T_Al a).2.1 ≠ (T_Al b).2.1 := by decide +kernel
theorem tyok_Al : ∀ k, k < 3 → parseFieldDescriptor (T_Al k).2.2.1 = some (ty_Al k) := by decide +kernel
set_option maxRecDepth 20000 in
theorem in_Al : ∀ w ∈ u_ws "java/util/ArrayList" T_Al 3, w ∈ lw_tbl := by
  have h : (u_ws "java/util/ArrayList" T_Al 3).all (fun w => decide (w ∈ tables_1)) = true := by decide +kernel
  exact fun w hw => List.mem_append_right _ (of_decide_eq_true (List.all_eq_true.mp h w hw))
theorem zDf_Al : ∀ j, j < ([.null, .int 0, .int 0] : List Value).length → ([.null, .int 0, .int 0] : List Value)[j]? = some (defaultValue (ty_Al j)) := by decide +kernel
def R_Jr : String := "NetDesk$Jar"
def T_Jr : u_T := fun k => match k with
  | _ => ("NetDesk$Jar", "cookies", "Ljava/util/ArrayList;", true)
def ty_Jr : Nat → FieldType := fun k => match k with
  | _ => (.object "java/util/ArrayList")
theorem nm_Jr : ∀ a, a < 1 → ∀ b, b < 1 → a ≠ b → (T_Jr a).2.1 ≠ (T_Jr b).2.1 := by decide +kernel
theorem tyok_Jr : ∀ k, k < 1 → parseFieldDescriptor (T_Jr k).2.2.1 = some (ty_Jr k) := by decide +kernel
set_option maxRecDepth 20000 in
theorem in_Jr : ∀ w ∈ u_ws "NetDesk$Jar" T_Jr 1, w ∈ lw_tbl := by
  have h : (u_ws "NetDesk$Jar" T_Jr 1).all (fun w => decide (w ∈ tables_1)) = true := by decide +kernel
  exact fun w hw => List.mem_append_right _ (of_decide_eq_true (List.all_eq_true.mp h w hw))
theorem zDf_Jr : ∀ j, j < ([.null] : List Value).length → ([.null] : List Value)[j]? = some (defaultValue (ty_Jr j)) := by decide +kernel
def R_Kp : String := "NetDesk$Keep"
def T_Kp : u_T := fun k => match k with
  | _ => ("NetDesk$Keep", "all", "Ljava/util/ArrayList;", true)
def ty_Kp : Nat → FieldType := fun k => match k with
  | _ => (.object "java/util/ArrayList")
theorem nm_Kp : ∀ a, a < 1 → ∀ b, b < 1 → a ≠ b → (T_Kp a).2.1 ≠ (T_Kp b).2.1 := by decide +kernel
theorem tyok_Kp : ∀ k, k < 1 → parseFieldDescriptor (T_Kp k).2.2.1 = some (ty_Kp k) := by decide +kernel
set_option maxRecDepth 20000 in
theorem in_Kp : ∀ w ∈ u_ws "NetDesk$Keep" T_Kp 1, w ∈ lw_tbl := by
  have h : (u_ws "NetDesk$Keep" T_Kp 1).all (fun w => decide (w ∈ tables_1)) = true := by decide +kernel
  exact fun w hw => List.mem_append_right _ (of_decide_eq_true (List.all_eq_true.mp h w hw))
theorem zDf_Kp : ∀ j, j < ([.null] : List Value).length → ([.null] : List Value)[j]? = some (defaultValue (ty_Kp j)) := by decide +kernel
def R_St : String := "java/lang/String"
def T_St : u_T := fun k => match k with
  | 0 => ("java/lang/String", "value", "[B", true)
  | 1 => ("java/lang/String", "coder", "B", true)
  | 2 => ("java/lang/String", "hash", "I", false)
  | _ => ("java/lang/String", "hashIsZero", "Z", false)
def ty_St : Nat → FieldType := fun k => match k with
  | 0 => (.array .byte)
  | 1 => .byte
  | 2 => .int
  | _ => .boolean
theorem nm_St : ∀ a, a < 4 → ∀ b, b < 4 → a ≠ b → (T_St a).2.1 ≠ (T_St b).2.1 := by decide +kernel
theorem tyok_St : ∀ k, k < 4 → parseFieldDescriptor (T_St k).2.2.1 = some (ty_St k) := by decide +kernel
set_option maxRecDepth 20000 in
theorem in_St : ∀ w ∈ u_ws "java/lang/String" T_St 4, w ∈ lw_tbl := by
  have h : (u_ws "java/lang/String" T_St 4).all (fun w => decide (w ∈ tables_1)) = true := by decide +kernel
  exact fun w hw => List.mem_append_right _ (of_decide_eq_true (List.all_eq_true.mp h w hw))
theorem zDf_St : ∀ j, j < ([.null, .int 0, .int 0, .int 0] : List Value).length → ([.null, .int 0, .int 0, .int 0] : List Value)[j]? = some (defaultValue (ty_St j)) := by decide +kernel
def R_Pt : String := "NetDesk$Path"
def T_Pt : u_T := fun k => match k with
  | 0 => ("NetDesk$Path", "joined", "Ljava/lang/StringBuilder;", true)
  | _ => ("NetDesk$Path", "size", "I", false)
def ty_Pt : Nat → FieldType := fun k => match k with
  | 0 => (.object "java/lang/StringBuilder")
  | _ => .int
theorem nm_Pt : ∀ a, a < 2 → ∀ b, b < 2 → a ≠ b → (T_Pt a).2.1 ≠ (T_Pt b).2.1 := by decide +kernel
theorem tyok_Pt : ∀ k, k < 2 → parseFieldDescriptor (T_Pt k).2.2.1 = some (ty_Pt k) := by decide +kernel
set_option maxRecDepth 20000 in
theorem in_Pt : ∀ w ∈ u_ws "NetDesk$Path" T_Pt 2, w ∈ lw_tbl := by
  have h : (u_ws "NetDesk$Path" T_Pt 2).all (fun w => decide (w ∈ tables_1)) = true := by decide +kernel
  exact fun w hw => List.mem_append_right _ (of_decide_eq_true (List.all_eq_true.mp h w hw))
theorem zDf_Pt : ∀ j, j < ([.null, .int 0] : List Value).length → ([.null, .int 0] : List Value)[j]? = some (defaultValue (ty_Pt j)) := by decide +kernel
def R_Sv : String := "NetDesk$ServerText"
def T_Sv : u_T := fun k => match k with
  | 0 => ("NetDesk$ServerText", "text", "Ljava/lang/String;", true)
  | 1 => ("NetDesk$ServerText", "fields", "LNetDesk$Fields;", true)
  | 2 => ("NetDesk$ServerText", "at", "LNetDesk$Address;", false)
  | _ => ("NetDesk$ServerText", "content", "Ljava/lang/String;", false)
def ty_Sv : Nat → FieldType := fun k => match k with
  | 0 => (.object "java/lang/String")
  | 1 => (.object "NetDesk$Fields")
  | 2 => (.object "NetDesk$Address")
  | _ => (.object "java/lang/String")
theorem nm_Sv : ∀ a, a < 4 → ∀ b, b < 4 → a ≠ b → (T_Sv a).2.1 ≠ (T_Sv b).2.1 := by decide +kernel
theorem tyok_Sv : ∀ k, k < 4 → parseFieldDescriptor (T_Sv k).2.2.1 = some (ty_Sv k) := by decide +kernel
set_option maxRecDepth 20000 in
theorem in_Sv : ∀ w ∈ u_ws "NetDesk$ServerText" T_Sv 4, w ∈ lw_tbl := by
  have h : (u_ws "NetDesk$ServerText" T_Sv 4).all (fun w => decide (w ∈ tables_1)) = true := by decide +kernel
  exact fun w hw => List.mem_append_right _ (of_decide_eq_true (List.all_eq_true.mp h w hw))
theorem zDf_Sv : ∀ j, j < ([.null, .null, .null, .null] : List Value).length → ([.null, .null, .null, .null] : List Value)[j]? = some (defaultValue (ty_Sv j)) := by decide +kernel
def R_Ck : String := "NetDesk$Cookie"
def T_Ck : u_T := fun k => match k with
  | 0 => ("NetDesk$Cookie", "site", "Ljava/lang/String;", true)
  | 1 => ("NetDesk$Cookie", "name", "Ljava/lang/String;", true)
  | _ => ("NetDesk$Cookie", "value", "Ljava/lang/String;", true)
def ty_Ck : Nat → FieldType := fun k => match k with
  | 0 => (.object "java/lang/String")
  | 1 => (.object "java/lang/String")
  | _ => (.object "java/lang/String")
theorem nm_Ck : ∀ a, a < 3 → ∀ b, b < 3 → a ≠ b → (T_Ck a).2.1 ≠ (T_Ck b).2.1 := by decide +kernel
theorem tyok_Ck : ∀ k, k < 3 → parseFieldDescriptor (T_Ck k).2.2.1 = some (ty_Ck k) := by decide +kernel
set_option maxRecDepth 20000 in
theorem in_Ck : ∀ w ∈ u_ws "NetDesk$Cookie" T_Ck 3, w ∈ lw_tbl := by
  have h : (u_ws "NetDesk$Cookie" T_Ck 3).all (fun w => decide (w ∈ tables_1)) = true := by decide +kernel
  exact fun w hw => List.mem_append_right _ (of_decide_eq_true (List.all_eq_true.mp h w hw))
theorem zDf_Ck : ∀ j, j < ([.null, .null, .null] : List Value).length → ([.null, .null, .null] : List Value)[j]? = some (defaultValue (ty_Ck j)) := by decide +kernel
def R_Kt : String := "NetDesk$Kept"
def T_Kt : u_T := fun k => match k with
  | 0 => ("NetDesk$Kept", "answer", "LNetDesk$Answer;", true)
  | _ => ("NetDesk$Kept", "time", "I", true)
def ty_Kt : Nat → FieldType := fun k => match k with
  | 0 => (.object "NetDesk$Answer")
  | _ => .int
theorem nm_Kt : ∀ a, a < 2 → ∀ b, b < 2 → a ≠ b → (T_Kt a).2.1 ≠ (T_Kt b).2.1 := by decide +kernel
theorem tyok_Kt : ∀ k, k < 2 → parseFieldDescriptor (T_Kt k).2.2.1 = some (ty_Kt k) := by decide +kernel
set_option maxRecDepth 20000 in
theorem in_Kt : ∀ w ∈ u_ws "NetDesk$Kept" T_Kt 2, w ∈ lw_tbl := by
  have h : (u_ws "NetDesk$Kept" T_Kt 2).all (fun w => decide (w ∈ tables_1)) = true := by decide +kernel
  exact fun w hw => List.mem_append_right _ (of_decide_eq_true (List.all_eq_true.mp h w hw))
theorem zDf_Kt : ∀ j, j < ([.null, .int 0] : List Value).length → ([.null, .int 0] : List Value)[j]? = some (defaultValue (ty_Kt j)) := by decide +kernel
def R_Mo : String := "NetDeskModel"
def T_Mo : u_T := fun k => match k with
  | 0 => ("NetDeskModel", "tape", "[B", true)
  | 1 => ("NetDeskModel", "taped", "I", false)
  | 2 => ("NetDeskModel", "text", "[B", true)
  | 3 => ("NetDeskModel", "tn", "I", false)
  | 4 => ("NetDeskModel", "out", "[B", true)
  | 5 => ("NetDeskModel", "outSize", "I", false)
  | 6 => ("NetDeskModel", "row", "[B", true)
  | 7 => ("NetDeskModel", "size", "[I", true)
  | 8 => ("NetDeskModel", "mark", "[I", true)
  | 9 => ("NetDeskModel", "segments", "[B", true)
  | 10 => ("NetDeskModel", "segmentAt", "[I", true)
  | 11 => ("NetDeskModel", "segmentSize", "[I", true)
  | 12 => ("NetDeskModel", "segmentCount", "I", false)
  | 13 => ("NetDeskModel", "segmentBytes", "I", false)
  | 14 => ("NetDeskModel", "lastWent", "Z", false)
  | 15 => ("NetDeskModel", "readAt", "I", false)
  | 16 => ("NetDeskModel", "answers", "I", false)
  | 17 => ("NetDeskModel", "body", "[B", true)
  | 18 => ("NetDeskModel", "bodySize", "[I", true)
  | 19 => ("NetDeskModel", "age", "[I", true)
  | 20 => ("NetDeskModel", "cookie", "[B", true)
  | 21 => ("NetDeskModel", "cookieName", "[I", true)
  | 22 => ("NetDeskModel", "cookieValue", "[I", true)
  | 23 => ("NetDeskModel", "hasTo", "[Z", true)
  | 24 => ("NetDeskModel", "isOpen", "[Z", true)
  | 25 => ("NetDeskModel", "clock", "I", false)
  | 26 => ("NetDeskModel", "kept", "I", false)
  | 27 => ("NetDeskModel", "keptCount", "I", false)
  | 28 => ("NetDeskModel", "keptTime", "[I", true)
  | 29 => ("NetDeskModel", "keptWhen", "[I", true)
  | 30 => ("NetDeskModel", "cookies", "I", false)
  | 31 => ("NetDeskModel", "jar", "[B", true)
  | 32 => ("NetDeskModel", "jarSite", "[I", true)
  | 33 => ("NetDeskModel", "jarName", "[I", true)
  | 34 => ("NetDeskModel", "jarValue", "[I", true)
  | 35 => ("NetDeskModel", "requests", "I", false)
  | 36 => ("NetDeskModel", "sent", "[B", true)
  | 37 => ("NetDeskModel", "sentSize", "I", false)
  | 38 => ("NetDeskModel", "newAge", "I", false)
  | 39 => ("NetDeskModel", "newName", "I", false)
  | 40 => ("NetDeskModel", "newValue", "I", false)
  | 41 => ("NetDeskModel", "newTo", "I", false)
  | 42 => ("NetDeskModel", "newOpen", "I", false)
  | 43 => ("NetDeskModel", "newCookie", "[B", true)
  | 44 => ("NetDeskModel", "got", "I", false)
  | 45 => ("NetDeskModel", "followed", "I", false)
  | 46 => ("NetDeskModel", "wasKept", "Z", false)
  | 47 => ("NetDeskModel", "came", "[B", true)
  | 48 => ("NetDeskModel", "cameSize", "I", false)
  | 49 => ("NetDeskModel", "cameOpen", "Z", false)
  | _ => ("NetDeskModel", "some", "Z", false)
def ty_Mo : Nat → FieldType := fun k => match k with
  | 0 => (.array .byte)
  | 1 => .int
  | 2 => (.array .byte)
  | 3 => .int
  | 4 => (.array .byte)
  | 5 => .int
  | 6 => (.array .byte)
  | 7 => (.array .int)
  | 8 => (.array .int)
  | 9 => (.array .byte)
  | 10 => (.array .int)
  | 11 => (.array .int)
  | 12 => .int
  | 13 => .int
  | 14 => .boolean
  | 15 => .int
  | 16 => .int
  | 17 => (.array .byte)
  | 18 => (.array .int)
  | 19 => (.array .int)
  | 20 => (.array .byte)
  | 21 => (.array .int)
  | 22 => (.array .int)
  | 23 => (.array .boolean)
  | 24 => (.array .boolean)
  | 25 => .int
  | 26 => .int
  | 27 => .int
  | 28 => (.array .int)
  | 29 => (.array .int)
  | 30 => .int
  | 31 => (.array .byte)
  | 32 => (.array .int)
  | 33 => (.array .int)
  | 34 => (.array .int)
  | 35 => .int
  | 36 => (.array .byte)
  | 37 => .int
  | 38 => .int
  | 39 => .int
  | 40 => .int
  | 41 => .int
  | 42 => .int
  | 43 => (.array .byte)
  | 44 => .int
  | 45 => .int
  | 46 => .boolean
  | 47 => (.array .byte)
  | 48 => .int
  | 49 => .boolean
  | _ => .boolean
theorem nm_Mo : ∀ a, a < 51 → ∀ b, b < 51 → a ≠ b → (T_Mo a).2.1 ≠ (T_Mo b).2.1 := by decide +kernel
theorem tyok_Mo : ∀ k, k < 51 → parseFieldDescriptor (T_Mo k).2.2.1 = some (ty_Mo k) := by decide +kernel
set_option maxRecDepth 20000 in
theorem in_Mo : ∀ w ∈ u_ws "NetDeskModel" T_Mo 51, w ∈ lw_tbl := by
  have h : (u_ws "NetDeskModel" T_Mo 51).all (fun w => decide (w ∈ tables_1)) = true := by decide +kernel
  exact fun w hw => List.mem_append_right _ (of_decide_eq_true (List.all_eq_true.mp h w hw))
theorem zDf_Mo : ∀ j, j < ([.null, .int 0, .null, .int 0, .null, .int 0, .null, .null, .null, .null, .null, .null, .int 0, .int 0, .int 0, .int 0, .int 0, .null, .null, .null, .null, .null, .null, .null, .null, .int 0, .int 0, .int 0, .null, .null, .int 0, .null, .null, .null, .null, .int 0, .null, .int 0, .int 0, .int 0, .int 0, .int 0, .int 0, .null, .int 0, .int 0, .int 0, .null, .int 0, .int 0, .int 0] : List Value).length → ([.null, .int 0, .null, .int 0, .null, .int 0, .null, .null, .null, .null, .null, .null, .int 0, .int 0, .int 0, .int 0, .int 0, .null, .null, .null, .null, .null, .null, .null, .null, .int 0, .int 0, .int 0, .null, .null, .int 0, .null, .null, .null, .null, .int 0, .null, .int 0, .int 0, .int 0, .int 0, .int 0, .int 0, .null, .int 0, .int 0, .int 0, .null, .int 0, .int 0, .int 0] : List Value)[j]? = some (defaultValue (ty_Mo j)) := by decide +kernel
abbrev classes : List vw_C := [("NetDesk", T_N, 17), ("java/lang/StringBuilder", T_Sb, 4), ("NetDesk$Address", T_Ad, 4), ("NetDesk$Answer", T_An, 7), ("NetDesk$Fields", T_Fl, 6), ("java/util/ArrayList", T_Al, 3), ("NetDesk$Jar", T_Jr, 1), ("NetDesk$Keep", T_Kp, 1), ("java/lang/String", T_St, 4), ("NetDesk$Path", T_Pt, 2), ("NetDesk$ServerText", T_Sv, 4), ("NetDesk$Cookie", T_Ck, 3), ("NetDesk$Kept", T_Kt, 2), ("NetDeskModel", T_Mo, 51)]
end
section
/-! A LAYER OVER W. One judgement zW with nothing of the machine in it but a frame (pc, locals, stack) and a heap; the room is in the heap's own size (caps), the words come from the law's entry state. -/
abbrev zG : Type := Launch × State × va_G × Nat × Nat × (Nat → Nat) × Array Value
def zl (G : zG) : Launch := G.1
def zS (G : zG) : State := G.2.1
def zD (G : zG) : va_G := G.2.2.1
def zCp (G : zG) : Nat := G.2.2.2.1
def zSp (G : zG) : Nat := G.2.2.2.2.1
def zKa (G : zG) : Nat → Nat := G.2.2.2.2.2.1
def zAg (G : zG) : Array Value := G.2.2.2.2.2.2
abbrev zMd : Type := MethodName × ByteArray × Nat × Option FieldType
def zT (H : Heap) : Nat := (H.toList.map (fun c => c.slots.size)).sum
def zFr (G : zG) : Nat → Prop := fun q => (zS G).heap.size ≤ q
def zOk (G : zG) (H : Heap) : Prop := (zS G).heap.size ≤ H.size ∧ (∀ q : Nat, q < (zS G).heap.size → H[q]? = (zS G).heap[q]?) ∧ H.size ≤ zCp G ∧ zT H ≤ zSp G
def zR (G : zG) (d : Nat) (H : Heap) : Room := { frames := d, cells := zCp G - H.size, slots := zSp G - zT H, locals := 41 * d }
def zQ (G : zG) (Q : Option Value → Heap → Prop) : Array Value → State → Outcome → State → Prop := fun _ st o t => ∃ v, o = .returned v ∧ Q v t.heap ∧ zOk G t.heap ∧ st.heap.size ≤ t.heap.size ∧ zT st.heap ≤ zT t.heap
/-- every state that we meet is a warmer one of the law's entry -/
def zEnv (G : zG) (U : State) : Prop := (zS G).WarmedH U.vm
/-- what we know of the law's entry state -/
def zGo (G : zG) : Prop := (∀ w ∈ lw_tbl, w.before (zAg G) (zS G) = true) ∧ va_K (zD G) classes [] (zS G)
def zAt (M : zMd) (p : Program) (s : State) (m : MethodId) (meth : Method) (c : Code) : Prop :=
  p.tables.exec = Jvm.exec ∧ c.code = M.2.1 ∧ c.maxLocals = M.2.2.1 ∧ meth.sig.returnType = M.2.2.2 ∧ meth.locks = false ∧ s.vm.findClass M.1.cls = some m.cls ∧ meth.name = M.1.name
def zLs (ls : Array Slot) (lv : List (Option Value)) : Prop := ls.size = lv.length ∧ lv_wf ls ∧ ∀ (i : Nat) (v : Value), lv[i]? = some (some v) → ls[i]? = some (.val v) ∧ v.category = 1
def zW (G : zG) (d : Nat) (M : zMd) (pc : Nat) (lv : List (Option Value)) (st : List Value) (H : Heap) (Q : Option Value → Heap → Prop) : Prop :=
  ∀ (p : Program) (e : Env) (s : State) (m : MethodId) (args : Array Value) (below : List Frame) (meth : Method) (c : Code) (locs : List Loc) (ls : Array Slot) (cells slots : Nat),
    zGo G → zEnv G s → zAt M p s m meth c → lv.length = M.2.2.1 → zLs ls lv → (∀ q ∈ locs, zFr G q.base) → zOk G s.heap → zOk G H →
    W p (zl G) e (zR G d s.heap) s m args below meth c H locs cells slots (MQ below (zQ G Q) args s (zCp G - s.heap.size) (zSp G - zT s.heap) (zFr G)) (F0 m pc ls st)
def zC (G : zG) (d : Nat) (M : zMd) (av : List Value) (H : Heap) (Q : Option Value → Heap → Prop) : Prop :=
  zOk G H → Met (zl G) M.1 [Cond.code M.1 M.2.1 M.2.2.1 M.2.2.2] (zR G d H) (va_Pc av (fun U => U.heap = H ∧ zEnv G U)) (zQ G Q) (zCp G - H.size) (zSp G - zT H) (zFr G)
theorem zsum_append (a b : List Nat) : (a ++ b).sum = a.sum + b.sum := by
  induction a with
  | nil => simp
  | cons x l ih => simp [Nat.add_assoc]
/-- the counters are what the heap shows -/
theorem zTight {p : Program} {l : Launch} {e : Env} {R : Room} {s : State} {m : MethodId} {args : Array Value} {below : List Frame} {meth : Method} {c : Code} {T : State} {locs : List Loc} {cells slots : Nat}
    (X : Stand p l e R s m args below meth c T locs cells slots) : s.heap.size ≤ T.heap.size ∧ zT s.heap ≤ zT T.heap ∧ Stand p l e R s m args below meth c T locs (T.heap.size - s.heap.size) (zT T.heap - zT s.heap) := by
  obtain ⟨h1, h2, h3, h4, h5, h6⟩ := X.same
  have h2' : s.heap.size ≤ T.heap.size := h2
  have h6' : ∀ a c, s.heap[a]? = some c → ∃ c', T.heap[a]? = some c' ∧ c' = { c with slots := c'.slots } ∧ c'.slots.size = c.slots.size ∧ ∀ i, (⟨a, i⟩ : Loc) ∉ locs → c'.slots[i]? = c.slots[i]? := h6
  have e1 : (T.heap.toList.take s.heap.size).map (fun c => c.slots.size) = s.heap.toList.map (fun c => c.slots.size) := by
    apply List.ext_getElem?
    intro i
    rw [List.getElem?_map, List.getElem?_map, List.getElem?_take]
    by_cases hi : i < s.heap.size
    · rw [if_pos hi]
      have hc : s.heap[i]? = some s.heap[i] := Array.getElem?_eq_getElem hi
      obtain ⟨c', g1, -, g3, -⟩ := h6' i _ hc
      rw [Array.getElem?_toList, Array.getElem?_toList, g1, hc]
      simp [g3]
    · rw [if_neg hi, Array.getElem?_toList, Array.getElem?_eq_none (by omega)]
  have e2 : zT T.heap = zT s.heap + ((T.heap.toList.drop s.heap.size).map (fun c => c.slots.size)).sum := by
    unfold zT
    rw [← e1, ← zsum_append, ← List.map_append, List.take_append_drop]
  refine ⟨h2', by omega, { X with same := ⟨h1, h2, ?_, h4, ?_, h6⟩ }⟩
  · show T.heap.size ≤ s.heap.size + (T.heap.size - s.heap.size)
    omega
  · show ((T.heap.toList.drop s.heap.size).map (fun c => c.slots.size)).sum ≤ zT T.heap - zT s.heap
    omega
section ZN
variable {p : Program} {l : Launch} {e : Env} {R : Room} {s : State} {m : MethodId} {args : Array Value} {below : List Frame} {meth : Method} {c : Code} {H : Heap} {locs : List Loc} {cells slots : Nat} {Q : State → Prop} {g : JFrame}
theorem zw_norm (k : s.heap.size ≤ H.size → zT s.heap ≤ zT H → W p l e R s m args below meth c H locs (H.size - s.heap.size) (zT H - zT s.heap) Q g) : W p l e R s m args below meth c H locs cells slots Q g := by
  intro T hT X
  obtain ⟨a, b, X'⟩ := zTight X
  subst hT
  exact k a b T rfl X'
end ZN
theorem zT_same {H H1 : Heap} (hz : H1.size = H.size) (h : ∀ q : Nat, q < H.size → ∃ c c' : Cell, H[q]? = some c ∧ H1[q]? = some c' ∧ c'.slots.size = c.slots.size) : zT H1 = zT H := by
  unfold zT
  congr 1
  apply List.ext_getElem?
  intro i
  rw [List.getElem?_map, List.getElem?_map, Array.getElem?_toList, Array.getElem?_toList]
  by_cases hi : i < H.size
  · obtain ⟨c, c', h1, h2, h3⟩ := h i hi
    rw [h1, h2]
    simp [h3]
  · rw [Array.getElem?_eq_none (by omega), Array.getElem?_eq_none (by omega)]
theorem zT_push (H : Heap) (c : Cell) : zT (H.push c) = zT H + c.slots.size := by
  unfold zT
  rw [Array.toList_push, List.map_append, zsum_append]
  simp
/-- one cell has changed, but not in its size -/
def zUp (a : Nat) (H H1 : Heap) : Prop := H1.size = H.size ∧ zT H1 = zT H ∧ ∀ q : Nat, q ≠ a → H1[q]? = H[q]?
theorem zUp_of {a : Nat} {H H1 : Heap} {c c' : Cell} (h0 : H[a]? = some c) (h1 : H1[a]? = some c') (hs : c'.slots.size = c.slots.size) (hz : H1.size = H.size) (hq : ∀ q : Nat, q ≠ a → H1[q]? = H[q]?) : zUp a H H1 := by
  refine ⟨hz, zT_same hz (fun q hl => ?_), hq⟩
  by_cases e : q = a
  · subst e
    exact ⟨c, c', h0, h1, hs⟩
  · exact ⟨H[q], H[q], Array.getElem?_eq_getElem hl, by rw [hq q e]; exact Array.getElem?_eq_getElem hl, rfl⟩
theorem zUp.ok {G : zG} {a : Nat} {H H1 : Heap} (h : zUp a H H1) (ha : zFr G a) (ho : zOk G H) : zOk G H1 := by
  obtain ⟨h1, h2, h3⟩ := h
  obtain ⟨o1, o2, o3, o4⟩ := ho
  exact ⟨by rw [h1]; exact o1, fun q hq => by rw [h3 q (fun e => by subst e; exact absurd hq (Nat.not_lt.mpr ha))]; exact o2 q hq, by rw [h1]; exact o3, by rw [h2]; exact o4⟩
/-- one cell more, of n slots, at the heap's end -/
def zNw (n : Nat) (H H1 : Heap) : Prop := H1.size = H.size + 1 ∧ zT H1 = zT H + n ∧ ∀ q : Nat, q < H.size → H1[q]? = H[q]?
theorem zNw_push (H : Heap) (c : Cell) : zNw c.slots.size H (H.push c) := ⟨by simp, zT_push H c, fun q hq => by rw [Array.getElem?_push, if_neg (Nat.ne_of_lt hq)]⟩
theorem zNw.ok {G : zG} {n : Nat} {H H1 : Heap} (h : zNw n H H1) (h1 : H.size + 1 ≤ zCp G) (h2 : zT H + n ≤ zSp G) (ho : zOk G H) : zOk G H1 := by
  obtain ⟨e1, e2, e3⟩ := h
  obtain ⟨o1, o2, o3, o4⟩ := ho
  exact ⟨by omega, fun q hq => by rw [e3 q (by omega)]; exact o2 q hq, by omega, by omega⟩
/-- a field of an object of class ci; an object; an array -/
def zFd (G : zG) (H : Heap) (a ci k : Nat) (v : Value) : Prop := ∃ cell : Cell, H[a]? = some cell ∧ cell.vm ≠ .unknown ∧ cell.slots[(zD G).2 ci k]? = some v
def zIs (G : zG) (H : Heap) (a ci : Nat) : Prop := ∃ cell : Cell, H[a]? = some cell ∧ cell.vm.isStatics = false ∧ cell.cls = (zD G).1 ci
def zObj (G : zG) (H : Heap) (a ci : Nat) (fs : List Value) : Prop := ∃ cell : Cell, H[a]? = some cell ∧ cell.cls = (zD G).1 ci ∧ cell.vm = .none ∧ ∀ k : Nat, k < fs.length → cell.slots[(zD G).2 ci k]? = fs[k]?
def zArr (G : zG) (H : Heap) (a : Nat) (ty : FieldType) (n : Nat) (f : Nat → Value) : Prop := ∃ cell : Cell, H[a]? = some cell ∧ (zS G).isArrayOf cell ty ∧ cell.vm ≠ .unknown ∧ cell.slots.size = n ∧ (∀ j : Nat, j < n → cell.slots[j]? = some (f j)) ∧ (zFr G a → va_RA (zS G) cell.cls ty)
theorem zObj.fd {G : zG} {H : Heap} {a ci k : Nat} {fs : List Value} {v : Value} (h : zObj G H a ci fs) (hk : fs[k]? = some v) : zFd G H a ci k v := by
  obtain ⟨cell, h1, h2, h3, h4⟩ := h
  exact ⟨cell, h1, (by rw [h3]; intro q; cases q), (by rw [h4 k (List.getElem?_eq_some_iff.mp hk).1]; exact hk)⟩
theorem zObj.is {G : zG} {H : Heap} {a ci : Nat} {fs : List Value} (h : zObj G H a ci fs) : zIs G H a ci := by
  obtain ⟨cell, h1, h2, h3, h4⟩ := h
  exact ⟨cell, h1, by rw [h3]; rfl, h2⟩
theorem zObj.lt {G : zG} {H : Heap} {a ci : Nat} {fs : List Value} (h : zObj G H a ci fs) : a < H.size := by
  obtain ⟨cell, h1, -⟩ := h
  exact (Array.getElem?_eq_some_iff.mp h1).1
theorem zIs.lt {G : zG} {H : Heap} {a ci : Nat} (h : zIs G H a ci) : a < H.size := by
  obtain ⟨cell, h1, -⟩ := h
  exact (Array.getElem?_eq_some_iff.mp h1).1
theorem zFd.lt {G : zG} {H : Heap} {a ci k : Nat} {v : Value} (h : zFd G H a ci k v) : a < H.size := by
  obtain ⟨cell, h1, -⟩ := h
  exact (Array.getElem?_eq_some_iff.mp h1).1
theorem zArr.lt {G : zG} {H : Heap} {a : Nat} {ty : FieldType} {n : Nat} {f : Nat → Value} (h : zArr G H a ty n f) : a < H.size := by
  obtain ⟨cell, h1, -⟩ := h
  exact (Array.getElem?_eq_some_iff.mp h1).1
theorem zObj.kept {G : zG} {H H1 : Heap} {a ci : Nat} {fs : List Value} (h : zObj G H a ci fs) (hq : H1[a]? = H[a]?) : zObj G H1 a ci fs := by
  obtain ⟨cell, h1, h2⟩ := h
  exact ⟨cell, hq.trans h1, h2⟩
theorem zIs.kept {G : zG} {H H1 : Heap} {a ci : Nat} (h : zIs G H a ci) (hq : H1[a]? = H[a]?) : zIs G H1 a ci := by
  obtain ⟨cell, h1, h2⟩ := h
  exact ⟨cell, hq.trans h1, h2⟩
theorem zFd.kept {G : zG} {H H1 : Heap} {a ci k : Nat} {v : Value} (h : zFd G H a ci k v) (hq : H1[a]? = H[a]?) : zFd G H1 a ci k v := by
  obtain ⟨cell, h1, h2⟩ := h
  exact ⟨cell, hq.trans h1, h2⟩
theorem zArr.kept {G : zG} {H H1 : Heap} {a : Nat} {ty : FieldType} {n : Nat} {f : Nat → Value} (h : zArr G H a ty n f) (hq : H1[a]? = H[a]?) : zArr G H1 a ty n f := by
  obtain ⟨cell, h1, h2⟩ := h
  exact ⟨cell, hq.trans h1, h2⟩
/-- words of the tables, at any state that we meet -/
theorem zWd {G : zG} {U : State} {a : Array Value} {w : Cond} (hG : zGo G) (hE : zEnv G U) (hw : w ∈ lw_tbl) (hg : (w.onTables && w.keeps) = true) : w.before a U = true := word_at hE (Or.inl hg) (hG.1 w hw)
theorem zK_at {G : zG} {U : State} (hG : zGo G) (hE : zEnv G U) : va_K (zD G) classes [] U := va_K.moved hE.alike hG.2
section ZP
variable {G : zG} {d : Nat} {M : zMd} {pc : Nat} {lv : List (Option Value)} {st : List Value} {H : Heap} {Q : Option Value → Heap → Prop}
/-- an instruction that only moves the frame: by a row of the kit -/
theorem zw_iconst {n : Int} (v : Int32) (hd : decode M.2.1 pc = .ok (.iconst n, 1)) (hv : Int32.ofInt n = v) (k : zW G d M (pc + 1) lv (.int v :: st) H Q) : zW G d M pc lv st H Q :=
  fun p e s m args below meth c locs ls cells slots g0 g1 A h1 h2 h3 h4 h5 => lv_iconst A.1 A.2.1 hd hv (k p e s m args below meth c locs ls cells slots g0 g1 A h1 h2 h3 h4 h5)
theorem zw_bipush {n : Int} (v : Int32) (hd : decode M.2.1 pc = .ok (.bipush n, 2)) (hv : (Int8.ofInt n).toInt32 = v) (k : zW G d M (pc + 2) lv (.int v :: st) H Q) : zW G d M pc lv st H Q :=
  fun p e s m args below meth c locs ls cells slots g0 g1 A h1 h2 h3 h4 h5 => lv_bipush A.1 A.2.1 hd hv (k p e s m args below meth c locs ls cells slots g0 g1 A h1 h2 h3 h4 h5)
theorem zw_sipush {n : Int} (v : Int32) (hd : decode M.2.1 pc = .ok (.sipush n, 3)) (hv : (Int16.ofInt n).toInt32 = v) (k : zW G d M (pc + 3) lv (.int v :: st) H Q) : zW G d M pc lv st H Q :=
  fun p e s m args below meth c locs ls cells slots g0 g1 A h1 h2 h3 h4 h5 => lv_sipush A.1 A.2.1 hd hv (k p e s m args below meth c locs ls cells slots g0 g1 A h1 h2 h3 h4 h5)
theorem zw_null (hd : decode M.2.1 pc = .ok (.aconst_null, 1)) (k : zW G d M (pc + 1) lv (.null :: st) H Q) : zW G d M pc lv st H Q :=
  fun p e s m args below meth c locs ls cells slots g0 g1 A h1 h2 h3 h4 h5 => lv_null A.1 A.2.1 hd (k p e s m args below meth c locs ls cells slots g0 g1 A h1 h2 h3 h4 h5)
theorem zw_iload_n {j : Fin 4} {i : Nat} {x : Int32} (hd : decode M.2.1 pc = .ok (.iload_n j, 1)) (hj : (j : Nat) = i) (hl : lv[i]? = some (some (.int x))) (k : zW G d M (pc + 1) lv (.int x :: st) H Q) : zW G d M pc lv st H Q :=
  fun p e s m args below meth c locs ls cells slots g0 g1 A h1 h2 h3 h4 h5 => lv_iload_n A.1 A.2.1 hd hj (h2.2.2 i _ hl).1 (k p e s m args below meth c locs ls cells slots g0 g1 A h1 h2 h3 h4 h5)
theorem zw_iload {i : Nat} {x : Int32} (hd : decode M.2.1 pc = .ok (.iload i, 2)) (hl : lv[i]? = some (some (.int x))) (k : zW G d M (pc + 2) lv (.int x :: st) H Q) : zW G d M pc lv st H Q :=
  fun p e s m args below meth c locs ls cells slots g0 g1 A h1 h2 h3 h4 h5 => lv_iload A.1 A.2.1 hd (h2.2.2 i _ hl).1 (k p e s m args below meth c locs ls cells slots g0 g1 A h1 h2 h3 h4 h5)
/-- a reference or null -/
def zRf (v : Value) : Prop := v = .null ∨ ∃ a : Nat, v = .ref a
theorem zRf_ref {a : Nat} : zRf (.ref a) := Or.inr ⟨a, rfl⟩
theorem zRf_null : zRf .null := Or.inl rfl
theorem zRf_rf (o : Option Nat) : zRf (va_rf o) := va_rf_or o
theorem zRf.cat {v : Value} (h : zRf v) : v.category = 1 := by
  rcases h with rfl | ⟨a, rfl⟩ <;> rfl
theorem zw_aload_n {j : Fin 4} {i : Nat} {v : Value} (hd : decode M.2.1 pc = .ok (.aload_n j, 1)) (hj : (j : Nat) = i) (hl : lv[i]? = some (some v)) (hv : zRf v) (k : zW G d M (pc + 1) lv (v :: st) H Q) : zW G d M pc lv st H Q := by
  intro p e s m args below meth c locs ls cells slots g0 g1 A h1 h2 h3 h4 h5
  rcases hv with rfl | ⟨a, rfl⟩
  · exact lv_aload_nN A.1 A.2.1 hd hj (h2.2.2 i _ hl).1 (k p e s m args below meth c locs ls cells slots g0 g1 A h1 h2 h3 h4 h5)
  · exact lv_aload_n A.1 A.2.1 hd hj (h2.2.2 i _ hl).1 (k p e s m args below meth c locs ls cells slots g0 g1 A h1 h2 h3 h4 h5)
theorem zw_aload {i : Nat} {v : Value} (hd : decode M.2.1 pc = .ok (.aload i, 2)) (hl : lv[i]? = some (some v)) (hv : zRf v) (k : zW G d M (pc + 2) lv (v :: st) H Q) : zW G d M pc lv st H Q := by
  intro p e s m args below meth c locs ls cells slots g0 g1 A h1 h2 h3 h4 h5
  rcases hv with rfl | ⟨a, rfl⟩
  · exact lv_aloadN A.1 A.2.1 hd (h2.2.2 i _ hl).1 (k p e s m args below meth c locs ls cells slots g0 g1 A h1 h2 h3 h4 h5)
  · exact lv_aload A.1 A.2.1 hd (h2.2.2 i _ hl).1 (k p e s m args below meth c locs ls cells slots g0 g1 A h1 h2 h3 h4 h5)
/-- the locals as the kit lists them -/
def zAs (lv : List (Option Value)) : List (Nat × Value) := (lv.zipIdx).filterMap (fun q => q.1.map (fun v => (q.2, v)))
theorem zAs_mem {lv : List (Option Value)} {i : Nat} {v : Value} : (i, v) ∈ zAs lv ↔ lv[i]? = some (some v) := by
  unfold zAs
  rw [List.mem_filterMap]
  constructor
  · rintro ⟨⟨o, j⟩, h1, h2⟩
    cases o with
    | none => cases h2
    | some w =>
      cases h2
      exact List.mk_mem_zipIdx_iff_getElem?.mp h1
  · intro h
    exact ⟨(some v, i), List.mk_mem_zipIdx_iff_getElem?.mpr h, rfl⟩
theorem zLs.has {ls : Array Slot} (h : zLs ls lv) : lv_has ls lv.length (zAs lv) := ⟨h.1, h.2.1, fun q hq => (h.2.2 q.1 q.2 (zAs_mem.mp hq)).1⟩
theorem zLs_set {ls ls' : Array Slot} {i : Nat} {v : Value} (h : zLs ls lv) (hv : v.category = 1) (h' : lv_has ls' lv.length ((i, v) :: (zAs lv).filter (fun q => !(q.1 == i) && !(q.1 + 1 == i && q.2.category == 2)))) : zLs ls' (lv.set i (some v)) := by
  refine ⟨by rw [List.length_set]; exact h'.1, h'.2.1, fun j w hj => ?_⟩
  rw [List.getElem?_set] at hj
  by_cases e : i = j
  · subst e
    rw [if_pos rfl] at hj
    split at hj
    · have e2 : v = w := Option.some.inj (Option.some.inj hj)
      subst e2
      exact ⟨h'.2.2 (i, v) List.mem_cons_self, hv⟩
    · cases hj
  · rw [if_neg e] at hj
    have hc := (h.2.2 j w hj).2
    refine ⟨h'.2.2 (j, w) (List.mem_cons_of_mem _ (List.mem_filter.mpr ⟨zAs_mem.mpr hj, ?_⟩)), hc⟩
    have e3 : ¬ j = i := fun q => e q.symm
    simp [e3, hc]
theorem zw_istore_n {j : Fin 4} {i : Nat} {x : Int32} (hd : decode M.2.1 pc = .ok (.istore_n j, 1)) (hj : (j : Nat) = i) (hi : i < lv.length) (k : zW G d M (pc + 1) (lv.set i (some (.int x))) st H Q) : zW G d M pc lv (.int x :: st) H Q :=
  fun p e s m args below meth c locs ls cells slots g0 g1 A h1 h2 h3 h4 h5 => lv_istore_n A.1 A.2.1 hd hj h2.has hi rfl (fun ls' h' => k p e s m args below meth c locs ls' cells slots g0 g1 A (by rw [List.length_set]; exact h1) (zLs_set h2 rfl h') h3 h4 h5)
theorem zw_istore {i : Nat} {x : Int32} (hd : decode M.2.1 pc = .ok (.istore i, 2)) (hi : i < lv.length) (k : zW G d M (pc + 2) (lv.set i (some (.int x))) st H Q) : zW G d M pc lv (.int x :: st) H Q :=
  fun p e s m args below meth c locs ls cells slots g0 g1 A h1 h2 h3 h4 h5 => lv_istore A.1 A.2.1 hd h2.has hi rfl (fun ls' h' => k p e s m args below meth c locs ls' cells slots g0 g1 A (by rw [List.length_set]; exact h1) (zLs_set h2 rfl h') h3 h4 h5)
theorem zw_astore_n {j : Fin 4} {i : Nat} {v : Value} (hd : decode M.2.1 pc = .ok (.astore_n j, 1)) (hj : (j : Nat) = i) (hi : i < lv.length) (hv : zRf v) (k : zW G d M (pc + 1) (lv.set i (some v)) st H Q) : zW G d M pc lv (v :: st) H Q := by
  intro p e s m args below meth c locs ls cells slots g0 g1 A h1 h2 h3 h4 h5
  rcases hv with rfl | ⟨a, rfl⟩
  · exact lv_astore_nN A.1 A.2.1 hd hj h2.has hi rfl (fun ls' h' => k p e s m args below meth c locs ls' cells slots g0 g1 A (by rw [List.length_set]; exact h1) (zLs_set h2 rfl h') h3 h4 h5)
  · exact lv_astore_n A.1 A.2.1 hd hj h2.has hi rfl (fun ls' h' => k p e s m args below meth c locs ls' cells slots g0 g1 A (by rw [List.length_set]; exact h1) (zLs_set h2 rfl h') h3 h4 h5)
theorem zw_astore {i : Nat} {v : Value} (hd : decode M.2.1 pc = .ok (.astore i, 2)) (hi : i < lv.length) (hv : zRf v) (k : zW G d M (pc + 2) (lv.set i (some v)) st H Q) : zW G d M pc lv (v :: st) H Q := by
  intro p e s m args below meth c locs ls cells slots g0 g1 A h1 h2 h3 h4 h5
  rcases hv with rfl | ⟨a, rfl⟩
  · exact lv_astoreN A.1 A.2.1 hd h2.has hi rfl (fun ls' h' => k p e s m args below meth c locs ls' cells slots g0 g1 A (by rw [List.length_set]; exact h1) (zLs_set h2 rfl h') h3 h4 h5)
  · exact lv_astore A.1 A.2.1 hd h2.has hi rfl (fun ls' h' => k p e s m args below meth c locs ls' cells slots g0 g1 A (by rw [List.length_set]; exact h1) (zLs_set h2 rfl h') h3 h4 h5)
theorem zw_iinc {i : Nat} {n : Int} {x : Int32} (v : Int32) (hd : decode M.2.1 pc = .ok (.iinc i n, 3)) (hl : lv[i]? = some (some (.int x))) (hv : x + Int32.ofInt n = v) (k : zW G d M (pc + 3) (lv.set i (some (.int v))) st H Q) : zW G d M pc lv st H Q := by
  intro p e s m args below meth c locs ls cells slots g0 g1 A h1 h2 h3 h4 h5
  obtain ⟨j, hj⟩ := List.getElem?_of_mem (zAs_mem.mpr hl)
  exact lv_iinc A.1 A.2.1 hd h2.has (k := j) hj hv (List.getElem?_eq_some_iff.mp hl).1 rfl (fun ls' h' => k p e s m args below meth c locs ls' cells slots g0 g1 A (by rw [List.length_set]; exact h1) (zLs_set h2 rfl h') h3 h4 h5)
theorem zw_iadd {x y : Int32} (hd : decode M.2.1 pc = .ok (.iadd, 1)) (k : zW G d M (pc + 1) lv (.int (x + y) :: st) H Q) : zW G d M pc lv (.int y :: .int x :: st) H Q :=
  fun p e s m args below meth c locs ls cells slots g0 g1 A h1 h2 h3 h4 h5 => lv_iadd A.1 A.2.1 hd (k p e s m args below meth c locs ls cells slots g0 g1 A h1 h2 h3 h4 h5)
theorem zw_isub {x y : Int32} (hd : decode M.2.1 pc = .ok (.isub, 1)) (k : zW G d M (pc + 1) lv (.int (x - y) :: st) H Q) : zW G d M pc lv (.int y :: .int x :: st) H Q :=
  fun p e s m args below meth c locs ls cells slots g0 g1 A h1 h2 h3 h4 h5 => lv_isub A.1 A.2.1 hd (k p e s m args below meth c locs ls cells slots g0 g1 A h1 h2 h3 h4 h5)
theorem zw_imul {x y : Int32} (hd : decode M.2.1 pc = .ok (.imul, 1)) (k : zW G d M (pc + 1) lv (.int (x * y) :: st) H Q) : zW G d M pc lv (.int y :: .int x :: st) H Q :=
  fun p e s m args below meth c locs ls cells slots g0 g1 A h1 h2 h3 h4 h5 => lv_imul A.1 A.2.1 hd (k p e s m args below meth c locs ls cells slots g0 g1 A h1 h2 h3 h4 h5)
theorem zw_iand {x y : Int32} (hd : decode M.2.1 pc = .ok (.iand, 1)) (k : zW G d M (pc + 1) lv (.int (x &&& y) :: st) H Q) : zW G d M pc lv (.int y :: .int x :: st) H Q :=
  fun p e s m args below meth c locs ls cells slots g0 g1 A h1 h2 h3 h4 h5 => lv_iand A.1 A.2.1 hd (k p e s m args below meth c locs ls cells slots g0 g1 A h1 h2 h3 h4 h5)
theorem zw_ior {x y : Int32} (hd : decode M.2.1 pc = .ok (.ior, 1)) (k : zW G d M (pc + 1) lv (.int (x ||| y) :: st) H Q) : zW G d M pc lv (.int y :: .int x :: st) H Q :=
  fun p e s m args below meth c locs ls cells slots g0 g1 A h1 h2 h3 h4 h5 => lv_ior A.1 A.2.1 hd (k p e s m args below meth c locs ls cells slots g0 g1 A h1 h2 h3 h4 h5)
theorem zw_ixor {x y : Int32} (hd : decode M.2.1 pc = .ok (.ixor, 1)) (k : zW G d M (pc + 1) lv (.int (x ^^^ y) :: st) H Q) : zW G d M pc lv (.int y :: .int x :: st) H Q :=
  fun p e s m args below meth c locs ls cells slots g0 g1 A h1 h2 h3 h4 h5 => lv_ixor A.1 A.2.1 hd (k p e s m args below meth c locs ls cells slots g0 g1 A h1 h2 h3 h4 h5)
theorem zw_ineg {x : Int32} (hd : decode M.2.1 pc = .ok (.ineg, 1)) (k : zW G d M (pc + 1) lv (.int (-x) :: st) H Q) : zW G d M pc lv (.int x :: st) H Q :=
  fun p e s m args below meth c locs ls cells slots g0 g1 A h1 h2 h3 h4 h5 => lv_ineg A.1 A.2.1 hd (k p e s m args below meth c locs ls cells slots g0 g1 A h1 h2 h3 h4 h5)
theorem zw_ishl {x y : Int32} (hd : decode M.2.1 pc = .ok (.ishl, 1)) (k : zW G d M (pc + 1) lv (.int (x <<< (y &&& 31)) :: st) H Q) : zW G d M pc lv (.int y :: .int x :: st) H Q :=
  fun p e s m args below meth c locs ls cells slots g0 g1 A h1 h2 h3 h4 h5 => lv_ishl A.1 A.2.1 hd (k p e s m args below meth c locs ls cells slots g0 g1 A h1 h2 h3 h4 h5)
theorem zw_ishr {x y : Int32} (hd : decode M.2.1 pc = .ok (.ishr, 1)) (k : zW G d M (pc + 1) lv (.int (x >>> (y &&& 31)) :: st) H Q) : zW G d M pc lv (.int y :: .int x :: st) H Q :=
  fun p e s m args below meth c locs ls cells slots g0 g1 A h1 h2 h3 h4 h5 => lv_ishr A.1 A.2.1 hd (k p e s m args below meth c locs ls cells slots g0 g1 A h1 h2 h3 h4 h5)
theorem zw_iushr {x y : Int32} (hd : decode M.2.1 pc = .ok (.iushr, 1)) (k : zW G d M (pc + 1) lv (.int (x.toUInt32 >>> (y.toUInt32 &&& Int32.toUInt32 31)).toInt32 :: st) H Q) : zW G d M pc lv (.int y :: .int x :: st) H Q :=
  fun p e s m args below meth c locs ls cells slots g0 g1 A h1 h2 h3 h4 h5 => lv_iushr A.1 A.2.1 hd rfl (k p e s m args below meth c locs ls cells slots g0 g1 A h1 h2 h3 h4 h5)
theorem zw_i2b {x : Int32} (hd : decode M.2.1 pc = .ok (.i2b, 1)) (k : zW G d M (pc + 1) lv (.int x.toInt8.toInt32 :: st) H Q) : zW G d M pc lv (.int x :: st) H Q :=
  fun p e s m args below meth c locs ls cells slots g0 g1 A h1 h2 h3 h4 h5 => lv_i2b A.1 A.2.1 hd rfl (k p e s m args below meth c locs ls cells slots g0 g1 A h1 h2 h3 h4 h5)
theorem zw_i2c {x : Int32} (hd : decode M.2.1 pc = .ok (.i2c, 1)) (k : zW G d M (pc + 1) lv (.int (x.toUInt32 % 65536).toInt32 :: st) H Q) : zW G d M pc lv (.int x :: st) H Q :=
  fun p e s m args below meth c locs ls cells slots g0 g1 A h1 h2 h3 h4 h5 => lv_i2c A.1 A.2.1 hd rfl (k p e s m args below meth c locs ls cells slots g0 g1 A h1 h2 h3 h4 h5)
theorem zw_dup {v : Value} (hd : decode M.2.1 pc = .ok (.dup, 1)) (hv : v.category = 1) (k : zW G d M (pc + 1) lv (v :: v :: st) H Q) : zW G d M pc lv (v :: st) H Q :=
  fun p e s m args below meth c locs ls cells slots g0 g1 A h1 h2 h3 h4 h5 => lv_dup A.1 A.2.1 hd hv (k p e s m args below meth c locs ls cells slots g0 g1 A h1 h2 h3 h4 h5)
theorem zw_pop {v : Value} (hd : decode M.2.1 pc = .ok (.pop, 1)) (hv : v.category = 1) (k : zW G d M (pc + 1) lv st H Q) : zW G d M pc lv (v :: st) H Q :=
  fun p e s m args below meth c locs ls cells slots g0 g1 A h1 h2 h3 h4 h5 => lv_pop A.1 A.2.1 hd hv (k p e s m args below meth c locs ls cells slots g0 g1 A h1 h2 h3 h4 h5)
theorem zw_dup_x1 {v w : Value} (hd : decode M.2.1 pc = .ok (.dup_x1, 1)) (hv : v.category = 1) (hw : w.category = 1) (k : zW G d M (pc + 1) lv (v :: w :: v :: st) H Q) : zW G d M pc lv (v :: w :: st) H Q :=
  fun p e s m args below meth c locs ls cells slots g0 g1 A h1 h2 h3 h4 h5 => lv_dup_x1 A.1 A.2.1 hd hv hw (k p e s m args below meth c locs ls cells slots g0 g1 A h1 h2 h3 h4 h5)
theorem zw_dup_x2 {v w u : Value} (hd : decode M.2.1 pc = .ok (.dup_x2, 1)) (hv : v.category = 1) (hw : w.category = 1) (hu : u.category = 1) (k : zW G d M (pc + 1) lv (v :: w :: u :: v :: st) H Q) : zW G d M pc lv (v :: w :: u :: st) H Q :=
  fun p e s m args below meth c locs ls cells slots g0 g1 A h1 h2 h3 h4 h5 => lv_dup_x2 A.1 A.2.1 hd hv hw hu (k p e s m args below meth c locs ls cells slots g0 g1 A h1 h2 h3 h4 h5)
theorem zw_dup2 {v w : Value} (hd : decode M.2.1 pc = .ok (.dup2, 1)) (hv : v.category = 1) (hw : w.category = 1) (k : zW G d M (pc + 1) lv (v :: w :: v :: w :: st) H Q) : zW G d M pc lv (v :: w :: st) H Q :=
  fun p e s m args below meth c locs ls cells slots g0 g1 A h1 h2 h3 h4 h5 => lv_dup2_11 A.1 A.2.1 hd hv hw (k p e s m args below meth c locs ls cells slots g0 g1 A h1 h2 h3 h4 h5)
theorem zw_goto {off : Int} (t : Nat) (hd : decode M.2.1 pc = .ok (.goto off, 3)) (ht : (pc : Int) + off = (t : Int)) (k : zW G d M t lv st H Q) : zW G d M pc lv st H Q :=
  fun p e s m args below meth c locs ls cells slots g0 g1 A h1 h2 h3 h4 h5 => lv_goto A.1 A.2.1 hd ht (k p e s m args below meth c locs ls cells slots g0 g1 A h1 h2 h3 h4 h5)
end ZP
end
section
section ZB
variable {G : zG} {d : Nat} {M : zMd} {pc : Nat} {lv : List (Option Value)} {st : List Value} {H : Heap} {Q : Option Value → Heap → Prop}
theorem zw_if_eq {x : Int32} {off : Int} (t : Nat) (hd : decode M.2.1 pc = .ok (.ifCond .eq off, 3)) (ht : (pc : Int) + off = (t : Int)) (kt : x = 0 → zW G d M t lv st H Q) (kf : ¬ x = 0 → zW G d M (pc + 3) lv st H Q) : zW G d M pc lv (.int x :: st) H Q :=
  fun p e s m args below meth c locs ls cells slots g0 g1 A h1 h2 h3 h4 h5 => lv_if_eq A.1 A.2.1 hd ht (fun h => kt h p e s m args below meth c locs ls cells slots g0 g1 A h1 h2 h3 h4 h5) (fun h => kf h p e s m args below meth c locs ls cells slots g0 g1 A h1 h2 h3 h4 h5)
theorem zw_if_ne {x : Int32} {off : Int} (t : Nat) (hd : decode M.2.1 pc = .ok (.ifCond .ne off, 3)) (ht : (pc : Int) + off = (t : Int)) (kt : ¬ x = 0 → zW G d M t lv st H Q) (kf : x = 0 → zW G d M (pc + 3) lv st H Q) : zW G d M pc lv (.int x :: st) H Q :=
  fun p e s m args below meth c locs ls cells slots g0 g1 A h1 h2 h3 h4 h5 => lv_if_ne A.1 A.2.1 hd ht (fun h => kt h p e s m args below meth c locs ls cells slots g0 g1 A h1 h2 h3 h4 h5) (fun h => kf h p e s m args below meth c locs ls cells slots g0 g1 A h1 h2 h3 h4 h5)
theorem zw_if_lt {x : Int32} {off : Int} (t : Nat) (hd : decode M.2.1 pc = .ok (.ifCond .lt off, 3)) (ht : (pc : Int) + off = (t : Int)) (kt : x < 0 → zW G d M t lv st H Q) (kf : ¬ x < 0 → zW G d M (pc + 3) lv st H Q) : zW G d M pc lv (.int x :: st) H Q :=
  fun p e s m args below meth c locs ls cells slots g0 g1 A h1 h2 h3 h4 h5 => lv_if_lt A.1 A.2.1 hd ht (fun h => kt h p e s m args below meth c locs ls cells slots g0 g1 A h1 h2 h3 h4 h5) (fun h => kf h p e s m args below meth c locs ls cells slots g0 g1 A h1 h2 h3 h4 h5)
theorem zw_if_ge {x : Int32} {off : Int} (t : Nat) (hd : decode M.2.1 pc = .ok (.ifCond .ge off, 3)) (ht : (pc : Int) + off = (t : Int)) (kt : 0 ≤ x → zW G d M t lv st H Q) (kf : ¬ 0 ≤ x → zW G d M (pc + 3) lv st H Q) : zW G d M pc lv (.int x :: st) H Q :=
  fun p e s m args below meth c locs ls cells slots g0 g1 A h1 h2 h3 h4 h5 => lv_if_ge A.1 A.2.1 hd ht (fun h => kt h p e s m args below meth c locs ls cells slots g0 g1 A h1 h2 h3 h4 h5) (fun h => kf h p e s m args below meth c locs ls cells slots g0 g1 A h1 h2 h3 h4 h5)
theorem zw_if_gt {x : Int32} {off : Int} (t : Nat) (hd : decode M.2.1 pc = .ok (.ifCond .gt off, 3)) (ht : (pc : Int) + off = (t : Int)) (kt : 0 < x → zW G d M t lv st H Q) (kf : ¬ 0 < x → zW G d M (pc + 3) lv st H Q) : zW G d M pc lv (.int x :: st) H Q :=
  fun p e s m args below meth c locs ls cells slots g0 g1 A h1 h2 h3 h4 h5 => lv_if_gt A.1 A.2.1 hd ht (fun h => kt h p e s m args below meth c locs ls cells slots g0 g1 A h1 h2 h3 h4 h5) (fun h => kf h p e s m args below meth c locs ls cells slots g0 g1 A h1 h2 h3 h4 h5)
theorem zw_if_le {x : Int32} {off : Int} (t : Nat) (hd : decode M.2.1 pc = .ok (.ifCond .le off, 3)) (ht : (pc : Int) + off = (t : Int)) (kt : x ≤ 0 → zW G d M t lv st H Q) (kf : ¬ x ≤ 0 → zW G d M (pc + 3) lv st H Q) : zW G d M pc lv (.int x :: st) H Q :=
  fun p e s m args below meth c locs ls cells slots g0 g1 A h1 h2 h3 h4 h5 => lv_if_le A.1 A.2.1 hd ht (fun h => kt h p e s m args below meth c locs ls cells slots g0 g1 A h1 h2 h3 h4 h5) (fun h => kf h p e s m args below meth c locs ls cells slots g0 g1 A h1 h2 h3 h4 h5)
theorem zw_icmp_eq {x y : Int32} {off : Int} (t : Nat) (hd : decode M.2.1 pc = .ok (.if_icmp .eq off, 3)) (ht : (pc : Int) + off = (t : Int)) (kt : x = y → zW G d M t lv st H Q) (kf : ¬ x = y → zW G d M (pc + 3) lv st H Q) : zW G d M pc lv (.int y :: .int x :: st) H Q :=
  fun p e s m args below meth c locs ls cells slots g0 g1 A h1 h2 h3 h4 h5 => lv_icmp_eq A.1 A.2.1 hd ht (fun h => kt h p e s m args below meth c locs ls cells slots g0 g1 A h1 h2 h3 h4 h5) (fun h => kf h p e s m args below meth c locs ls cells slots g0 g1 A h1 h2 h3 h4 h5)
theorem zw_icmp_ne {x y : Int32} {off : Int} (t : Nat) (hd : decode M.2.1 pc = .ok (.if_icmp .ne off, 3)) (ht : (pc : Int) + off = (t : Int)) (kt : ¬ x = y → zW G d M t lv st H Q) (kf : x = y → zW G d M (pc + 3) lv st H Q) : zW G d M pc lv (.int y :: .int x :: st) H Q :=
  fun p e s m args below meth c locs ls cells slots g0 g1 A h1 h2 h3 h4 h5 => lv_icmp_ne A.1 A.2.1 hd ht (fun h => kt h p e s m args below meth c locs ls cells slots g0 g1 A h1 h2 h3 h4 h5) (fun h => kf h p e s m args below meth c locs ls cells slots g0 g1 A h1 h2 h3 h4 h5)
theorem zw_icmp_lt {x y : Int32} {off : Int} (t : Nat) (hd : decode M.2.1 pc = .ok (.if_icmp .lt off, 3)) (ht : (pc : Int) + off = (t : Int)) (kt : x < y → zW G d M t lv st H Q) (kf : ¬ x < y → zW G d M (pc + 3) lv st H Q) : zW G d M pc lv (.int y :: .int x :: st) H Q :=
  fun p e s m args below meth c locs ls cells slots g0 g1 A h1 h2 h3 h4 h5 => lv_icmp_lt A.1 A.2.1 hd ht (fun h => kt h p e s m args below meth c locs ls cells slots g0 g1 A h1 h2 h3 h4 h5) (fun h => kf h p e s m args below meth c locs ls cells slots g0 g1 A h1 h2 h3 h4 h5)
theorem zw_icmp_ge {x y : Int32} {off : Int} (t : Nat) (hd : decode M.2.1 pc = .ok (.if_icmp .ge off, 3)) (ht : (pc : Int) + off = (t : Int)) (kt : y ≤ x → zW G d M t lv st H Q) (kf : ¬ y ≤ x → zW G d M (pc + 3) lv st H Q) : zW G d M pc lv (.int y :: .int x :: st) H Q :=
  fun p e s m args below meth c locs ls cells slots g0 g1 A h1 h2 h3 h4 h5 => lv_icmp_ge A.1 A.2.1 hd ht (fun h => kt h p e s m args below meth c locs ls cells slots g0 g1 A h1 h2 h3 h4 h5) (fun h => kf h p e s m args below meth c locs ls cells slots g0 g1 A h1 h2 h3 h4 h5)
theorem zw_icmp_gt {x y : Int32} {off : Int} (t : Nat) (hd : decode M.2.1 pc = .ok (.if_icmp .gt off, 3)) (ht : (pc : Int) + off = (t : Int)) (kt : y < x → zW G d M t lv st H Q) (kf : ¬ y < x → zW G d M (pc + 3) lv st H Q) : zW G d M pc lv (.int y :: .int x :: st) H Q :=
  fun p e s m args below meth c locs ls cells slots g0 g1 A h1 h2 h3 h4 h5 => lv_icmp_gt A.1 A.2.1 hd ht (fun h => kt h p e s m args below meth c locs ls cells slots g0 g1 A h1 h2 h3 h4 h5) (fun h => kf h p e s m args below meth c locs ls cells slots g0 g1 A h1 h2 h3 h4 h5)
theorem zw_icmp_le {x y : Int32} {off : Int} (t : Nat) (hd : decode M.2.1 pc = .ok (.if_icmp .le off, 3)) (ht : (pc : Int) + off = (t : Int)) (kt : x ≤ y → zW G d M t lv st H Q) (kf : ¬ x ≤ y → zW G d M (pc + 3) lv st H Q) : zW G d M pc lv (.int y :: .int x :: st) H Q :=
  fun p e s m args below meth c locs ls cells slots g0 g1 A h1 h2 h3 h4 h5 => lv_icmp_le A.1 A.2.1 hd ht (fun h => kt h p e s m args below meth c locs ls cells slots g0 g1 A h1 h2 h3 h4 h5) (fun h => kf h p e s m args below meth c locs ls cells slots g0 g1 A h1 h2 h3 h4 h5)
theorem zw_acmp_eq {rx ry : Option Nat} {off : Int} (t : Nat) (hd : decode M.2.1 pc = .ok (.if_acmp .eq off, 3)) (ht : (pc : Int) + off = (t : Int)) (kt : rx = ry → zW G d M t lv st H Q) (kf : ¬ rx = ry → zW G d M (pc + 3) lv st H Q) : zW G d M pc lv (va_rf ry :: va_rf rx :: st) H Q :=
  fun p e s m args below meth c locs ls cells slots g0 g1 A h1 h2 h3 h4 h5 => lv_acmp_eq A.1 A.2.1 hd ht (fun h => kt h p e s m args below meth c locs ls cells slots g0 g1 A h1 h2 h3 h4 h5) (fun h => kf h p e s m args below meth c locs ls cells slots g0 g1 A h1 h2 h3 h4 h5)
theorem zw_acmp_ne {rx ry : Option Nat} {off : Int} (t : Nat) (hd : decode M.2.1 pc = .ok (.if_acmp .ne off, 3)) (ht : (pc : Int) + off = (t : Int)) (kt : ¬ rx = ry → zW G d M t lv st H Q) (kf : rx = ry → zW G d M (pc + 3) lv st H Q) : zW G d M pc lv (va_rf ry :: va_rf rx :: st) H Q :=
  fun p e s m args below meth c locs ls cells slots g0 g1 A h1 h2 h3 h4 h5 => lv_acmp_ne A.1 A.2.1 hd ht (fun h => kt h p e s m args below meth c locs ls cells slots g0 g1 A h1 h2 h3 h4 h5) (fun h => kf h p e s m args below meth c locs ls cells slots g0 g1 A h1 h2 h3 h4 h5)
theorem zw_ifnull {v : Value} {off : Int} (t : Nat) (hd : decode M.2.1 pc = .ok (.ifnull off, 3)) (ht : (pc : Int) + off = (t : Int)) (hv : zRf v) (kt : v = .null → zW G d M t lv st H Q) (kf : ∀ a : Nat, v = .ref a → zW G d M (pc + 3) lv st H Q) : zW G d M pc lv (v :: st) H Q := by
  intro p e s m args below meth c locs ls cells slots g0 g1 A h1 h2 h3 h4 h5
  rcases hv with rfl | ⟨a, rfl⟩
  · exact lv_ifnullN A.1 A.2.1 hd ht (kt rfl p e s m args below meth c locs ls cells slots g0 g1 A h1 h2 h3 h4 h5)
  · exact lv_ifnull A.1 A.2.1 hd (kf a rfl p e s m args below meth c locs ls cells slots g0 g1 A h1 h2 h3 h4 h5)
theorem zw_ifnonnull {v : Value} {off : Int} (t : Nat) (hd : decode M.2.1 pc = .ok (.ifnonnull off, 3)) (ht : (pc : Int) + off = (t : Int)) (hv : zRf v) (kt : ∀ a : Nat, v = .ref a → zW G d M t lv st H Q) (kf : v = .null → zW G d M (pc + 3) lv st H Q) : zW G d M pc lv (v :: st) H Q := by
  intro p e s m args below meth c locs ls cells slots g0 g1 A h1 h2 h3 h4 h5
  rcases hv with rfl | ⟨a, rfl⟩
  · exact lv_ifnonnullN A.1 A.2.1 hd (kf rfl p e s m args below meth c locs ls cells slots g0 g1 A h1 h2 h3 h4 h5)
  · exact lv_ifnonnull A.1 A.2.1 hd ht (kt a rfl p e s m args below meth c locs ls cells slots g0 g1 A h1 h2 h3 h4 h5)
theorem zw_tableOut {dflt lo hi : Int} {offs : Array Int} {len : Nat} {x : Int32} (t : Nat) (hd : decode M.2.1 pc = .ok (.tableswitch dflt lo hi offs, len)) (h : x.toInt < lo ∨ hi < x.toInt) (ht : (pc : Int) + dflt = (t : Int)) (k : zW G d M t lv st H Q) : zW G d M pc lv (.int x :: st) H Q :=
  fun p e s m args below meth c locs ls cells slots g0 g1 A h1 h2 h3 h4 h5 => lv_tableOut A.1 A.2.1 hd h ht (k p e s m args below meth c locs ls cells slots g0 g1 A h1 h2 h3 h4 h5)
theorem zw_tableIn {dflt lo hi : Int} {offs : Array Int} {len : Nat} {x : Int32} {off : Int} (t : Nat) (hd : decode M.2.1 pc = .ok (.tableswitch dflt lo hi offs, len)) (b1 : ¬ x.toInt < lo) (b2 : ¬ hi < x.toInt) (ho : offs[(x.toInt - lo).toNat]? = some off) (ht : (pc : Int) + off = (t : Int)) (k : zW G d M t lv st H Q) : zW G d M pc lv (.int x :: st) H Q :=
  fun p e s m args below meth c locs ls cells slots g0 g1 A h1 h2 h3 h4 h5 => lv_tableIn A.1 A.2.1 hd b1 b2 ho ht (k p e s m args below meth c locs ls cells slots g0 g1 A h1 h2 h3 h4 h5)
end ZB
end
section
theorem zLay_good {C : String} {T : u_T} {N : Nat} {w : Cond} (h : w ∈ u_ws C T N) : (w.onTables && w.keeps) = true := by
  unfold u_ws at h
  obtain ⟨k, -, rfl⟩ := List.mem_map.mp h
  unfold u_lay
  split <;> rfl
/-- a Fieldref of the pool: field k of class ci -/
def zFl (own : String) (idx ci k : Nat) : Prop := ∃ (C : String) (T : u_T) (N : Nat) (ref : String), classes[ci]? = some (C, T, N) ∧ k < N ∧ (∀ w ∈ u_ws C T N, w ∈ lw_tbl) ∧ (Cond.fieldLink own idx ref (T k).2.1 (T k).2.2.1 ∈ lw_tbl ∨ ∃ host : String, Cond.fieldLinkNest own idx ref (T k).2.1 (T k).2.2.1 host ∈ lw_tbl) ∧ (ref = (T k).1 ∨ Cond.sameField ref (T k).1 (T k).2.1 (T k).2.2.1 ∈ lw_tbl)
/-- ... which may be written by the method, a value of the type ty -/
def zPf (M : zMd) (idx ci k : Nat) (ty : FieldType) : Prop := zFl M.1.cls idx ci k ∧ ∃ (C : String) (T : u_T) (N : Nat) (ty0 : Nat → FieldType), classes[ci]? = some (C, T, N) ∧ (∀ j, j < N → parseFieldDescriptor (T j).2.2.1 = some (ty0 j)) ∧ (∀ a, a < N → ∀ b, b < N → a ≠ b → (T a).2.1 ≠ (T b).2.1) ∧ ty0 k = ty ∧ ((T k).2.2.2 = false ∨ ((T k).2.2.2 = true ∧ M.1.name = "<init>" ∧ (T k).1 = M.1.cls))
def zN (ci : Nat) : Nat := match classes[ci]? with
  | some q => q.2.2
  | none => 0
/-- a class entry of the pool, of a class whose objects have n slots and begin with the fields fs -/
def zNf (M : zMd) (idx ci n : Nat) (fs : List Value) : Prop := ∃ (C : String) (T : u_T) (N : Nat) (ty0 : Nat → FieldType), classes[ci]? = some (C, T, N) ∧ (∀ w ∈ u_ws C T N, w ∈ lw_tbl) ∧ (∀ j, j < N → parseFieldDescriptor (T j).2.2.1 = some (ty0 j)) ∧ Cond.classLink M.1.cls idx C ∈ lw_tbl ∧ Cond.instantiable C n ∈ lw_tbl ∧ Cond.initialized C ∈ lw_tbl ∧ fs.length ≤ N ∧ ∀ j, j < fs.length → fs[j]? = some (defaultValue (ty0 j))
section ZH
variable {G : zG} {d : Nat} {M : zMd} {pc : Nat} {lv : List (Option Value)} {st : List Value} {H : Heap} {Q : Option Value → Heap → Prop}
theorem zw_getf {idx ci k a : Nat} {v : Value} (hd : decode M.2.1 pc = .ok (.getfield idx, 3)) (hF : zFl M.1.cls idx ci k) (hf : zFd G H a ci k v) (kk : zW G d M (pc + 3) lv (v :: st) H Q) : zW G d M pc lv (.ref a :: st) H Q := by
  intro p e s m args below meth c locs ls cells slots g0 g1 A h1 h2 h3 h4 h5
  obtain ⟨C, T, N, ref, hc, hk, hin, hlk, hsm⟩ := hF
  obtain ⟨cell, q1, q2, q3⟩ := hf
  have hts : ∀ w ∈ u_ws C T N, w.before args s = true := fun w hw => zWd g0 g1 (hin w hw) (zLay_good hw)
  obtain ⟨hS, hfc, kC, hkC, hkind⟩ := (zK_at g0 g1).1 ci _ hc
  obtain ⟨cf, kf, fi, f, hi, hsl⟩ := hS k hk
  have hi' : s.fieldFound? ref (T k).2.1 (T k).2.2.1 = some (cf, kf, fi, f) := by
    rcases hsm with rfl | h
    · exact hi
    · exact u_same (args := args) (zWd g0 g1 h rfl) _ hi
  have hst := (u_facts hfc hkC (u_lays hts (fun w h => h) hk) hi).1
  rcases hlk with hlk | ⟨host, hlk⟩
  · exact W.getf A.1 A.2.1 A.2.2.2.2.2.1 (zWd g0 g1 hlk rfl) hi' hst q1 q2 (by rw [hsl]; exact q3) rfl rfl hd (kk p e s m args below meth c locs ls cells slots g0 g1 A h1 h2 h3 h4 h5)
  · exact va_Wgetf A.1 A.2.1 A.2.2.2.2.2.1 (va_Nw.use rfl (va_Nw.warmF g1 (va_Nw.of rfl (g0.1 _ hlk)))) hi' hst q1 q2 (by rw [hsl]; exact q3) rfl rfl hd (kk p e s m args below meth c locs ls cells slots g0 g1 A h1 h2 h3 h4 h5)
theorem zObj_put {cell cell' : Cell} {H1 : Heap} {a ci k : Nat} {fs : List Value} {v : Value} (hap : ∀ x y, x < zN ci → y < zN ci → x ≠ y → (zD G).2 ci x ≠ (zD G).2 ci y) (hl : fs.length ≤ zN ci) (hk : k < fs.length) (q2 : cell.cls = (zD G).1 ci) (q3 : cell.vm = .none) (q4 : ∀ j : Nat, j < fs.length → cell.slots[(zD G).2 ci j]? = fs[j]?) (e1 : H1[a]? = some cell') (e2 : cell' = cell.setSlot ((zD G).2 ci k) v) : zObj G H1 a ci (fs.set k v) := by
  subst e2
  refine ⟨_, e1, q2, q3, fun j hj => ?_⟩
  rw [List.length_set] at hj
  have hsz : (zD G).2 ci k < cell.slots.size := by
    have := q4 k hk
    rw [List.getElem?_eq_getElem hk] at this
    exact (Array.getElem?_eq_some_iff.mp this).1
  by_cases e : j = k
  · subst e
    rw [List.getElem?_set_self hk]
    exact Cell.slots_setSlot_self v hsz
  · rw [slot_ne _ _ (hap k j (by omega) (by omega) (fun q => e q.symm)), List.getElem?_set_ne (fun q => e q.symm)]
    exact q4 j hj
theorem zw_putf {idx ci k a : Nat} {v : Value} {ty : FieldType} {fs : List Value} (hd : decode M.2.1 pc = .ok (.putfield idx, 3)) (hF : zPf M idx ci k ty) (ho : zObj G H a ci fs) (hl : fs.length ≤ zN ci) (hk : k < fs.length) (ha : zFr G a) (hn : narrow ty v = v) (hfit : fits ty v = true) (kk : ∀ H1 : Heap, zObj G H1 a ci (fs.set k v) → zUp a H H1 → zW G d M (pc + 3) lv st H1 Q) : zW G d M pc lv (v :: .ref a :: st) H Q := by
  intro p e s m args below meth c locs ls cells slots g0 g1 A h1 h2 h3 h4 h5
  obtain ⟨⟨C, T, N, ref, hc, hkN, hin, hlk, hsm⟩, C2, T2, N2, ty0, hc2, hty, hnm, hyk, hfin⟩ := hF
  have hcc := hc.symm.trans hc2
  cases hcc
  obtain ⟨cell, q1, q2, q3, q4⟩ := ho
  have hzN : zN ci = N := by unfold zN; rw [hc]
  have hts : ∀ w ∈ u_ws C T N, w.before args s = true := fun w hw => zWd g0 g1 (hin w hw) (zLay_good hw)
  have hK := zK_at g0 g1
  have hap := va_apart (own := C) hts (fun w h => h) ty0 hty hnm hK hc
  obtain ⟨hS, hfc, kC, hkC, hkind⟩ := hK.1 ci _ hc
  obtain ⟨cf, kf, fi, f, hi, hsl⟩ := hS k hkN
  have hi' : s.fieldFound? ref (T k).2.1 (T k).2.2.1 = some (cf, kf, fi, f) := by
    rcases hsm with rfl | h
    · exact hi
    · exact u_same (args := args) (zWd g0 g1 h rfl) _ hi
  have hst := (u_facts hfc hkC (u_lays hts (fun w h => h) hkN) hi).1
  have hdty : parseFieldDescriptor (T k).2.2.1 = some ty := by rw [hty k hkN, hyk]
  have hfits := u_fits hfc hkC hkind (u_lays hts (fun w h => h) hkN) hi hdty hn hfit
  have hslot : f.slot < cell.slots.size := by
    have := q4 k hk
    rw [List.getElem?_eq_getElem hk] at this
    rw [hsl]
    exact (Array.getElem?_eq_some_iff.mp this).1
  have go : ∀ H' : Heap, H'[a]? = some (cell.setSlot f.slot v) → H'.size = H.size → (∀ q, q ≠ a → H'[q]? = H[q]?) → W p (zl G) e (zR G d s.heap) s m args below meth c H' (locs ++ [⟨a, f.slot⟩]) cells slots (MQ below (zQ G Q) args s (zCp G - s.heap.size) (zSp G - zT s.heap) (zFr G)) (F0 m (pc + 3) ls st) := by
    intro H' e1 e2 e3
    have hu : zUp a H H' := zUp_of q1 e1 (by simp [Cell.setSlot]) e2 e3
    refine kk H' (zObj_put (G := G) (by rw [hzN]; exact hap) hl hk q2 q3 q4 e1 (by rw [hsl])) hu p e s m args below meth c _ ls cells slots g0 g1 A h1 h2 (fun q hq => ?_) h4 (hu.ok ha h5)
    rcases List.mem_append.mp hq with h | h
    · exact h3 q h
    · rw [List.mem_singleton.mp h]
      exact ha
  rcases hfin with hfin | ⟨hfin, hinit, hdecl⟩
  · have hlay := hts _ (u_in_lay (C := C) (T := T) hkN)
    unfold u_lay at hlay
    rw [if_neg (by rw [hfin]; decide)] at hlay
    have h6 := u_store hfc hkC hkind hlay hi hdty hn hfit
    rcases hlk with hlk | ⟨host, hlk⟩
    · exact W.putK A.1 A.2.1 (f := f) ⟨A.2.2.2.2.2.1, zWd g0 g1 hlk rfl, ⟨_, _, _, hi'⟩, hst⟩ (by rw [q2]; exact h6) q1 q3 hslot rfl rfl hd go
    · exact va_WputK A.1 A.2.1 A.2.2.2.2.2.1 (va_Nw.use rfl (va_Nw.warmF g1 (va_Nw.of rfl (g0.1 _ hlk)))) hi' hst (by rw [q2]; exact h6) q1 q3 hslot rfl rfl hd go
  · have hlay := hts _ (u_in_lay (C := C) (T := T) hkN)
    unfold u_lay at hlay
    rw [if_pos hfin] at hlay
    have hcf : m.cls = cf := by
      obtain ⟨_, _, c', _, _, _, -, -, hf', -, -, -, hown2, -⟩ := Cond.laysFinal_spec hlay
      have e1 : c' = cf := by have := hi.symm.trans hf'; simp at this; exact this.1.symm
      rw [hdecl] at hown2
      rw [← e1]; exact Option.some.inj (A.2.2.2.2.2.1.symm.trans hown2)
    rcases hlk with hlk | ⟨host, hlk⟩
    · exact W.putFinK A.1 A.2.1 A.2.2.2.2.2.1 (zWd g0 g1 hlk rfl) hi' hst hcf (A.2.2.2.2.2.2.trans hinit) (by rw [q2]; exact hfits) q1 q3 hslot rfl rfl hd go
    · refine va_Wputf A.1 A.2.1 A.2.2.2.2.2.1 (va_Nw.use rfl (va_Nw.warmF g1 (va_Nw.of rfl (g0.1 _ hlk)))) hi' hst (Or.inr ⟨hcf, A.2.2.2.2.2.2.trans hinit⟩) q1 (by rw [q3]; intro h; cases h) hslot hfits.1 (by rw [q2, q3]; exact hfits.2) rfl rfl hd ?_
      have hlt : a < H.size := (Array.getElem?_eq_some_iff.mp q1).1
      exact go _ (by simp [Array.getElem?_setIfInBounds, hlt]) (by simp) (fun q hq => by simp [Array.getElem?_setIfInBounds, Ne.symm hq])
theorem zw_new {idx ci n : Nat} {fs : List Value} (hd : decode M.2.1 pc = .ok (.new idx, 3)) (hN : zNf M idx ci n fs) (hc1 : H.size + 1 ≤ zCp G) (hs1 : zT H + n ≤ zSp G) (kk : ∀ H1 : Heap, zObj G H1 H.size ci fs → zNw n H H1 → zW G d M (pc + 3) lv (.ref H.size :: st) H1 Q) : zW G d M pc lv st H Q := by
  intro p e s m args below meth c locs ls cells slots g0 g1 A h1 h2 h3 h4 h5
  obtain ⟨C, T, N, ty0, hc, hin, hty, hcl, hins, hini, hl, hfs⟩ := hN
  have hts : ∀ w ∈ u_ws C T N, w.before args s = true := fun w hw => zWd g0 g1 (hin w hw) (zLay_good hw)
  have hKn := (zK_at g0 g1).1 ci _ hc
  refine zw_norm fun b1 b2 => ?_
  have hsl := h5.2.2
  refine W.newc A.1 A.2.1 A.2.2.2.2.2.1 (zWd g0 g1 hcl rfl) (zWd g0 g1 hins rfl) (zWd g0 g1 hini rfl) rfl hd (by show _ ≤ zCp G - s.heap.size; omega) (by show _ ≤ zSp G - zT s.heap; omega) fun cC kC f1 f2 f3 f4 => ?_
  have hcC : (zD G).1 ci = cC := Option.some.inj (hKn.2.1.symm.trans f1)
  have e0 : ({ cls := cC, slots := kC.instanceTypes.map defaultValue, vm := .none } : Cell) = blank cC kC := rfl
  rw [e0]
  have hnw : zNw n H (H.push (blank cC kC)) := by
    have := zNw_push H (blank cC kC)
    rw [show (blank cC kC).slots.size = n by simp [blank, f4]] at this
    exact this
  have hb : (H.push (blank cC kC))[H.size]? = some (blank cC kC) := by simp
  subst hcC
  obtain ⟨cell, r1, r2, r3, r4⟩ := u_born (o := H.size) ty0 hts (fun w h => h) hKn f2 hb hty
  refine kk _ ⟨cell, r1, r2, r3, fun j hj => ?_⟩ hnw p e s m args below meth c locs ls _ _ g0 g1 A h1 h2 h3 h4 (hnw.ok hc1 hs1 h5)
  rw [r4 j (by omega), hfs j hj]
theorem zw_alen {a n : Nat} {ty : FieldType} {f : Nat → Value} (hd : decode M.2.1 pc = .ok (.arraylength, 1)) (hA : zArr G H a ty n f) (kk : zW G d M (pc + 1) lv (.int (nI n) :: st) H Q) : zW G d M pc lv (.ref a :: st) H Q := by
  intro p e s m args below meth c locs ls cells slots g0 g1 A h1 h2 h3 h4 h5
  obtain ⟨cell, q1, q2, q3, q4, q5, q6⟩ := hA
  exact W.alen (n := nI n) A.1 A.2.1 q1 (State.isArrayOf_alike g1.alike q2) (by rw [q4]; rfl) rfl rfl hd (kk p e s m args below meth c locs ls cells slots g0 g1 A h1 h2 h3 h4 h5)
theorem zw_iald {a n : Nat} {f : Nat → Value} {i : Int32} (hd : decode M.2.1 pc = .ok (.iaload, 1)) (hA : zArr G H a .int n f) (hi : vp_in i n) (kk : zW G d M (pc + 1) lv (f i.toNatClampNeg :: st) H Q) : zW G d M pc lv (.int i :: .ref a :: st) H Q := by
  intro p e s m args below meth c locs ls cells slots g0 g1 A h1 h2 h3 h4 h5
  obtain ⟨cell, q1, q2, q3, q4, q5, q6⟩ := hA
  have hlt : i.toNatClampNeg < n := Nat.not_le.mp fun q => hi (Or.inr q)
  exact W.iald A.1 A.2.1 q1 (State.isArrayOf_alike g1.alike q2) q3 (by rw [q4]; exact hi) (q5 _ hlt) rfl rfl hd (kk p e s m args below meth c locs ls cells slots g0 g1 A h1 h2 h3 h4 h5)
theorem zw_bald {a n : Nat} {f : Nat → Value} {i : Int32} (hd : decode M.2.1 pc = .ok (.baload, 1)) (hA : zArr G H a .byte n f) (hi : vp_in i n) (kk : zW G d M (pc + 1) lv (f i.toNatClampNeg :: st) H Q) : zW G d M pc lv (.int i :: .ref a :: st) H Q := by
  intro p e s m args below meth c locs ls cells slots g0 g1 A h1 h2 h3 h4 h5
  obtain ⟨cell, q1, q2, q3, q4, q5, q6⟩ := hA
  have hlt : i.toNatClampNeg < n := Nat.not_le.mp fun q => hi (Or.inr q)
  exact W.bald A.1 A.2.1 q1 (State.isArrayOf_alike g1.alike q2) q3 (by rw [q4]; exact hi) (q5 _ hlt) rfl rfl hd (kk p e s m args below meth c locs ls cells slots g0 g1 A h1 h2 h3 h4 h5)
theorem zw_zald {a n : Nat} {f : Nat → Value} {i : Int32} (hd : decode M.2.1 pc = .ok (.baload, 1)) (hA : zArr G H a .boolean n f) (hi : vp_in i n) (kk : zW G d M (pc + 1) lv (f i.toNatClampNeg :: st) H Q) : zW G d M pc lv (.int i :: .ref a :: st) H Q := by
  intro p e s m args below meth c locs ls cells slots g0 g1 A h1 h2 h3 h4 h5
  obtain ⟨cell, q1, q2, q3, q4, q5, q6⟩ := hA
  have hlt : i.toNatClampNeg < n := Nat.not_le.mp fun q => hi (Or.inr q)
  exact W.zald A.1 A.2.1 q1 (State.isArrayOf_alike g1.alike q2) q3 (by rw [q4]; exact hi) (q5 _ hlt) rfl rfl hd (kk p e s m args below meth c locs ls cells slots g0 g1 A h1 h2 h3 h4 h5)
theorem zw_aald {a n : Nat} {ty : FieldType} {f : Nat → Value} {i : Int32} (hd : decode M.2.1 pc = .ok (.aaload, 1)) (hr : ty.isReference = true) (hA : zArr G H a ty n f) (hi : vp_in i n) (kk : zW G d M (pc + 1) lv (f i.toNatClampNeg :: st) H Q) : zW G d M pc lv (.int i :: .ref a :: st) H Q := by
  intro p e s m args below meth c locs ls cells slots g0 g1 A h1 h2 h3 h4 h5
  obtain ⟨cell, q1, q2, q3, q4, q5, q6⟩ := hA
  have hlt : i.toNatClampNeg < n := Nat.not_le.mp fun q => hi (Or.inr q)
  exact W.aald A.1 A.2.1 q1 (State.isArrayOf_alike g1.alike q2) hr q3 (by rw [q4]; exact hi) (q5 _ hlt) rfl rfl hd (kk p e s m args below meth c locs ls cells slots g0 g1 A h1 h2 h3 h4 h5)
theorem zArr_set {a n i : Nat} {ty : FieldType} {f : Nat → Value} {H1 : Heap} {cell : Cell} {v : Value} (q2 : (zS G).isArrayOf cell ty) (q3 : cell.vm ≠ .unknown) (q4 : cell.slots.size = n) (q5 : ∀ j : Nat, j < n → cell.slots[j]? = some (f j)) (q6 : zFr G a → va_RA (zS G) cell.cls ty) (e1 : H1[a]? = some (cell.setSlot i v)) : zArr G H1 a ty n (updV f i v) := by
  refine ⟨_, e1, q2, q3, by simp [Cell.setSlot, q4], fun j hj => ?_, q6⟩
  by_cases e : j = i
  · subst e
    rw [show updV f j v j = v by simp [updV]]
    exact Cell.slots_setSlot_self v (by omega)
  · rw [slot_ne _ _ (fun q => e q.symm), q5 j hj]
    simp [updV, e]
theorem zw_iast {a n : Nat} {f : Nat → Value} {i x : Int32} (hd : decode M.2.1 pc = .ok (.iastore, 1)) (hA : zArr G H a .int n f) (hi : vp_in i n) (ha : zFr G a) (kk : ∀ H1 : Heap, zArr G H1 a .int n (updV f i.toNatClampNeg (.int x)) → zUp a H H1 → zW G d M (pc + 1) lv st H1 Q) : zW G d M pc lv (.int x :: .int i :: .ref a :: st) H Q := by
  intro p e s m args below meth c locs ls cells slots g0 g1 A h1 h2 h3 h4 h5
  obtain ⟨cell, q1, q2, q3, q4, q5, q6⟩ := hA
  refine W.iast A.1 A.2.1 q1 (State.isArrayOf_alike g1.alike q2) q3 (by rw [q4]; exact hi) rfl rfl hd fun H' e1 e2 e3 => ?_
  have hu : zUp a H H' := zUp_of q1 e1 (by simp [Cell.setSlot]) e2 e3
  refine kk H' (zArr_set q2 q3 q4 q5 q6 e1) hu p e s m args below meth c _ ls cells slots g0 g1 A h1 h2 (fun q hq => ?_) h4 (hu.ok ha h5)
  rcases List.mem_append.mp hq with h | h
  · exact h3 q h
  · rw [List.mem_singleton.mp h]
    exact ha
theorem zw_bast {a n : Nat} {f : Nat → Value} {i x : Int32} (hd : decode M.2.1 pc = .ok (.bastore, 1)) (hA : zArr G H a .byte n f) (hi : vp_in i n) (ha : zFr G a) (kk : ∀ H1 : Heap, zArr G H1 a .byte n (updV f i.toNatClampNeg (.int x.toInt8.toInt32)) → zUp a H H1 → zW G d M (pc + 1) lv st H1 Q) : zW G d M pc lv (.int x :: .int i :: .ref a :: st) H Q := by
  intro p e s m args below meth c locs ls cells slots g0 g1 A h1 h2 h3 h4 h5
  obtain ⟨cell, q1, q2, q3, q4, q5, q6⟩ := hA
  refine W.bast A.1 A.2.1 q1 (State.isArrayOf_alike g1.alike q2) q3 (by rw [q4]; exact hi) rfl rfl hd fun H' e1 e2 e3 => ?_
  rw [narrow_byte] at e1
  have hu : zUp a H H' := zUp_of q1 e1 (by simp [Cell.setSlot]) e2 e3
  refine kk H' (zArr_set q2 q3 q4 q5 q6 e1) hu p e s m args below meth c _ ls cells slots g0 g1 A h1 h2 (fun q hq => ?_) h4 (hu.ok ha h5)
  rcases List.mem_append.mp hq with h | h
  · exact h3 q h
  · rw [List.mem_singleton.mp h]
    exact ha
theorem zw_zast {a n : Nat} {f : Nat → Value} {i x : Int32} (hd : decode M.2.1 pc = .ok (.bastore, 1)) (hA : zArr G H a .boolean n f) (hi : vp_in i n) (ha : zFr G a) (kk : ∀ H1 : Heap, zArr G H1 a .boolean n (updV f i.toNatClampNeg (narrow .boolean (.int x))) → zUp a H H1 → zW G d M (pc + 1) lv st H1 Q) : zW G d M pc lv (.int x :: .int i :: .ref a :: st) H Q := by
  intro p e s m args below meth c locs ls cells slots g0 g1 A h1 h2 h3 h4 h5
  obtain ⟨cell, q1, q2, q3, q4, q5, q6⟩ := hA
  refine W.zast A.1 A.2.1 q1 (State.isArrayOf_alike g1.alike q2) q3 (by rw [q4]; exact hi) rfl rfl hd fun H' e1 e2 e3 => ?_
  have hu : zUp a H H' := zUp_of q1 e1 (by simp [Cell.setSlot]) e2 e3
  refine kk H' (zArr_set q2 q3 q4 q5 q6 e1) hu p e s m args below meth c _ ls cells slots g0 g1 A h1 h2 (fun q hq => ?_) h4 (hu.ok ha h5)
  rcases List.mem_append.mp hq with h | h
  · exact h3 q h
  · rw [List.mem_singleton.mp h]
    exact ha
/-- new arrays of numbers -/
theorem zw_newa {aty : ArrayType} {n : Int32} {N : Nat} (ty : FieldType) (hd : decode M.2.1 pc = .ok (.newarray aty, 2)) (hty : newarray.typeOf aty = ty) (hw : Cond.arrayClass ty ∈ lw_tbl) (hn : ¬ n < 0) (hN : n.toNatClampNeg = N) (hb : N * componentBytes ty ≤ 536870912) (hc1 : H.size + 1 ≤ zCp G) (hs1 : zT H + N ≤ zSp G) (kk : ∀ H1 : Heap, zArr G H1 H.size ty N (fun _ => defaultValue ty) → zNw N H H1 → zW G d M (pc + 2) lv (.ref H.size :: st) H1 Q) : zW G d M pc lv (.int n :: st) H Q := by
  intro p e s m args below meth c locs ls cells slots g0 g1 A h1 h2 h3 h4 h5
  subst hty
  subst hN
  refine zw_norm fun b1 b2 => ?_
  have hsl := h5.2.2
  refine W.newa A.1 A.2.1 (word_at g1 (Or.inr ⟨_, rfl⟩) (g0.1 _ hw)) rfl hd rfl hn hb (by show _ ≤ zCp G - s.heap.size; omega) (by show _ ≤ zSp G - zT s.heap; omega) fun cA kA comp f1 f2 f3 => ?_
  have hnw : zNw n.toNatClampNeg H (H.push ({ cls := cA, slots := Array.replicate n.toNatClampNeg (defaultValue (newarray.typeOf aty)), vm := .none } : Cell)) := by
    have := zNw_push H ({ cls := cA, slots := Array.replicate n.toNatClampNeg (defaultValue (newarray.typeOf aty)), vm := .none } : Cell)
    rw [show (({ cls := cA, slots := Array.replicate n.toNatClampNeg (defaultValue (newarray.typeOf aty)), vm := .none } : Cell).slots.size) = n.toNatClampNeg by simp] at this
    exact this
  obtain ⟨k0, hk0, he⟩ := g1.alike.symm.2.2 _ _ f2
  refine kk _ ⟨_, Array.getElem?_push_size, ⟨(fun k h => (by cases h)), k0, hk0, comp, (by rw [he]; exact f3)⟩, (fun h => (by cases h)), (by simp), (fun j hj => (by simp [hj])), (fun _ => (show va_RA s cA (newarray.typeOf aty) by cases aty <;> exact f1).moved g1.alike.symm)⟩ hnw p e s m args below meth c locs ls _ _ g0 g1 A h1 h2 h3 h4 (hnw.ok hc1 hs1 h5)
theorem zw_ldcS {own tx : String} {idx a : Nat} (hd : decode M.2.1 pc = .ok (.ldc idx, 2)) (ho : M.1.cls = own) (hZ : vk_R own idx tx a (zS G)) (kk : zW G d M (pc + 2) lv (.ref a :: st) H Q) : zW G d M pc lv st H Q := by
  subst ho
  exact fun p e s m args below meth c locs ls cells slots g0 g1 A h1 h2 h3 h4 h5 => va_ldcS A.1 A.2.1 A.2.2.2.2.2.1 (hZ.warm g1) hd (kk p e s m args below meth c locs ls cells slots g0 g1 A h1 h2 h3 h4 h5)
theorem zw_ldc {idx : Nat} {v : Int32} (hd : decode M.2.1 pc = .ok (.ldc idx, 2)) (hw : Cond.constant M.1.cls idx v ∈ lw_tbl) (kk : zW G d M (pc + 2) lv (.int v :: st) H Q) : zW G d M pc lv st H Q :=
  fun p e s m args below meth c locs ls cells slots g0 g1 A h1 h2 h3 h4 h5 => lv_ldc A.1 A.2.1 A.2.2.2.2.2.1 (zWd g0 g1 hw rfl) hd (kk p e s m args below meth c locs ls cells slots g0 g1 A h1 h2 h3 h4 h5)
/-- a static that nobody writes -/
theorem zw_gets {C n ds ref : String} {v : Value} {idx : Nat} (hd : decode M.2.1 pc = .ok (.getstatic idx, 3)) (hZ : va_Z C n ds v (zFr G) (zS G) (zS G).heap) (hw : Cond.fieldLink M.1.cls idx ref n ds ∈ lw_tbl) (hsm : ref = C ∨ Cond.sameField ref C n ds ∈ lw_tbl) (kk : zW G d M (pc + 3) lv (v :: st) H Q) : zW G d M pc lv st H Q := by
  intro p e s m args below meth c locs ls cells slots g0 g1 A h1 h2 h3 h4 h5
  have hZ' : va_Z C n ds v (zFr G) s H := (hZ.moved g1.alike).kept (fun a ha _ => h5.2.1 a ha)
  obtain ⟨cf, kf, fi, f, a, cell, r1, r2, r3, r4, r5, r6, r7, r8⟩ := hZ'
  refine W.gets A.1 A.2.1 A.2.2.2.2.2.1 (zWd g0 g1 hw rfl) (cf := cf) (i := fi) (k := kf) (f := f) ?_ r2 r3 r4 r5 (fun e => by rw [e] at r6; cases r6) r7 rfl hd (kk p e s m args below meth c locs ls cells slots g0 g1 A h1 h2 h3 h4 h5)
  rcases hsm with rfl | h
  · exact r1
  · exact u_same (args := args) (zWd g0 g1 h rfl) _ r1
theorem zw_castN {idx : Nat} (hd : decode M.2.1 pc = .ok (.checkcast idx, 3)) (kk : zW G d M (pc + 3) lv (.null :: st) H Q) : zW G d M pc lv (.null :: st) H Q :=
  fun p e s m args below meth c locs ls cells slots g0 g1 A h1 h2 h3 h4 h5 => lv_castN A.1 A.2.1 hd (kk p e s m args below meth c locs ls cells slots g0 g1 A h1 h2 h3 h4 h5)
theorem zIs.recv {s : State} {a ci N : Nat} {C : String} {T : u_T} (h : zIs G H a ci) (g0 : zGo G) (g1 : zEnv G s) (hc : classes[ci]? = some (C, T, N)) : ∃ cell : Cell, H[a]? = some cell ∧ cell.vm.isStatics = false ∧ s.vm.findClass C = some cell.cls := by
  obtain ⟨cell, q1, q2, q3⟩ := h
  exact ⟨cell, q1, q2, by rw [q3]; exact ((zK_at g0 g1).1 ci _ hc).2.1⟩
/-- checkcast, instanceof of an object of that very class -/
theorem zw_cast {idx ci a N : Nat} {C : String} {T : u_T} (hd : decode M.2.1 pc = .ok (.checkcast idx, 3)) (hc : classes[ci]? = some (C, T, N)) (hw : Cond.classLink M.1.cls idx C ∈ lw_tbl) (ho : zIs G H a ci) (kk : zW G d M (pc + 3) lv (.ref a :: st) H Q) : zW G d M pc lv (.ref a :: st) H Q :=
  fun p e s m args below meth c locs ls cells slots g0 g1 A h1 h2 h3 h4 h5 => va_castS A.1 A.2.1 A.2.2.2.2.2.1 (zWd g0 g1 hw rfl) ((zK_at g0 g1).1 ci _ hc).2 (ho.recv g0 g1 hc) hd (kk p e s m args below meth c locs ls cells slots g0 g1 A h1 h2 h3 h4 h5)
theorem zw_inst {idx ci a N : Nat} {C : String} {T : u_T} (hd : decode M.2.1 pc = .ok (.instanceof idx, 3)) (hc : classes[ci]? = some (C, T, N)) (hw : Cond.classLink M.1.cls idx C ∈ lw_tbl) (ho : zIs G H a ci) (kk : zW G d M (pc + 3) lv (.int 1 :: st) H Q) : zW G d M pc lv (.ref a :: st) H Q :=
  fun p e s m args below meth c locs ls cells slots g0 g1 A h1 h2 h3 h4 h5 => va_instS A.1 A.2.1 A.2.2.2.2.2.1 (zWd g0 g1 hw rfl) ((zK_at g0 g1).1 ci _ hc).2 (ho.recv g0 g1 hc) hd (kk p e s m args below meth c locs ls cells slots g0 g1 A h1 h2 h3 h4 h5)
/-- ends -/
theorem zw_iret {v : Int32} (hd : decode M.2.1 pc = .ok (.ireturn, 1)) (ty : FieldType) (hr : M.2.2.2 = some ty) (hn : narrow ty (.int v) = .int v) (hq : Q (some (.int v)) H) : zW G d M pc lv [.int v] H Q := by
  intro p e s m args below meth c locs ls cells slots g0 g1 A h1 h2 h3 h4 h5
  refine zw_norm fun b1 b2 => W.widen (k := zCp G - s.heap.size) (n := zSp G - zT s.heap) (by have := h5.2.2.1; omega) (by have := h5.2.2.2; omega) ?_
  exact W.zret A.1 A.2.1 (A.2.2.2.1.trans hr) hn (fun t ht _ => ⟨_, rfl, by rw [ht]; exact hq, by rw [ht]; exact h5, by rw [ht]; exact b1, by rw [ht]; exact b2⟩) h3 hd A.2.2.2.2.1
theorem zw_vret (hd : decode M.2.1 pc = .ok (.return_, 1)) (hr : M.2.2.2 = none) (hq : Q none H) : zW G d M pc lv [] H Q := by
  intro p e s m args below meth c locs ls cells slots g0 g1 A h1 h2 h3 h4 h5
  refine zw_norm fun b1 b2 => W.widen (k := zCp G - s.heap.size) (n := zSp G - zT s.heap) (by have := h5.2.2.1; omega) (by have := h5.2.2.2; omega) ?_
  exact W.vret A.1 A.2.1 (A.2.2.2.1.trans hr) (fun t ht _ => ⟨_, rfl, by rw [ht]; exact hq, by rw [ht]; exact h5, by rw [ht]; exact b1, by rw [ht]; exact b2⟩) h3 hd A.2.2.2.2.1
theorem zw_aret {v : Value} (hd : decode M.2.1 pc = .ok (.areturn, 1)) (ty : FieldType) (hr : M.2.2.2 = some ty) (hty : (∃ n, ty = .object n) ∨ ∃ t, ty = .array t) (hv : zRf v) (hq : Q (some v) H) : zW G d M pc lv [v] H Q := by
  intro p e s m args below meth c locs ls cells slots g0 g1 A h1 h2 h3 h4 h5
  refine zw_norm fun b1 b2 => W.widen (k := zCp G - s.heap.size) (n := zSp G - zT s.heap) (by have := h5.2.2.1; omega) (by have := h5.2.2.2; omega) ?_
  exact W.aret A.1 A.2.1 (A.2.2.2.1.trans hr) hty hv (fun t ht _ => ⟨_, rfl, by rw [ht]; exact hq, by rw [ht]; exact h5, by rw [ht]; exact b1, by rw [ht]; exact b2⟩) h3 hd A.2.2.2.2.1
end ZH
end
section
theorem zEnv_calling {G : zG} {U : State} {g : JFrame} {mk : MethodId} {a : Array Value} (h : zEnv G U) : zEnv G (U.calling g mk a) := h
theorem zBlind {G : zG} {av : List Value} {H : Heap} : FrameBlind (va_Pc av (fun U => U.heap = H ∧ zEnv G U)) := fun _ _ _ _ q => ⟨q.1, q.2.1, q.2.2⟩
theorem zCat_le (l : List Value) : (l.map fun v => v.category).sum ≤ 2 * l.length := by
  induction l with
  | nil => simp
  | cons v l ih =>
    have := lv_cat v
    simp only [List.map_cons, List.sum_cons, List.length_cons]
    omega
/-- the callee's own word, at the caller's -/
theorem zWs {G : zG} {s : State} {M : zMd} (g0 : zGo G) (g1 : zEnv G s) (hw : Cond.code M.1 M.2.1 M.2.2.1 M.2.2.2 ∈ lw_tbl) : ∀ w ∈ [Cond.code M.1 M.2.1 M.2.2.1 M.2.2.2], ∀ (a' : Array Value) (U : State), s.WarmedH U.vm → w.before a' U = true := by
  intro w h a' U hW
  rw [List.mem_singleton.mp h]
  exact zWd g0 (State.WarmedH.trans g1 hW) hw rfl
theorem zSelP {y : MethodName} {s : State} {args : Array Value} {C : String} {cC : ClassId} (hy : y.cls ≠ "java/lang/invoke/MethodHandle" ∧ y.cls ≠ "java/lang/invoke/VarHandle") (hfc : s.vm.findClass C = some cC) (hpriv : (Cond.privateMethod y).before args s = true) (hinst : (Cond.instanceMethod y).before args s = true) (hsame : (Cond.sameMethod y.cls y.cls y.name y.desc).before args s = true) : (Cond.selects C y y).before args s = true := by
  obtain ⟨cn, ck, r1, hcn, hck, hni, hf, hn1⟩ := Cond.sameMethod_found hsame
  obtain ⟨mk, methM, hnamed, hmethM, -, -⟩ := Cond.instanceMethod_spec hinst
  have hfound : s.methodFound? y.cls y.name y.desc = some mk := State.methodFound?_of_named hnamed hy
  have hcls : mk.cls = cn := Option.some.inj ((findClass_of_methodNamed hnamed).symm.trans hcn)
  have hsel : selectMethod {} s.vm cC mk = .method mk := selectMethod_private hmethM (Cond.privateMethod_at hpriv mk methM hnamed hmethM)
  simp only [Cond.before, Cond.holds, Cond.value, hfc, hfound, hnamed, hsel, hcls, hck]
  simp; exact hni
section ZC
variable {G : zG} {d : Nat} {M M2 : zMd} {pc : Nat} {lv : List (Option Value)} {st : List Value} {H : Heap} {Q Q2 : Option Value → Heap → Prop}
theorem zLs_entry {av : List Value} {n : Nat} (hav : ∀ v ∈ av, v.category = 1) (hl : av.length ≤ n) : zLs ((lg_sl av ++ List.replicate (n - (lg_sl av).length) Slot.unset).toArray) (av.map some ++ List.replicate (n - av.length) none) := by
  have e : lg_sl av = av.map Slot.val := by
    clear hl
    induction av with
    | nil => rfl
    | cons v l ih =>
      have h1 := hav v List.mem_cons_self
      have h2 := ih (fun w h => hav w (List.mem_cons_of_mem _ h))
      unfold lg_sl at h2 ⊢
      rw [List.flatMap_cons, h2, if_neg (by omega)]
      rfl
  have hle : (lg_sl av).length = av.length := by rw [e, List.length_map]
  have h := lv_entry av (n := n) (by omega)
  refine ⟨by rw [h.1]; simp; omega, h.2.1, fun i v hi => ?_⟩
  have hi2 : i < av.length ∧ av[i]? = some v := by
    by_cases c : i < av.length
    · rw [List.getElem?_append_left (by simpa using c), List.getElem?_map] at hi
      refine ⟨c, ?_⟩
      cases hz : av[i]? with
      | none => rw [hz] at hi; cases hi
      | some w => rw [hz] at hi; cases hi; rfl
    · rw [List.getElem?_append_right (by simp; omega), List.getElem?_replicate] at hi
      split at hi <;> cases hi
  refine ⟨?_, hav v (List.mem_of_getElem? hi2.2)⟩
  rw [List.getElem?_toArray, List.getElem?_append_left (by omega), e, List.getElem?_map, hi2.2]
  rfl
/-- a contract out of the walk from its entry -/
theorem zC_of {av : List Value} (hp : plainFor M.1 = true) (hG : zGo G) (hav : ∀ v ∈ av, v.category = 1) (hl : av.length ≤ M.2.2.1) (k : zOk G H → zW G d M 0 (av.map some ++ List.replicate (M.2.2.1 - av.length) none) [] H Q) : zC G d M av H Q := by
  intro ho
  refine va_MetF (cc := M.2.1) (maxL := M.2.2.1) (ret := M.2.2.2) hp rfl ?_
  intro p e s m args below meth c s₁ B hml hv
  obtain ⟨rfl, rfl, hE⟩ := hv
  rw [lg_entry_eq]
  exact k ho p e s m _ below meth c [] _ 0 0 hG hE ⟨B.exec, B.bytes, hml, B.returns, B.notSynchronized, findClass_of_methodNamed B.named, (name_of_methodNamed B.named B.method).1⟩ (by simp; omega) (zLs_entry hav hl) (fun q h => by cases h) ho ho
theorem zC_mono {av : List Value} (h : zC G d M av H Q2) (hq : ∀ v H1, Q2 v H1 → Q v H1) : zC G d M av H Q := by
  intro ho p e ha hc hk s m args below hf happ hP hK
  obtain ⟨n, o, r1, r2, r3, ⟨⟨v, q1, q2, q3⟩, q4⟩⟩ := h ho p e ha hc hk s m args below hf happ hP hK
  exact ⟨n, o, r1, r2, r3, ⟨v, q1, hq v _ q2, q3⟩, q4⟩
/-- behind a call -/
theorem zw_after {rest : List Value} {p : Program} {e : Env} {s : State} {m : MethodId} {args : Array Value} {below : List Frame} {meth : Method} {c : Code} {locs : List Loc} {ls : Array Slot} {cells slots mc ms : Nat} {a : Array Value}
    (hr : va_Run p (zl G) e (zR G d s.heap) s m args below meth c H locs cells slots mc ms (F0 m pc ls st) rest (zQ G Q2 a) (zFr G)) (kk : ∀ v H1, Q2 v H1 → zOk G H1 → H.size ≤ H1.size → zT H ≤ zT H1 → zW G d M (pc + 3) lv (v.toList ++ rest) H1 Q)
    (g0 : zGo G) (g1 : zEnv G s) (A : zAt M p s m meth c) (h1 : lv.length = M.2.2.1) (h2 : zLs ls lv) (h3 : ∀ q ∈ locs, zFr G q.base) (h4 : zOk G s.heap) :
    W p (zl G) e (zR G d s.heap) s m args below meth c H locs cells slots (MQ below (zQ G Q) args s (zCp G - s.heap.size) (zSp G - zT s.heap) (zFr G)) (F0 m pc ls st) := by
  intro T hT X
  obtain ⟨v, st₀, t, T', L, e0, X', hL, e1, e2, ⟨v', hv, hq, hok, z1, z2⟩, go⟩ := hr T hT X
  cases hv
  rw [e0] at z1 z2
  have hlocs : ∀ q ∈ locs ++ L, zFr G q.base := fun q hq => by
    rcases List.mem_append.mp hq with h | h
    · exact h3 q h
    · exact hL q h
  obtain ⟨t2, a1, b1⟩ := kk v T'.heap (by rw [e1]; exact hq) (by rw [e1]; exact hok) (by rw [e1]; exact z1) (by rw [e1]; exact z2) p e s m args below meth c (locs ++ L) ls _ _ g0 g1 A h1 h2 hlocs h4 (by rw [e1]; exact hok) T' rfl X'
  exact ⟨t2, go t2 a1, b1⟩
/-- what all calls ask of the callee -/
def zCl (M2 : zMd) (n : Nat) : Prop := Cond.code M2.1 M2.2.1 M2.2.2.1 M2.2.2.2 ∈ lw_tbl ∧ Cond.initialized M2.1.cls ∈ lw_tbl ∧ (M2.1.cls ≠ "java/lang/invoke/MethodHandle" ∧ M2.1.cls ≠ "java/lang/invoke/VarHandle") ∧ (parseMethodDescriptor M2.1.desc).map (fun d => d.parameters.length) = some n ∧ M2.2.2.1 ≤ 22
def zLkS (own : String) (idx : Nat) (M2 : zMd) (n : Nat) : Prop := zCl M2 n ∧ Cond.static M2.1 ∈ lw_tbl ∧ (Cond.methodLink own idx M2.1 ∈ lw_tbl ∨ ∃ host : String, Cond.methodLinkNest own idx M2.1 host ∈ lw_tbl)
def zLkI (own : String) (idx : Nat) (M2 : zMd) (n : Nat) : Prop := zCl M2 n ∧ M2.2.2.2 = none ∧ M2.1.name = "<init>" ∧ Cond.instanceMethod M2.1 ∈ lw_tbl ∧ (Cond.methodLink own idx M2.1 ∈ lw_tbl ∨ ∃ host : String, Cond.methodLinkNest own idx M2.1 host ∈ lw_tbl)
/-- a virtual call: the receiver's class ci selects M2, which is what the pool names -/
def zLkV (own : String) (idx ci : Nat) (M2 : zMd) (n : Nat) : Prop := zCl M2 n ∧ (∃ (C : String) (T : u_T) (N : Nat), classes[ci]? = some (C, T, N) ∧ (Cond.selects C M2.1 M2.1 ∈ lw_tbl ∨ (Cond.privateMethod M2.1 ∈ lw_tbl ∧ Cond.sameMethod M2.1.cls M2.1.cls M2.1.name M2.1.desc ∈ lw_tbl))) ∧ Cond.instanceMethod M2.1 ∈ lw_tbl ∧ (Cond.methodLink own idx M2.1 ∈ lw_tbl ∨ ∃ host : String, Cond.methodLinkNest own idx M2.1 host ∈ lw_tbl)
/-- ... or what the pool names through a class that inherits it (x), found in its class 'owner' -/
def zLkU (own : String) (idx ci : Nat) (M2 : zMd) (n : Nat) : Prop := zCl M2 n ∧ (∃ (C : String) (T : u_T) (N : Nat) (x : MethodName) (owner : String), classes[ci]? = some (C, T, N) ∧ Cond.selects C x M2.1 ∈ lw_tbl ∧ Cond.methodLink own idx x ∈ lw_tbl ∧ Cond.sameMethod x.cls owner x.name x.desc ∈ lw_tbl ∧ M2.1 = ⟨owner, x.name, x.desc⟩ ∧ (parseMethodDescriptor x.desc).map (fun d => d.parameters.length) = some n) ∧ Cond.instanceMethod M2.1 ∈ lw_tbl
def zLkSU (own : String) (idx ci : Nat) (M2 : zMd) (n : Nat) : Prop := zCl M2 n ∧ (∃ (C : String) (T : u_T) (N : Nat), classes[ci]? = some (C, T, N)) ∧ Cond.methodLink own idx M2.1 ∈ lw_tbl ∧ Cond.sameMethod M2.1.cls M2.1.cls M2.1.name M2.1.desc ∈ lw_tbl ∧ Cond.superclass own M2.1.cls ∈ lw_tbl ∧ Cond.instanceMethod M2.1 ∈ lw_tbl ∧ M2.1.name ≠ "<init>"
theorem zLen {y : MethodName} {n : Nat} (h : (parseMethodDescriptor y.desc).map (fun d => d.parameters.length) = some n) : ∀ sig, parseMethodDescriptor y.desc = some sig → n = sig.parameters.length := fun sig hs => by
  rw [hs] at h
  exact (Option.some.inj h).symm
theorem zRoom {G : zG} {d n : Nat} {H H0 : Heap} (hd : 1 ≤ d) (hn : n ≤ 22) : (zR G (d - 1) H).frames + 1 ≤ (zR G d H0).frames ∧ 8 + (n + 11) + (zR G (d - 1) H).locals ≤ (zR G d H0).locals := by
  show d - 1 + 1 ≤ d ∧ 8 + (n + 11) + 41 * (d - 1) ≤ 41 * d
  omega
theorem zRoom2 {G : zG} {H0 H : Heap} (h5 : zOk G H) (b1 : H0.size ≤ H.size) (b2 : zT H0 ≤ zT H) : H.size - H0.size + (zCp G - H.size) ≤ (zR G d H0).cells ∧ zT H - zT H0 + (zSp G - zT H) ≤ (zR G d H0).slots := by
  have e1 := h5.2.2.1
  have e2 := h5.2.2.2
  show _ ≤ zCp G - H0.size ∧ _ ≤ zSp G - zT H0
  omega
theorem zLvR {m : MethodId} {ls : Array Slot} {rest : List Value} (h : rest.length ≤ 4) : 2 * (F0 m pc ls st).monitorRoom + (rest.map fun v => v.category).sum ≤ 8 := by
  have h1 := zCat_le rest
  have h2 : (F0 m pc ls st).monitorRoom = 0 := rfl
  omega
theorem zw_callS {idx n : Nat} (As rest : List Value) (hd : decode M.2.1 pc = .ok (.invokestatic idx, 3)) (hd1 : 1 ≤ d) (hL : zLkS M.1.cls idx M2 n) (hst : st = As.reverse ++ rest) (hn : As.length = n) (hr : rest.length ≤ 4) (hc : zC G (d - 1) M2 As H Q2) (kk : ∀ v H1, Q2 v H1 → zOk G H1 → H.size ≤ H1.size → zT H ≤ zT H1 → zW G d M (pc + 3) lv (v.toList ++ rest) H1 Q) : zW G d M pc lv st H Q := by
  intro p e s m args below meth c locs ls cells slots g0 g1 A h1 h2 h3 h4 h5
  obtain ⟨⟨k1, k2, k3, k4, k5⟩, k6, k7⟩ := hL
  refine zw_norm fun b1 b2 => zw_after (mc := zCp G - H.size) (ms := zSp G - zT H) (a := As.toArray) ?_ kk g0 g1 A h1 h2 h3 h4
  have hP : PreS s H (va_Pc As (fun U => U.heap = H ∧ zEnv G U)) As := ⟨zBlind, fun U hU hW => ⟨rfl, hU, State.WarmedH.trans g1 hW⟩⟩
  rcases k7 with k7 | ⟨host, k7⟩
  · exact va_runS (cc := M.2.1) (nL := M.2.2.1) (Ts := []) ⟨A.1, A.2.1, A.2.2.1, A.2.2.2.2.2.1, fun w h => by cases h⟩ (hc h5) ⟨⟨rfl, rfl, (zRoom hd1 k5).1, (zRoom hd1 k5).2, zWs g0 g1 k1, List.mem_singleton.mpr rfl, zWd g0 g1 k1 rfl, zWd g0 g1 k2 rfl, k3, zLen k4, zWd g0 g1 k7 rfl⟩, zWd g0 g1 k6 rfl⟩ hP rfl hn (h2.1.trans h1) hst (zLvR hr) hd (zRoom2 h5 b1 b2)
  · exact va_runSN (cc := M.2.1) (nL := M.2.2.1) (Ts := []) ⟨A.1, A.2.1, A.2.2.1, A.2.2.2.2.2.1, fun w h => by cases h⟩ (hc h5) ⟨⟨⟨rfl, rfl, (zRoom hd1 k5).1, (zRoom hd1 k5).2, zWs g0 g1 k1, List.mem_singleton.mpr rfl⟩, zWd g0 g1 k1 rfl, zWd g0 g1 k2 rfl, k3, zLen k4, va_Nw.use rfl (va_Nw.warmM g1 (va_Nw.of rfl (g0.1 _ k7)))⟩, zWd g0 g1 k6 rfl, trivial⟩ hP rfl hn (h2.1.trans h1) hst (zLvR hr) hd (zRoom2 h5 b1 b2)
theorem zw_callI {idx n b : Nat} (As rest : List Value) (hd : decode M.2.1 pc = .ok (.invokespecial idx, 3)) (hd1 : 1 ≤ d) (hL : zLkI M.1.cls idx M2 n) (hst : st = As.reverse ++ .ref b :: rest) (hn : As.length = n) (hr : rest.length ≤ 4) (hc : zC G (d - 1) M2 (.ref b :: As) H Q2) (kk : ∀ v H1, Q2 v H1 → zOk G H1 → H.size ≤ H1.size → zT H ≤ zT H1 → zW G d M (pc + 3) lv (v.toList ++ rest) H1 Q) : zW G d M pc lv st H Q := by
  intro p e s m args below meth c locs ls cells slots g0 g1 A h1 h2 h3 h4 h5
  obtain ⟨y, by2, nL2, ret⟩ := M2
  obtain ⟨⟨k1, k2, k3, k4, k5⟩, k6, k8, k9, k7⟩ := hL
  simp only at k6
  subst k6
  refine zw_norm fun b1 b2 => zw_after (mc := zCp G - H.size) (ms := zSp G - zT H) (a := (Value.ref b :: As).toArray) ?_ kk g0 g1 A h1 h2 h3 h4
  have hP : PreS s H (va_Pc (.ref b :: As) (fun U => U.heap = H ∧ zEnv G U)) (.ref b :: As) := ⟨zBlind, fun U hU hW => ⟨rfl, hU, State.WarmedH.trans g1 hW⟩⟩
  rcases k7 with k7 | ⟨host, k7⟩
  · exact va_runI (cc := M.2.1) (nL := M.2.2.1) (Ts := []) ⟨A.1, A.2.1, A.2.2.1, A.2.2.2.2.2.1, fun w h => by cases h⟩ (hc h5) ⟨⟨rfl, rfl, (zRoom hd1 k5).1, (zRoom hd1 k5).2, zWs g0 g1 k1, List.mem_singleton.mpr rfl, zWd g0 g1 k1 rfl, zWd g0 g1 k2 rfl, k3, zLen k4, zWd g0 g1 k7 rfl⟩, k8, zWd g0 g1 k9 rfl⟩ hP rfl hn (h2.1.trans h1) hst (zLvR hr) hd (zRoom2 h5 b1 b2)
  · exact va_runIN (cc := M.2.1) (nL := M.2.2.1) (Ts := []) ⟨A.1, A.2.1, A.2.2.1, A.2.2.2.2.2.1, fun w h => by cases h⟩ (hc h5) ⟨⟨⟨rfl, rfl, (zRoom hd1 k5).1, (zRoom hd1 k5).2, zWs g0 g1 k1, List.mem_singleton.mpr rfl⟩, zWd g0 g1 k1 rfl, zWd g0 g1 k2 rfl, k3, zLen k4, va_Nw.use rfl (va_Nw.warmM g1 (va_Nw.of rfl (g0.1 _ k7)))⟩, k8, zWd g0 g1 k9 rfl⟩ hP rfl hn (h2.1.trans h1) hst (zLvR hr) hd (zRoom2 h5 b1 b2)
theorem zw_callV {idx n b ci : Nat} (As rest : List Value) (hd : decode M.2.1 pc = .ok (.invokevirtual idx, 3)) (hd1 : 1 ≤ d) (hL : zLkV M.1.cls idx ci M2 n) (ho : zIs G H b ci) (hst : st = As.reverse ++ .ref b :: rest) (hn : As.length = n) (hr : rest.length ≤ 4) (hc : zC G (d - 1) M2 (.ref b :: As) H Q2) (kk : ∀ v H1, Q2 v H1 → zOk G H1 → H.size ≤ H1.size → zT H ≤ zT H1 → zW G d M (pc + 3) lv (v.toList ++ rest) H1 Q) : zW G d M pc lv st H Q := by
  intro p e s m args below meth c locs ls cells slots g0 g1 A h1 h2 h3 h4 h5
  obtain ⟨⟨k1, k2, k3, k4, k5⟩, ⟨C, T, N, kc, k6⟩, k9, k7⟩ := hL
  have hse : (Cond.selects C M2.1 M2.1).before args s = true := by
    rcases k6 with k6 | ⟨k6, k6'⟩
    · exact zWd g0 g1 k6 rfl
    · exact word_at g1 (Or.inl rfl) (zSelP (args := zAg G) k3 (g0.2.1 ci _ kc).2.1 (g0.1 _ k6) (g0.1 _ k9) (g0.1 _ k6'))
  refine zw_norm fun b1 b2 => zw_after (mc := zCp G - H.size) (ms := zSp G - zT H) (a := (Value.ref b :: As).toArray) ?_ kk g0 g1 A h1 h2 h3 h4
  have hP : PreV s H C b (va_Pc (.ref b :: As) (fun U => U.heap = H ∧ zEnv G U)) As := ⟨zBlind, ho.recv g0 g1 kc, fun U hU hW => ⟨rfl, hU, State.WarmedH.trans g1 hW⟩⟩
  rcases k7 with k7 | ⟨host, k7⟩
  · exact va_runV (cc := M.2.1) (nL := M.2.2.1) (Ts := []) ⟨A.1, A.2.1, A.2.2.1, A.2.2.2.2.2.1, fun w h => by cases h⟩ (hc h5) ⟨⟨rfl, rfl, (zRoom hd1 k5).1, (zRoom hd1 k5).2, zWs g0 g1 k1, List.mem_singleton.mpr rfl, zWd g0 g1 k1 rfl, zWd g0 g1 k2 rfl, k3, zLen k4, zWd g0 g1 k7 rfl⟩, zWd g0 g1 k9 rfl, hse⟩ hP rfl hn (h2.1.trans h1) hst (zLvR hr) hd (zRoom2 h5 b1 b2)
  · exact va_runVN (cc := M.2.1) (nL := M.2.2.1) (Ts := []) ⟨A.1, A.2.1, A.2.2.1, A.2.2.2.2.2.1, fun w h => by cases h⟩ (hc h5) ⟨⟨⟨rfl, rfl, (zRoom hd1 k5).1, (zRoom hd1 k5).2, zWs g0 g1 k1, List.mem_singleton.mpr rfl⟩, zWd g0 g1 k1 rfl, zWd g0 g1 k2 rfl, k3, zLen k4, va_Nw.use rfl (va_Nw.warmM g1 (va_Nw.of rfl (g0.1 _ k7)))⟩, zWd g0 g1 k9 rfl, hse⟩ hP rfl hn (h2.1.trans h1) hst (zLvR hr) hd (zRoom2 h5 b1 b2)
theorem zw_callU {idx n b ci : Nat} (As rest : List Value) (hd : decode M.2.1 pc = .ok (.invokevirtual idx, 3)) (hd1 : 1 ≤ d) (hL : zLkU M.1.cls idx ci M2 n) (ho : zIs G H b ci) (hst : st = As.reverse ++ .ref b :: rest) (hn : As.length = n) (hr : rest.length ≤ 4) (hc : zC G (d - 1) M2 (.ref b :: As) H Q2) (kk : ∀ v H1, Q2 v H1 → zOk G H1 → H.size ≤ H1.size → zT H ≤ zT H1 → zW G d M (pc + 3) lv (v.toList ++ rest) H1 Q) : zW G d M pc lv st H Q := by
  intro p e s m args below meth c locs ls cells slots g0 g1 A h1 h2 h3 h4 h5
  obtain ⟨⟨k1, k2, k3, k4, k5⟩, ⟨C, T, N, x, owner, kc, k6, k7, k8, ky, kx⟩, k9⟩ := hL
  refine zw_norm fun b1 b2 => zw_after (mc := zCp G - H.size) (ms := zSp G - zT H) (a := (Value.ref b :: As).toArray) ?_ kk g0 g1 A h1 h2 h3 h4
  have hP : PreV s H C b (va_Pc (.ref b :: As) (fun U => U.heap = H ∧ zEnv G U)) As := ⟨zBlind, ho.recv g0 g1 kc, fun U hU hW => ⟨rfl, hU, State.WarmedH.trans g1 hW⟩⟩
  have hdecl : va_Decl s ⟨owner, x.name, x.desc⟩ := by rw [← ky]; exact va_Decl.of (args := args) (zWd g0 g1 k9 rfl) (zWd g0 g1 k1 rfl)
  have hown : owner = M2.1.cls := by rw [ky]
  exact va_runU (cc := M.2.1) (nL := M.2.2.1) (Ts := []) ⟨A.1, A.2.1, A.2.2.1, A.2.2.2.2.2.1, fun w h => by cases h⟩ (hc h5) ⟨⟨rfl, rfl, (zRoom hd1 k5).1, (zRoom hd1 k5).2, zWs g0 g1 k1, List.mem_singleton.mpr rfl⟩, zWd g0 g1 k1 rfl, zWd g0 g1 k2 rfl, by rw [hown]; exact k3, zLen kx, zWd g0 g1 k7 rfl, zWd g0 g1 k8 rfl, hdecl, zWd g0 g1 k6 rfl, zWd g0 g1 k9 rfl⟩ hP rfl hn (h2.1.trans h1) hst (zLvR hr) hd (zRoom2 h5 b1 b2)
theorem zw_callSU {idx n b ci : Nat} (As rest : List Value) (hd : decode M.2.1 pc = .ok (.invokespecial idx, 3)) (hd1 : 1 ≤ d) (hL : zLkSU M.1.cls idx ci M2 n) (ho : zIs G H b ci) (hst : st = As.reverse ++ .ref b :: rest) (hn : As.length = n) (hr : rest.length ≤ 4) (hc : zC G (d - 1) M2 (.ref b :: As) H Q2) (kk : ∀ v H1, Q2 v H1 → zOk G H1 → H.size ≤ H1.size → zT H ≤ zT H1 → zW G d M (pc + 3) lv (v.toList ++ rest) H1 Q) : zW G d M pc lv st H Q := by
  intro p e s m args below meth c locs ls cells slots g0 g1 A h1 h2 h3 h4 h5
  obtain ⟨⟨k1, k2, k3, k4, k5⟩, ⟨C, T, N, kc⟩, k6, k7, k8, k9, k10⟩ := hL
  refine zw_norm fun b1 b2 => zw_after (mc := zCp G - H.size) (ms := zSp G - zT H) (a := (Value.ref b :: As).toArray) ?_ kk g0 g1 A h1 h2 h3 h4
  have hP : PreV s H C b (va_Pc (.ref b :: As) (fun U => U.heap = H ∧ zEnv G U)) As := ⟨zBlind, ho.recv g0 g1 kc, fun U hU hW => ⟨rfl, hU, State.WarmedH.trans g1 hW⟩⟩
  exact va_runSU (cc := M.2.1) (nL := M.2.2.1) (Ts := []) ((zK_at g0 g1).1 ci _ kc).2 ⟨A.1, A.2.1, A.2.2.1, A.2.2.2.2.2.1, fun w h => by cases h⟩ (hc h5) ⟨⟨rfl, rfl, (zRoom hd1 k5).1, (zRoom hd1 k5).2, zWs g0 g1 k1, List.mem_singleton.mpr rfl⟩, zWd g0 g1 k6 rfl, zWd g0 g1 k7 rfl, zWd g0 g1 k8 rfl, zWd g0 g1 k9 rfl, zWd g0 g1 k2 rfl, zWd g0 g1 k1 rfl, k10, zLen k4⟩ hP rfl hn (h2.1.trans h1) hst (zLvR hr) hd (zRoom2 h5 b1 b2)
/-- Object() -/
theorem zw_objInit {idx a : Nat} (hd : decode M.2.1 pc = .ok (.invokespecial idx, 3)) (hd1 : 1 ≤ d) (hw : Cond.methodLink M.1.cls idx objectInit ∈ lw_tbl) (hw2 : Cond.instanceMethod objectInit ∈ lw_tbl) (hw3 : Cond.code objectInit ⟨#[0xb1]⟩ 1 none ∈ lw_tbl) (hr : st.length ≤ 4) (kk : zW G d M (pc + 3) lv st H Q) : zW G d M pc lv (.ref a :: st) H Q := by
  intro p e s m args below meth c locs ls cells slots g0 g1 A h1 h2 h3 h4 h5
  refine W.objInit A.1 A.2.1 A.2.2.2.2.2.1 (zWd g0 g1 hw rfl) (zWd g0 g1 hw2 rfl) (zWd g0 g1 hw3 rfl) rfl (by rw [A.2.2.1]; exact h2.1.trans h1) rfl hd hd1 ?_ (kk p e s m args below meth c locs ls cells slots g0 g1 A h1 h2 h3 h4 h5)
  have e1 := zCat_le st
  show 2 * 0 + (st.map fun v => v.category).sum + 12 ≤ 41 * d
  omega
end ZC
end
section
/-- the ends that contracts have -/
def zPv (P : Heap → Prop) : Option Value → Heap → Prop := fun v H => v = none ∧ P H
def zPi (P : Int32 → Heap → Prop) : Option Value → Heap → Prop := fun v H => ∃ r : Int32, v = some (.int r) ∧ P r H
def zPr (P : Value → Heap → Prop) : Option Value → Heap → Prop := fun v H => ∃ r : Value, v = some r ∧ zRf r ∧ P r H
section ZK
variable {G : zG} {d : Nat} {M : zMd} {pc : Nat} {lv : List (Option Value)} {rest : List Value} {H : Heap} {Q : Option Value → Heap → Prop}
theorem zPv_k {P : Heap → Prop} (kk : ∀ H1 : Heap, P H1 → zOk G H1 → H.size ≤ H1.size → zT H ≤ zT H1 → zW G d M pc lv rest H1 Q) : ∀ v H1, zPv P v H1 → zOk G H1 → H.size ≤ H1.size → zT H ≤ zT H1 → zW G d M pc lv (v.toList ++ rest) H1 Q := by
  rintro v H1 ⟨rfl, h⟩ h2 h3 h4
  exact kk H1 h h2 h3 h4
theorem zPi_k {P : Int32 → Heap → Prop} (kk : ∀ (r : Int32) (H1 : Heap), P r H1 → zOk G H1 → H.size ≤ H1.size → zT H ≤ zT H1 → zW G d M pc lv (.int r :: rest) H1 Q) : ∀ v H1, zPi P v H1 → zOk G H1 → H.size ≤ H1.size → zT H ≤ zT H1 → zW G d M pc lv (v.toList ++ rest) H1 Q := by
  rintro v H1 ⟨r, rfl, h⟩ h2 h3 h4
  exact kk r H1 h h2 h3 h4
theorem zPr_k {P : Value → Heap → Prop} (kk : ∀ (r : Value) (H1 : Heap), zRf r → P r H1 → zOk G H1 → H.size ≤ H1.size → zT H ≤ zT H1 → zW G d M pc lv (r :: rest) H1 Q) : ∀ v H1, zPr P v H1 → zOk G H1 → H.size ≤ H1.size → zT H ≤ zT H1 → zW G d M pc lv (v.toList ++ rest) H1 Q := by
  rintro v H1 ⟨r, rfl, hr, h⟩ h2 h3 h4
  exact kk r H1 hr h h2 h3 h4
end ZK
theorem zNarO {v : Value} {n : String} (h : zRf v) : narrow (.object n) v = v := by rcases h with rfl | ⟨a, rfl⟩ <;> rfl
theorem zNarA {v : Value} {t : FieldType} (h : zRf v) : narrow (.array t) v = v := by rcases h with rfl | ⟨a, rfl⟩ <;> rfl
theorem zFitO {v : Value} {n : String} (h : zRf v) : fits (.object n) v = true := by rcases h with rfl | ⟨a, rfl⟩ <;> rfl
theorem zFitA {v : Value} {t : FieldType} (h : zRf v) : fits (.array t) v = true := by rcases h with rfl | ⟨a, rfl⟩ <;> rfl
end
section
/-- nothing that was there has changed but what S names -/
def zMo (S : List Nat) (H H1 : Heap) : Prop := H.size ≤ H1.size ∧ ∀ q : Nat, q < H.size → q ∉ S → H1[q]? = H[q]?
theorem zMo.rf {S : List Nat} {H : Heap} : zMo S H H := ⟨Nat.le_refl _, fun _ _ _ => rfl⟩
theorem zMo.tr {S S1 S2 : List Nat} {H H1 H2 : Heap} (h1 : zMo S1 H H1) (h2 : zMo S2 H1 H2) (e1 : ∀ q ∈ S1, q ∈ S ∨ H.size ≤ q) (e2 : ∀ q ∈ S2, q ∈ S ∨ H.size ≤ q) : zMo S H H2 := by
  refine ⟨Nat.le_trans h1.1 h2.1, fun q hq hS => ?_⟩
  rw [h2.2 q (Nat.lt_of_lt_of_le hq h1.1) (fun z => (e2 q z).elim hS (fun w => by omega)), h1.2 q hq (fun z => (e1 q z).elim hS (fun w => by omega))]
theorem zMo.mono {S S1 : List Nat} {H H1 : Heap} (h1 : zMo S1 H H1) (e1 : ∀ q ∈ S1, q ∈ S ∨ H.size ≤ q) : zMo S H H1 := h1.tr (zMo.rf (S := [])) e1 (fun q h => by cases h)
theorem zUp.mo {a : Nat} {H H1 : Heap} (h : zUp a H H1) : zMo [a] H H1 := ⟨Nat.le_of_eq h.1.symm, fun q _ hq => h.2.2 q (fun e => hq (by rw [e]; exact List.mem_singleton.mpr rfl))⟩
theorem zNw.mo {n : Nat} {H H1 : Heap} (h : zNw n H H1) : zMo [] H H1 := ⟨by have := h.1; omega, fun q hq _ => h.2.2 q hq⟩
/-- one more step behind: a store at a place of S or at a new one; a new cell; a call -/
theorem zMo.up {S : List Nat} {a : Nat} {H H1 H2 : Heap} (h1 : zMo S H H1) (h2 : zUp a H1 H2) (ha : a ∈ S ∨ H.size ≤ a) : zMo S H H2 := h1.tr h2.mo (fun q h => Or.inl h) (fun q h => by rw [List.mem_singleton.mp h]; exact ha)
theorem zMo.nw {S : List Nat} {n : Nat} {H H1 H2 : Heap} (h1 : zMo S H H1) (h2 : zNw n H1 H2) : zMo S H H2 := h1.tr h2.mo (fun q h => Or.inl h) (fun q h => by cases h)
theorem zMo.ex {S : List Nat} {H H1 H2 : Heap} (h1 : zMo S H H1) (h2 : zMo [] H1 H2) : zMo S H H2 := h1.tr h2 (fun q h => Or.inl h) (fun q h => by cases h)
theorem zObj.mo {G : zG} {S : List Nat} {H H1 : Heap} {a ci : Nat} {fs : List Value} (h : zObj G H a ci fs) (m : zMo S H H1) (ha : a ∉ S) : zObj G H1 a ci fs := h.kept (m.2 a h.lt ha)
theorem zIs.mo {G : zG} {S : List Nat} {H H1 : Heap} {a ci : Nat} (h : zIs G H a ci) (m : zMo S H H1) (ha : a ∉ S) : zIs G H1 a ci := h.kept (m.2 a h.lt ha)
theorem zFd.mo {G : zG} {S : List Nat} {H H1 : Heap} {a ci k : Nat} {v : Value} (h : zFd G H a ci k v) (m : zMo S H H1) (ha : a ∉ S) : zFd G H1 a ci k v := h.kept (m.2 a h.lt ha)
theorem zArr.mo {G : zG} {S : List Nat} {H H1 : Heap} {a : Nat} {ty : FieldType} {n : Nat} {f : Nat → Value} (h : zArr G H a ty n f) (m : zMo S H H1) (ha : a ∉ S) : zArr G H1 a ty n f := h.kept (m.2 a h.lt ha)
theorem zObj.ex {G : zG} {H H1 : Heap} {a ci : Nat} {fs : List Value} (h : zObj G H a ci fs) (m : zMo [] H H1) : zObj G H1 a ci fs := h.mo m List.not_mem_nil
theorem zIs.ex {G : zG} {H H1 : Heap} {a ci : Nat} (h : zIs G H a ci) (m : zMo [] H H1) : zIs G H1 a ci := h.mo m List.not_mem_nil
theorem zFd.ex {G : zG} {H H1 : Heap} {a ci k : Nat} {v : Value} (h : zFd G H a ci k v) (m : zMo [] H H1) : zFd G H1 a ci k v := h.mo m List.not_mem_nil
theorem zArr.ex {G : zG} {H H1 : Heap} {a : Nat} {ty : FieldType} {n : Nat} {f : Nat → Value} (h : zArr G H a ty n f) (m : zMo [] H H1) : zArr G H1 a ty n f := h.mo m List.not_mem_nil
/-- an array's picture may be told otherwise -/
theorem zArr.to {G : zG} {H : Heap} {a : Nat} {ty : FieldType} {n : Nat} {f g : Nat → Value} (h : zArr G H a ty n f) (e : ∀ j, j < n → f j = g j) : zArr G H a ty n g := by
  obtain ⟨cell, h1, h2, h3, h4, h5, h6⟩ := h
  exact ⟨cell, h1, h2, h3, h4, fun j hj => (by rw [← e j hj]; exact h5 j hj), h6⟩
/-- room for c cells of s slots; no more than that was used -/
def zRm (G : zG) (H : Heap) (c s : Nat) : Prop := H.size + c ≤ zCp G ∧ zT H + s ≤ zSp G
def zUs (c s : Nat) (H H1 : Heap) : Prop := H1.size ≤ H.size + c ∧ zT H1 ≤ zT H + s
theorem zUs.rf {c s : Nat} {H : Heap} : zUs c s H H := ⟨Nat.le_add_right _ _, Nat.le_add_right _ _⟩
theorem zRm.us {G : zG} {H H1 : Heap} {c s c1 s1 : Nat} (h : zRm G H c s) (u : zUs c1 s1 H H1) (c2 s2 : Nat) (hc : c1 + c2 ≤ c) (hs : s1 + s2 ≤ s) : zRm G H1 c2 s2 := by
  obtain ⟨a1, a2⟩ := h
  obtain ⟨b1, b2⟩ := u
  exact ⟨by omega, by omega⟩
theorem zRm.le {G : zG} {H : Heap} {c s : Nat} (h : zRm G H c s) (c2 s2 : Nat) (hc : c2 ≤ c) (hs : s2 ≤ s) : zRm G H c2 s2 := h.us (c1 := 0) (s1 := 0) zUs.rf c2 s2 (by omega) (by omega)
theorem zUs.tr {c s c1 s1 c2 s2 : Nat} {H H1 H2 : Heap} (h1 : zUs c1 s1 H H1) (h2 : zUs c2 s2 H1 H2) (hc : c1 + c2 ≤ c) (hs : s1 + s2 ≤ s) : zUs c s H H2 := by
  obtain ⟨a1, a2⟩ := h1
  obtain ⟨b1, b2⟩ := h2
  exact ⟨by omega, by omega⟩
theorem zUs.le {c s c1 s1 : Nat} {H H1 : Heap} (h1 : zUs c1 s1 H H1) (hc : c1 ≤ c) (hs : s1 ≤ s) : zUs c s H H1 := h1.tr (c2 := 0) (s2 := 0) zUs.rf (by omega) (by omega)
theorem zUp.us {a c s : Nat} {H H1 : Heap} (h : zUp a H H1) : zUs c s H H1 := ⟨by have := h.1; omega, by have := h.2.1; omega⟩
theorem zNw.us {n : Nat} {H H1 : Heap} (h : zNw n H H1) : zUs 1 n H H1 := ⟨by have := h.1; omega, by have := h.2.1; omega⟩
end
section
theorem zC_in {G : zG} {d : Nat} {M : zMd} {av : List Value} {H : Heap} {Q : Option Value → Heap → Prop} (lv : List (Option Value)) (hp : plainFor M.1 = true) (hG : zGo G) (hav : av.all (fun v => v.category == 1) = true) (hl : av.length ≤ M.2.2.1) (hlv : av.map some ++ List.replicate (M.2.2.1 - av.length) none = lv) (k : zOk G H → zW G d M 0 lv [] H Q) : zC G d M av H Q := by
  subst hlv
  exact zC_of hp hG (fun v hv => by simpa using List.all_eq_true.mp hav v hv) hl k
section ZX
variable {G : zG} {d : Nat} {M : zMd} {pc : Nat} {lv : List (Option Value)} {st : List Value} {H : Heap} {Q : Option Value → Heap → Prop}
theorem zw_aaldV {a n : Nat} {ty : FieldType} {f : Nat → Value} {i : Int32} {v : Value} (hd : decode M.2.1 pc = .ok (.aaload, 1)) (hr : ty.isReference = true) (hA : zArr G H a ty n f) (hi : vp_in i n) (hv : f i.toNatClampNeg = v) (kk : zW G d M (pc + 1) lv (v :: st) H Q) : zW G d M pc lv (.int i :: .ref a :: st) H Q := by
  subst hv
  exact zw_aald hd hr hA hi kk
/-- new Object[] -/
theorem zw_anew {idx N : Nat} {n : Int32} (hd : decode M.2.1 pc = .ok (.anewarray idx, 3)) (hw : Cond.classLink M.1.cls idx "java/lang/Object" ∈ lw_tbl) (hw2 : Cond.arrayOver (.object "java/lang/Object") ∈ lw_tbl) (hn : ¬ n < 0) (hN : n.toNatClampNeg = N) (hb : N * 4 ≤ 536870912) (hc1 : H.size + 1 ≤ zCp G) (hs1 : zT H + N ≤ zSp G) (kk : ∀ H1 : Heap, zArr G H1 H.size (.object "java/lang/Object") N (fun _ => .null) → zNw N H H1 → zW G d M (pc + 3) lv (.ref H.size :: st) H1 Q) : zW G d M pc lv (.int n :: st) H Q := by
  intro p e s m args below meth c locs ls cells slots g0 g1 A h1 h2 h3 h4 h5
  subst hN
  refine zw_norm fun b1 b2 => ?_
  have hsl := h5.2.2
  refine W.anew A.1 A.2.1 A.2.2.2.2.2.1 (zWd g0 g1 hw rfl) (va_AO.use ((va_AO.of (g0.1 _ hw2)).moved g1.alike)) rfl hd rfl hn hb (by show _ ≤ zCp G - s.heap.size; omega) (by show _ ≤ zSp G - zT s.heap; omega) fun cA kA comp f1 f2 f3 f4 => ?_
  have hnw : zNw n.toNatClampNeg H (H.push ({ cls := cA, slots := Array.replicate n.toNatClampNeg .null, vm := .none } : Cell)) := by
    have := zNw_push H ({ cls := cA, slots := Array.replicate n.toNatClampNeg .null, vm := .none } : Cell)
    rw [show (({ cls := cA, slots := Array.replicate n.toNatClampNeg .null, vm := .none } : Cell).slots.size) = n.toNatClampNeg by simp] at this
    exact this
  obtain ⟨k0, hk0, he⟩ := g1.alike.symm.2.2 _ _ f2
  refine kk _ ⟨_, Array.getElem?_push_size, ⟨(fun k h => (by cases h)), k0, hk0, comp, (by rw [he]; exact f3)⟩, (fun h => (by cases h)), (by simp), (fun j hj => (by simp [hj])), (fun _ => (show va_RA s cA (.object "java/lang/Object") from ⟨kA, comp, f2, f3, f4, f1⟩).moved g1.alike.symm)⟩ hnw p e s m args below meth c locs ls _ _ g0 g1 A h1 h2 h3 h4 (hnw.ok hc1 hs1 h5)
/-- an object into an Object[] -/
theorem zw_aast {a b n ci N : Nat} {C : String} {T : u_T} {f : Nat → Value} {i : Int32} (hd : decode M.2.1 pc = .ok (.aastore, 1)) (hA : zArr G H a (.object "java/lang/Object") n f) (hi : vp_in i n) (ha : zFr G a) (hv : zIs G H b ci) (hc : classes[ci]? = some (C, T, N)) (hw : Cond.castable C "java/lang/Object" ∈ lw_tbl) (kk : ∀ H1 : Heap, zArr G H1 a (.object "java/lang/Object") n (updV f i.toNatClampNeg (.ref b)) → zUp a H H1 → zW G d M (pc + 1) lv st H1 Q) : zW G d M pc lv (.ref b :: .int i :: .ref a :: st) H Q := by
  intro p e s m args below meth c locs ls cells slots g0 g1 A h1 h2 h3 h4 h5
  obtain ⟨cell, q1, q2, q3, q4, q5, q6⟩ := hA
  obtain ⟨kA, comp, k1, k2, k3, -⟩ := (q6 ha).moved g1.alike
  obtain ⟨cv, v1, v2, v3⟩ := hv
  obtain ⟨c0, t0, f1, f2, f3⟩ := Cond.castable_spec (va_Nw.use (A := args) rfl (va_Nw.warmC g1 (va_Nw.of rfl (g0.1 _ hw))))
  have hcl := ((zK_at g0 g1).1 ci _ hc).2
  obtain ⟨kC, hkC, -⟩ := hcl.2
  have e1 : c0 = (zD G).1 ci := Option.some.inj (f1.symm.trans hcl.1)
  have e2 : t0 = comp := Option.some.inj (f2.symm.trans k3)
  subst e1 e2
  obtain ⟨kO, hkO, -⟩ := Vm.findClass_spec k3
  refine W.aast A.1 A.2.1 q1 q2.1 q3 k1 k2 rfl hkO ⟨fun z => hi (Or.inl z), by rw [q4]; exact Nat.not_le.mp fun z => hi (Or.inr z)⟩ v1 (fun q h => by rw [h] at v2; cases v2) (by rw [v3]; exact hkC) (by rw [v3]; exact f3) rfl rfl hd fun H' e1 e2 e3 => ?_
  have hu : zUp a H H' := zUp_of q1 e1 (by simp [Cell.setSlot]) e2 e3
  refine kk H' (zArr_set q2 q3 q4 q5 q6 e1) hu p e s m args below meth c _ ls cells slots g0 g1 A h1 h2 (fun q hq => ?_) h4 (hu.ok ha h5)
  rcases List.mem_append.mp hq with h | h
  · exact h3 q h
  · rw [List.mem_singleton.mp h]
    exact ha
/-- null into an Object[] -/
theorem zw_aastN {a n : Nat} {f : Nat → Value} {i : Int32} (hd : decode M.2.1 pc = .ok (.aastore, 1)) (hA : zArr G H a (.object "java/lang/Object") n f) (hi : vp_in i n) (ha : zFr G a) (kk : ∀ H1 : Heap, zArr G H1 a (.object "java/lang/Object") n (updV f i.toNatClampNeg .null) → zUp a H H1 → zW G d M (pc + 1) lv st H1 Q) : zW G d M pc lv (.null :: .int i :: .ref a :: st) H Q := by
  intro p e s m args below meth c locs ls cells slots g0 g1 A h1 h2 h3 h4 h5
  obtain ⟨cell, q1, q2, q3, q4, q5, q6⟩ := hA
  refine va_WaastN (C := "java/lang/Object") A.1 A.2.1 q1 (State.isArrayOf_alike g1.alike q2) q3 (by rw [q4]; exact hi) rfl rfl hd fun H' e1 e2 e3 => ?_
  have hu : zUp a H H' := zUp_of q1 e1 (by simp [Cell.setSlot]) e2 e3
  refine kk H' (zArr_set q2 q3 q4 q5 q6 e1) hu p e s m args below meth c _ ls cells slots g0 g1 A h1 h2 (fun q hq => ?_) h4 (hu.ok ha h5)
  rcases List.mem_append.mp hq with h | h
  · exact h3 q h
  · rw [List.mem_singleton.mp h]
    exact ha
theorem zPairs (at_ : Nat) : ∀ (xs : List Value) (i : Nat) (c : Cell) (k : Nat), k < c.slots.size → (c.storePairs at_ (xs.zipIdx i)).slots[k]? = if at_ + i ≤ k ∧ k < at_ + i + xs.length then xs[k - (at_ + i)]? else c.slots[k]?
  | [], i, c, k, hk => by
    rw [if_neg (by simp only [List.length_nil]; omega)]
    rfl
  | x :: xs, i, c, k, hk => by
    rw [List.zipIdx_cons]
    show ((c.setSlot (at_ + i) x).storePairs at_ (xs.zipIdx (i + 1))).slots[k]? = _
    rw [zPairs at_ xs (i + 1) (c.setSlot (at_ + i) x) k (by simpa [Cell.setSlot] using hk)]
    by_cases e : k = at_ + i
    · subst e
      rw [if_neg (by omega), if_pos (by simp only [List.length_cons]; omega), Cell.slots_setSlot_self x hk]
      simp
    · by_cases h : at_ + (i + 1) ≤ k ∧ k < at_ + (i + 1) + xs.length
      · rw [if_pos h, if_pos (by simp only [List.length_cons]; omega), show k - (at_ + i) = (k - (at_ + (i + 1))) + 1 by omega, List.getElem?_cons_succ]
      · rw [if_neg h, if_neg (by simp only [List.length_cons]; omega), slot_ne _ _ (fun q => e q.symm)]
theorem zStretch {c : Cell} {sp n i n0 : Nat} {f : Nat → Value} (q4 : c.slots.size = n0) (q5 : ∀ j : Nat, j < n0 → c.slots[j]? = some (f j)) (h : sp + n ≤ n0) (hi : i < n) : (c.stretch sp n)[i]? = some (f (sp + i)) := by
  unfold Cell.stretch
  rw [List.getElem?_map, List.getElem?_range hi]
  simp only [Option.map_some]
  rw [Array.getD_eq_getD_getElem?, q5 _ (by omega)]
  rfl
theorem zCopied {cs cd : Cell} {sp dp n : Int32} {n0 n1 : Nat} {f g : Nat → Value} (a4 : cs.slots.size = n0) (a5 : ∀ j : Nat, j < n0 → cs.slots[j]? = some (f j)) (b4 : cd.slots.size = n1) (b5 : ∀ j : Nat, j < n1 → cd.slots[j]? = some (g j)) (h4 : sp.toNatClampNeg + n.toNatClampNeg ≤ n0) (h5 : dp.toNatClampNeg + n.toNatClampNeg ≤ n1) :
    ∀ j : Nat, j < n1 → (copied cs cd sp dp n).slots[j]? = some (va_cpy f g sp.toNatClampNeg dp.toNatClampNeg n.toNatClampNeg j) := by
  intro j hj
  have hl : (cs.stretch sp.toNatClampNeg n.toNatClampNeg).length = n.toNatClampNeg := by simp [Cell.stretch]
  show ((cd.storePairs dp.toNatClampNeg ((cs.stretch sp.toNatClampNeg n.toNatClampNeg).zipIdx 0)).slots)[j]? = _
  rw [zPairs _ _ 0 cd j (by omega), hl, Nat.add_zero]
  unfold va_cpy
  by_cases h : dp.toNatClampNeg ≤ j ∧ j < dp.toNatClampNeg + n.toNatClampNeg
  · rw [if_pos h, if_pos h, zStretch a4 a5 h4 (by omega)]
  · rw [if_neg h, if_neg h]
    exact b5 j hj
theorem zNn {z : Int32} (hz : ¬ z < 0) : z.toInt = (z.toNatClampNeg : Int) := by
  have hz0 : (0 : Int) ≤ z.toInt := by
    have := Int32.not_lt.mp hz
    simpa using Int32.le_iff_toInt_le.mp this
  show z.toInt = ((z.toInt.toNat : Nat) : Int)
  omega
/-- what may be copied into an array of ty: a number that fits; null, or an object of a known class into an Object[] -/
def zCpv (G : zG) (H : Heap) (ty : FieldType) (v : Value) : Prop := (refKind ty = false ∧ fits ty v = true ∧ ∃ x : Int32, v = .int x) ∨ (ty = .object "java/lang/Object" ∧ (v = .null ∨ ∃ (b ci N : Nat) (C : String) (T : u_T), v = .ref b ∧ zIs G H b ci ∧ classes[ci]? = some (C, T, N) ∧ Cond.castable C "java/lang/Object" ∈ lw_tbl))
theorem zw_copy {idx a0 a1 n0 n1 : Nat} {ty : FieldType} {f g : Nat → Value} {sp dp n : Int32} (hd : decode M.2.1 pc = .ok (.invokestatic idx, 3)) (hd1 : 1 ≤ d) (hw : Cond.methodLink M.1.cls idx arraycopyName ∈ lw_tbl) (hw1 : Cond.native arraycopyName ∈ lw_tbl) (hw2 : Cond.static arraycopyName ∈ lw_tbl) (hw3 : Cond.initialized "java/lang/System" ∈ lw_tbl)
    (hA : zArr G H a0 ty n0 f) (hB : zArr G H a1 ty n1 g) (ha : zFr G a1) (s1 : ¬ sp < 0) (s2 : ¬ dp < 0) (s3 : ¬ n < 0) (s4 : sp.toNatClampNeg + n.toNatClampNeg ≤ n0) (s5 : dp.toNatClampNeg + n.toNatClampNeg ≤ n1) (hfit : ∀ i : Nat, i < n.toNatClampNeg → zCpv G H ty (f (sp.toNatClampNeg + i))) (hr : st.length ≤ 4)
    (kk : ∀ H1 : Heap, zArr G H1 a1 ty n1 (va_cpy f g sp.toNatClampNeg dp.toNatClampNeg n.toNatClampNeg) → zUp a1 H H1 → zW G d M (pc + 3) lv st H1 Q) : zW G d M pc lv (.int n :: .int dp :: .ref a1 :: .int sp :: .ref a0 :: st) H Q := by
  intro p e s m args below meth c locs ls cells slots g0 g1 A h1 h2 h3 h4 h5
  obtain ⟨cs, p1, p2, p3, p4, p5, p6⟩ := hA
  obtain ⟨cd, r1, r2, r3, r4, r5, r6⟩ := hB
  obtain ⟨-, k0, hk0, cm0, hkk0⟩ := State.isArrayOf_alike g1.alike p2
  obtain ⟨-, k1, hk1, cm1, hkk1⟩ := State.isArrayOf_alike g1.alike r2
  intro T hT X
  obtain ⟨vm', X', step⟩ := X.arraycopy A.1 A.2.2.2.2.2.1 (zWd g0 g1 hw rfl) (zWd g0 g1 hw1 rfl) (zWd g0 g1 hw2 rfl) (zWd g0 g1 hw3 rfl) (src := a0) (dst := a1) (cs := cs) (cd := cd) (srcPos := sp) (destPos := dp) (n := n) (by rw [hT]; exact p1) (by rw [hT]; exact r1)
    p2.1 r2.1 p3 r3 hk0 hk1 hkk0 hkk1 (by simp) s1 s2 s3
    (by rw [zNn s1, zNn s3, p4]; omega)
    (by rw [zNn s2, zNn s3, r4]; omega)
    (fun vm₁ hal i hi => by
      have e : cs.slots.getD (sp.toNatClampNeg + i) .null = f (sp.toNatClampNeg + i) := by
        rw [Array.getD_eq_getD_getElem?, p5 _ (by omega)]
        rfl
      rw [e]
      rcases hfit i hi with ⟨z1, z2, x, z3⟩ | ⟨rfl, z⟩
      · rw [z3] at z2 ⊢
        exact ⟨z2, trivial⟩
      · rcases z with z | ⟨b, ci, N, C, T2, z, z1, z2, z3⟩
        · rw [z]
          exact ⟨rfl, trivial⟩
        · rw [z]
          obtain ⟨kA, comp, t1, t2, t3, -⟩ := (r6 ha).moved g1.alike
          cases hk1.symm.trans t1
          cases hkk1.symm.trans t2
          obtain ⟨cv, v1, v2, v3⟩ := z1
          obtain ⟨c0, t0, f1, f2, f3⟩ := Cond.castable_spec (va_Nw.use (A := args) rfl (va_Nw.warmC g1 (va_Nw.of rfl (g0.1 _ z3))))
          have hcl := ((zK_at g0 g1).1 ci _ z2).2
          obtain ⟨kC, hkC, -⟩ := hcl.2
          have e1 : c0 = (zD G).1 ci := Option.some.inj (f1.symm.trans hcl.1)
          have e2 : t0 = cm1 := Option.some.inj (f2.symm.trans t3)
          subst e1 e2
          obtain ⟨kE, hkE, -⟩ := Vm.findClass_spec t3
          obtain ⟨kC', hkC', -⟩ := hal.2.2 _ _ hkC
          obtain ⟨kE', hkE', -⟩ := hal.2.2 _ _ hkE
          refine ⟨rfl, cv, (show T.heap[b]? = some cv by rw [hT]; exact v1), (fun q h => by rw [h] at v2; cases v2), ⟨kC', by rw [v3]; exact hkC'⟩, ⟨kE', hkE'⟩, ?_⟩
          show vm₁.assignable _ _ = true
          rw [hal.assignable, v3]
          exact f3)
    (g := F0 m pc ls (.int n :: .int dp :: .ref a1 :: .int sp :: .ref a0 :: st)) rfl (by rw [A.2.2.1]; exact h2.1.trans h1) (rest := st) rfl (by rw [A.2.1]; exact hd) hd1
    (by
      have e1 := zCat_le st
      have hw : nativeFrameWords "java/lang/System" "arraycopy" 5 = 7 := by decide
      show 2 * 0 + (st.map fun v => v.category).sum + (nativeFrameWords "java/lang/System" "arraycopy" 5 + 11) ≤ 41 * d
      omega)
  have hl : a1 < H.size := (Array.getElem?_eq_some_iff.mp r1).1
  have hf := Cell.storePairs_facts cd dp.toNatClampNeg (cs.stretch sp.toNatClampNeg n.toNatClampNeg).zipIdx
  have hcell : (H.setIfInBounds a1 (copied cs cd sp dp n))[a1]? = some (copied cs cd sp dp n) := by simp [Array.getElem?_setIfInBounds, hl]
  have hu : zUp a1 H (H.setIfInBounds a1 (copied cs cd sp dp n)) := zUp_of r1 hcell hf.2.2.1 (by simp) (fun q hq => by simp [Array.getElem?_setIfInBounds, Ne.symm hq])
  have hheap : ((T.setVm vm').setCell a1 (copied cs cd sp dp n)).heap = H.setIfInBounds a1 (copied cs cd sp dp n) := by rw [← hT]; rfl
  have hz : zArr G (H.setIfInBounds a1 (copied cs cd sp dp n)) a1 ty n1 (va_cpy f g sp.toNatClampNeg dp.toNatClampNeg n.toNatClampNeg) := by
    refine ⟨_, hcell, ⟨?_, ?_⟩, ?_, ?_, zCopied p4 p5 r4 r5 s4 s5, ?_⟩
    · intro k
      rw [show (copied cs cd sp dp n).vm = cd.vm from hf.2.1]
      exact r2.1 k
    · rw [show (copied cs cd sp dp n).cls = cd.cls from hf.1]
      exact r2.2
    · rw [show (copied cs cd sp dp n).vm = cd.vm from hf.2.1]
      exact r3
    · exact hf.2.2.1.trans r4
    · rw [show (copied cs cd sp dp n).cls = cd.cls from hf.1]
      exact r6
  obtain ⟨t, b1, b2⟩ := kk _ hz hu p e s m args below meth c _ ls cells slots g0 g1 A h1 h2 (fun q hq => by
      rcases List.mem_append.mp hq with h | h
      · exact h3 q h
      · obtain ⟨z, -, hz⟩ := List.mem_map.mp h
        rw [← hz]
        exact ha) h4 (hu.ok ha h5) _ hheap X'
  exact ⟨t, step t b1, b2⟩
/-- byte[].clone() -/
theorem zw_cloneB {idx a n : Nat} {f : Nat → Value} (hd : decode M.2.1 pc = .ok (.invokevirtual idx, 3)) (hd1 : 1 ≤ d) (hw : Cond.methodLink M.1.cls idx ⟨"[B", "clone", "()Ljava/lang/Object;"⟩ ∈ lw_tbl) (hw1 : Cond.sameMethod "[B" "java/lang/Object" "clone" "()Ljava/lang/Object;" ∈ lw_tbl) (hw2 : Cond.native ⟨"java/lang/Object", "clone", "()Ljava/lang/Object;"⟩ ∈ lw_tbl) (hw3 : Cond.instanceMethod ⟨"java/lang/Object", "clone", "()Ljava/lang/Object;"⟩ ∈ lw_tbl)
    (hw4 : Cond.selects "[B" ⟨"[B", "clone", "()Ljava/lang/Object;"⟩ ⟨"java/lang/Object", "clone", "()Ljava/lang/Object;"⟩ ∈ lw_tbl) (hw5 : Cond.castable "[B" "java/lang/Cloneable" ∈ lw_tbl) (hA : zArr G H a .byte n f) (ha : zFr G a) (hfit : ∀ j : Nat, j < n → fits .byte (f j) = true) (hc1 : H.size + 1 ≤ zCp G) (hs1 : zT H + n ≤ zSp G) (hr : st.length ≤ 4)
    (kk : ∀ H1 : Heap, zArr G H1 H.size .byte n f → zNw n H H1 → zW G d M (pc + 3) lv (.ref H.size :: st) H1 Q) : zW G d M pc lv (.ref a :: st) H Q := by
  intro p e s m args below meth c locs ls cells slots g0 g1 A h1 h2 h3 h4 h5
  refine zw_norm fun b1 b2 => ?_
  have hsl := h5.2.2
  obtain ⟨cell, q1, q2, q3, q4, q5, q6⟩ := hA
  have hnm : s.vm.findClass "[B" = some cell.cls := (q6 ha).moved g1.alike
  obtain ⟨c0, t0', f1, f2, f3⟩ := Cond.castable_spec (va_Nw.use (A := args) rfl (va_Nw.warmC g1 (va_Nw.of rfl (g0.1 _ hw5))))
  cases hnm.symm.trans f1
  intro T hT X
  obtain ⟨-, kA, hkA, comp, hkind⟩ := State.isArrayOf_alike X.warmed.alike (State.isArrayOf_alike g1.alike q2)
  obtain ⟨-, kS, hkS, compS, hkindS⟩ := State.isArrayOf_alike g1.alike q2
  obtain ⟨vm', X', st'⟩ := X.cloneArray A.1 A.2.2.2.2.2.1 (zWd g0 g1 hw rfl) (zWd g0 g1 hw1 rfl) (zWd g0 g1 hw2 rfl) (zWd g0 g1 hw3 rfl) (zWd g0 g1 hw4 rfl) (a := a) (cell := cell) (by rw [hT]; exact q1) q2.1 q3 hnm f2 f3
    (fun i v hv => by
      have hin : i < n := by
        have := (Array.getElem?_eq_some_iff.mp hv).1
        omega
      have hv2 : v = f i := by
        rw [q5 i hin] at hv
        exact (Option.some.inj hv).symm
      have hk' : T.vm.classes[cell.cls]? = some kA := hkA
      have hz := hfit i hin
      rw [← hv2] at hz
      simpa [State.fitsSlot, State.slotType?, hk', hkind] using hz)
    (g := F0 m pc ls (.ref a :: st)) rfl (by rw [A.2.2.1]; exact h2.1.trans h1) rfl (by rw [A.2.1]; exact hd) hd1 (by
      have e1 := zCat_le st
      show 2 * 0 + (st.map fun v => v.category).sum + 14 ≤ 41 * d
      omega) (by show _ ≤ zCp G - s.heap.size; omega) (by rw [q4]; show _ ≤ zSp G - zT s.heap; omega) (hloader := Vm.clonesLoader_of_array hkS hkindS)
  have hnw : zNw n H (H.push ({ cls := cell.cls, slots := cell.slots } : Cell)) := by
    have := zNw_push H ({ cls := cell.cls, slots := cell.slots } : Cell)
    rw [show (({ cls := cell.cls, slots := cell.slots } : Cell).slots.size) = n from q4] at this
    exact this
  obtain ⟨t, c1, c2⟩ := kk (H.push ({ cls := cell.cls, slots := cell.slots } : Cell)) ⟨_, Array.getElem?_push_size, ⟨(fun k h => (by cases h)), q2.2⟩, (fun h => (by cases h)), q4, q5, fun _ => q6 ha⟩ hnw p e s m args below meth c locs ls _ _ g0 g1 A h1 h2 h3 h4 (hnw.ok hc1 hs1 h5) ((T.setVm vm').pushCell ({ cls := cell.cls, slots := cell.slots } : Cell)) (by rw [← hT]; rfl) X'
  refine ⟨t, st' t ?_, c2⟩
  rw [hT]
  exact c1
/-- checkcast of an array of that very class -/
theorem zw_castA {idx a n : Nat} {ty : FieldType} {f : Nat → Value} (nm : String) (hd : decode M.2.1 pc = .ok (.checkcast idx, 3)) (hw : Cond.classLink M.1.cls idx nm ∈ lw_tbl) (hA : zArr G H a ty n f) (hnm : ∀ cell : Cell, H[a]? = some cell → (zS G).vm.findClass nm = some cell.cls) (kk : zW G d M (pc + 3) lv (.ref a :: st) H Q) : zW G d M pc lv (.ref a :: st) H Q := by
  intro p e s m args below meth c locs ls cells slots g0 g1 A h1 h2 h3 h4 h5
  obtain ⟨cell, q1, q2, q3, q4, q5, q6⟩ := hA
  have hs : cell.vm.isStatics = false := by
    cases hv : cell.vm <;> first | rfl | exact absurd hv (q2.1 _)
  intro T hT X
  obtain ⟨vm', X', st'⟩ := X.checkcastYes A.1 A.2.2.2.2.2.1 (zWd g0 g1 hw rfl) (by rw [hT]; exact q1) hs (by rw [g1.alike.findClass]; exact hnm cell q1) (va_asg _ _) (g := F0 m pc ls (.ref a :: st)) rfl rfl (by rw [A.2.1]; exact hd)
  obtain ⟨t, a1, b1⟩ := kk p e s m args below meth c locs ls cells slots g0 g1 A h1 h2 h3 h4 h5 (T.setVm vm') hT X'
  exact ⟨t, st' t a1, b1⟩
theorem zArr.nmB {a n : Nat} {f : Nat → Value} (h : zArr G H a .byte n f) (ha : zFr G a) : ∀ cell : Cell, H[a]? = some cell → (zS G).vm.findClass "[B" = some cell.cls := by
  obtain ⟨cell, q1, q2, q3, q4, q5, q6⟩ := h
  intro c' hc
  rw [q1] at hc
  cases hc
  exact q6 ha
theorem zArr.nmO {a n : Nat} {f : Nat → Value} (h : zArr G H a (.object "java/lang/Object") n f) (ha : zFr G a) : ∀ cell : Cell, H[a]? = some cell → (zS G).vm.findClass "[Ljava/lang/Object;" = some cell.cls := by
  obtain ⟨cell, q1, q2, q3, q4, q5, q6⟩ := h
  intro c' hc
  rw [q1] at hc
  cases hc
  exact va_nmO (q6 ha) rfl
/-- getClass() of an Object[], and the constant Object[].class -/
theorem zw_getCO {idx a n mi : Nat} {f : Nat → Value} (hd : decode M.2.1 pc = .ok (.invokevirtual idx, 3)) (hd1 : 1 ≤ d) (hw : Cond.methodLink M.1.cls idx ⟨"java/lang/Object", "getClass", "()Ljava/lang/Class;"⟩ ∈ lw_tbl) (hw1 : Cond.declares ⟨"java/lang/Object", "getClass", "()Ljava/lang/Class;"⟩ ∈ lw_tbl) (hw2 : Cond.selects "[Ljava/lang/Object;" ⟨"java/lang/Object", "getClass", "()Ljava/lang/Class;"⟩ ⟨"java/lang/Object", "getClass", "()Ljava/lang/Class;"⟩ ∈ lw_tbl) (hw3 : Cond.instanceMethod ⟨"java/lang/Object", "getClass", "()Ljava/lang/Class;"⟩ ∈ lw_tbl) (hw4 : Cond.native ⟨"java/lang/Object", "getClass", "()Ljava/lang/Class;"⟩ ∈ lw_tbl)
    (hM : va_Mi "[Ljava/lang/Object;" mi (zS G)) (hA : zArr G H a (.object "java/lang/Object") n f) (ha : zFr G a) (hr : st.length ≤ 4) (kk : zW G d M (pc + 3) lv (.ref mi :: st) H Q) : zW G d M pc lv (.ref a :: st) H Q := by
  intro p e s m args below meth c locs ls cells slots g0 g1 A h1 h2 h3 h4 h5
  have hn := hA.nmO ha
  obtain ⟨cell, q1, q2, q3, q4, q5, q6⟩ := hA
  have hs : cell.vm.isStatics = false := by
    cases hv : cell.vm <;> first | rfl | exact absurd hv (q2.1 _)
  refine va_getC A.1 A.2.1 (by rw [A.2.2.1]; exact (h2.1.trans h1).symm) A.2.2.2.2.2.1 (zWd g0 g1 hw rfl) (va_Dc.use ((va_Dc.of (g0.1 _ hw1)).moved g1.alike)) (zWd g0 g1 hw2 rfl) (zWd g0 g1 hw3 rfl) (zWd g0 g1 hw4 rfl) (hM.moved g1.alike) ⟨cell, q1, hs, by rw [g1.alike.findClass]; exact hn cell q1⟩ hd1 ?_ hd (kk p e s m args below meth c locs ls cells slots g0 g1 A h1 h2 h3 h4 h5)
  have e1 := zCat_le st
  show (st.map fun v => v.category).sum + 14 ≤ 41 * d
  omega
theorem zw_ldcM {idx mi : Nat} {C : String} (hd : decode M.2.1 pc = .ok (.ldc idx, 2)) (hw : Cond.classLink M.1.cls idx C ∈ lw_tbl) (hM : va_Mi C mi (zS G)) (kk : zW G d M (pc + 2) lv (.ref mi :: st) H Q) : zW G d M pc lv st H Q :=
  fun p e s m args below meth c locs ls cells slots g0 g1 A h1 h2 h3 h4 h5 => va_ldcM A.1 A.2.1 A.2.2.2.2.2.1 (zWd g0 g1 hw rfl) (hM.moved g1.alike) hd (kk p e s m args below meth c locs ls cells slots g0 g1 A h1 h2 h3 h4 h5)
/-- ldc2_w of a long -/
theorem zw_ldc2 {idx : Nat} {v : Int64} (hd : decode M.2.1 pc = .ok (.ldc2_w idx, 3)) (hw : Cond.constantLong M.1.cls idx v ∈ lw_tbl) (kk : zW G d M (pc + 3) lv (.long v :: st) H Q) : zW G d M pc lv st H Q :=
  fun p e s m args below meth c locs ls cells slots g0 g1 A h1 h2 h3 h4 h5 => lv_ldc2 A.1 A.2.1 A.2.2.2.2.2.1 (zWd g0 g1 hw rfl) hd (kk p e s m args below meth c locs ls cells slots g0 g1 A h1 h2 h3 h4 h5)
end ZX
end
section
abbrev M_N_init : MethodName × ByteArray × Nat × Option FieldType := (⟨"NetDesk", "<init>", "()V"⟩, prog_1_method_1_code, 1, none)
abbrev M_Oj_init : MethodName × ByteArray × Nat × Option FieldType := (⟨"java/lang/Object", "<init>", "()V"⟩, object_method_1_code, 1, none)
abbrev M_Sb_init : MethodName × ByteArray × Nat × Option FieldType := (⟨"java/lang/StringBuilder", "<init>", "()V"⟩, prog_21_method_1_code, 1, none)
abbrev M_Ab_init : MethodName × ByteArray × Nat × Option FieldType := (⟨"java/lang/AbstractStringBuilder", "<init>", "(I)V"⟩, prog_15_method_2_code, 2, none)
abbrev M_U16_newBytesFor : MethodName × ByteArray × Nat × Option FieldType := (⟨"java/lang/StringUTF16", "newBytesFor", "(I)[B"⟩, prog_23_method_2_code, 1, some (.array .byte))
abbrev M_U16_newBytesLength : MethodName × ByteArray × Nat × Option FieldType := (⟨"java/lang/StringUTF16", "newBytesLength", "(I)I"⟩, prog_23_method_3_code, 1, some .int)
abbrev M_Ad_init : MethodName × ByteArray × Nat × Option FieldType := (⟨"NetDesk$Address", "<init>", "(Ljava/lang/String;Ljava/lang/String;Ljava/lang/String;Ljava/lang/String;)V"⟩, prog_2_method_1_code, 5, none)
abbrev M_Fl_init : MethodName × ByteArray × Nat × Option FieldType := (⟨"NetDesk$Fields", "<init>", "()V"⟩, prog_5_method_1_code, 1, none)
abbrev M_An_init : MethodName × ByteArray × Nat × Option FieldType := (⟨"NetDesk$Answer", "<init>", "(LNetDesk$Address;LNetDesk$Fields;Ljava/lang/String;)V"⟩, prog_3_method_1_code, 4, none)
abbrev M_Al_init : MethodName × ByteArray × Nat × Option FieldType := (⟨"java/util/ArrayList", "<init>", "()V"⟩, prog_27_method_2_code, 1, none)
abbrev M_AL_init : MethodName × ByteArray × Nat × Option FieldType := (⟨"java/util/AbstractList", "<init>", "()V"⟩, prog_26_method_1_code, 1, none)
abbrev M_AC_init : MethodName × ByteArray × Nat × Option FieldType := (⟨"java/util/AbstractCollection", "<init>", "()V"⟩, prog_25_method_1_code, 1, none)
abbrev M_Jr_init : MethodName × ByteArray × Nat × Option FieldType := (⟨"NetDesk$Jar", "<init>", "()V"⟩, prog_6_method_1_code, 1, none)
abbrev M_Kp_init : MethodName × ByteArray × Nat × Option FieldType := (⟨"NetDesk$Keep", "<init>", "()V"⟩, prog_7_method_1_code, 1, none)
abbrev M_N_feed : MethodName × ByteArray × Nat × Option FieldType := (⟨"NetDesk", "feed", "(IIIII)I"⟩, prog_1_method_2_code, 6, some .int)
abbrev M_Sb_length : MethodName × ByteArray × Nat × Option FieldType := (⟨"java/lang/StringBuilder", "length", "()I"⟩, prog_21_method_93_code, 1, some .int)
abbrev M_Ab_length : MethodName × ByteArray × Nat × Option FieldType := (⟨"java/lang/AbstractStringBuilder", "length", "()I"⟩, prog_15_method_6_code, 1, some .int)
abbrev M_N_addWord : MethodName × ByteArray × Nat × Option FieldType := (⟨"NetDesk", "addWord", "(I)V"⟩, prog_1_method_14_code, 3, none)
abbrev M_Sb_append_0 : MethodName × ByteArray × Nat × Option FieldType := (⟨"java/lang/StringBuilder", "append", "(C)Ljava/lang/StringBuilder;"⟩, prog_21_method_14_code, 2, some (.object "java/lang/StringBuilder"))
abbrev M_Ab_append_0 : MethodName × ByteArray × Nat × Option FieldType := (⟨"java/lang/AbstractStringBuilder", "append", "(C)Ljava/lang/AbstractStringBuilder;"⟩, prog_15_method_31_code, 2, some (.object "java/lang/AbstractStringBuilder"))
abbrev M_Ab_ensureCapacityInternal : MethodName × ByteArray × Nat × Option FieldType := (⟨"java/lang/AbstractStringBuilder", "ensureCapacityInternal", "(I)V"⟩, prog_15_method_9_code, 3, none)
abbrev M_Ab_newCapacity : MethodName × ByteArray × Nat × Option FieldType := (⟨"java/lang/AbstractStringBuilder", "newCapacity", "(I)I"⟩, prog_15_method_10_code, 6, some .int)
abbrev M_AS_newLength : MethodName × ByteArray × Nat × Option FieldType := (⟨"jdk/internal/util/ArraysSupport", "newLength", "(III)I"⟩, prog_34_method_27_code, 4, some .int)
abbrev M_Ma_max : MethodName × ByteArray × Nat × Option FieldType := (⟨"java/lang/Math", "max", "(II)I"⟩, prog_19_method_65_code, 2, some .int)
abbrev M_AS_hugeLength : MethodName × ByteArray × Nat × Option FieldType := (⟨"jdk/internal/util/ArraysSupport", "hugeLength", "(II)I"⟩, prog_34_method_28_code, 3, some .int)
abbrev M_Ar_copyOf_0 : MethodName × ByteArray × Nat × Option FieldType := (⟨"java/util/Arrays", "copyOf", "([BI)[B"⟩, prog_28_method_121_code, 3, some (.array .byte))
abbrev M_Ma_min : MethodName × ByteArray × Nat × Option FieldType := (⟨"java/lang/Math", "min", "(II)I"⟩, prog_19_method_69_code, 2, some .int)
abbrev M_Ab_isLatin1 : MethodName × ByteArray × Nat × Option FieldType := (⟨"java/lang/AbstractStringBuilder", "isLatin1", "()Z"⟩, prog_15_method_68_code, 1, some .boolean)
abbrev M_L1_canEncode_0 : MethodName × ByteArray × Nat × Option FieldType := (⟨"java/lang/StringLatin1", "canEncode", "(C)Z"⟩, prog_22_method_3_code, 1, some .boolean)
abbrev M_Ab_inflate : MethodName × ByteArray × Nat × Option FieldType := (⟨"java/lang/AbstractStringBuilder", "inflate", "()V"⟩, prog_15_method_11_code, 2, none)
abbrev M_L1_inflate : MethodName × ByteArray × Nat × Option FieldType := (⟨"java/lang/StringLatin1", "inflate", "([BI[BII)V"⟩, prog_22_method_50_code, 5, none)
abbrev M_U16_inflate : MethodName × ByteArray × Nat × Option FieldType := (⟨"java/lang/StringUTF16", "inflate", "([BI[BII)V"⟩, prog_23_method_86_code, 6, none)
abbrev M_U16_checkBoundsOffCount : MethodName × ByteArray × Nat × Option FieldType := (⟨"java/lang/StringUTF16", "checkBoundsOffCount", "(II[B)V"⟩, prog_23_method_94_code, 3, none)
abbrev M_U16_length : MethodName × ByteArray × Nat × Option FieldType := (⟨"java/lang/StringUTF16", "length", "([B)I"⟩, prog_23_method_6_code, 1, some .int)
abbrev M_St_checkBoundsOffCount : MethodName × ByteArray × Nat × Option FieldType := (⟨"java/lang/String", "checkBoundsOffCount", "(III)I"⟩, prog_20_method_157_code, 3, some .int)
abbrev M_Pc_checkFromIndexSize : MethodName × ByteArray × Nat × Option FieldType := (⟨"jdk/internal/util/Preconditions", "checkFromIndexSize", "(IIILjava/util/function/BiFunction;)I"⟩, prog_35_method_13_code, 4, some .int)
abbrev M_U16_putChar : MethodName × ByteArray × Nat × Option FieldType := (⟨"java/lang/StringUTF16", "putChar", "([BII)V"⟩, prog_23_method_4_code, 3, none)
abbrev M_U16_putCharSB : MethodName × ByteArray × Nat × Option FieldType := (⟨"java/lang/StringUTF16", "putCharSB", "([BII)V"⟩, prog_23_method_71_code, 3, none)
abbrev M_U16_checkIndex : MethodName × ByteArray × Nat × Option FieldType := (⟨"java/lang/StringUTF16", "checkIndex", "(I[B)V"⟩, prog_23_method_91_code, 2, none)
abbrev M_St_checkIndex : MethodName × ByteArray × Nat × Option FieldType := (⟨"java/lang/String", "checkIndex", "(II)V"⟩, prog_20_method_155_code, 2, none)
abbrev M_Pc_checkIndex : MethodName × ByteArray × Nat × Option FieldType := (⟨"jdk/internal/util/Preconditions", "checkIndex", "(IILjava/util/function/BiFunction;)I"⟩, prog_35_method_11_code, 3, some .int)
abbrev M_N_end : MethodName × ByteArray × Nat × Option FieldType := (⟨"NetDesk", "end", "(I)I"⟩, prog_1_method_3_code, 2, some .int)
abbrev M_Sb_setLength : MethodName × ByteArray × Nat × Option FieldType := (⟨"java/lang/StringBuilder", "setLength", "(I)V"⟩, prog_21_method_89_code, 2, none)
abbrev M_Ab_setLength : MethodName × ByteArray × Nat × Option FieldType := (⟨"java/lang/AbstractStringBuilder", "setLength", "(I)V"⟩, prog_15_method_13_code, 2, none)
abbrev M_L1_fillNull : MethodName × ByteArray × Nat × Option FieldType := (⟨"java/lang/StringLatin1", "fillNull", "([BII)V"⟩, prog_22_method_48_code, 3, none)
abbrev M_Ar_fill : MethodName × ByteArray × Nat × Option FieldType := (⟨"java/util/Arrays", "fill", "([BIIB)V"⟩, prog_28_method_110_code, 5, none)
abbrev M_Ar_rangeCheck : MethodName × ByteArray × Nat × Option FieldType := (⟨"java/util/Arrays", "rangeCheck", "(III)V"⟩, prog_28_method_30_code, 3, none)
abbrev M_U16_fillNull : MethodName × ByteArray × Nat × Option FieldType := (⟨"java/lang/StringUTF16", "fillNull", "([BII)V"⟩, prog_23_method_70_code, 3, none)
abbrev M_N_out : MethodName × ByteArray × Nat × Option FieldType := (⟨"NetDesk", "out", "(I)I"⟩, prog_1_method_4_code, 2, some .int)
abbrev M_Sb_charAt : MethodName × ByteArray × Nat × Option FieldType := (⟨"java/lang/StringBuilder", "charAt", "(I)C"⟩, prog_21_method_88_code, 2, some .char)
abbrev M_Ab_charAt : MethodName × ByteArray × Nat × Option FieldType := (⟨"java/lang/AbstractStringBuilder", "charAt", "(I)C"⟩, prog_15_method_14_code, 5, some .char)
abbrev M_U16_getChar : MethodName × ByteArray × Nat × Option FieldType := (⟨"java/lang/StringUTF16", "getChar", "([BI)C"⟩, prog_23_method_5_code, 2, some .char)
abbrev M_N_resolve : MethodName × ByteArray × Nat × Option FieldType := (⟨"NetDesk", "resolve", "()I"⟩, prog_1_method_5_code, 4, some .int)
abbrev M_N_takeText : MethodName × ByteArray × Nat × Option FieldType := (⟨"NetDesk", "takeText", "()Ljava/lang/String;"⟩, prog_1_method_15_code, 2, some (.object "java/lang/String"))
abbrev M_Sb_toString : MethodName × ByteArray × Nat × Option FieldType := (⟨"java/lang/StringBuilder", "toString", "()Ljava/lang/String;"⟩, prog_21_method_42_code, 1, some (.object "java/lang/String"))
abbrev M_St_init_0 : MethodName × ByteArray × Nat × Option FieldType := (⟨"java/lang/String", "<init>", "(Ljava/lang/StringBuilder;)V"⟩, prog_20_method_53_code, 2, none)
abbrev M_St_init_1 : MethodName × ByteArray × Nat × Option FieldType := (⟨"java/lang/String", "<init>", "(Ljava/lang/AbstractStringBuilder;Ljava/lang/Void;)V"⟩, prog_20_method_150_code, 5, none)
abbrev M_Ab_getValue : MethodName × ByteArray × Nat × Option FieldType := (⟨"java/lang/AbstractStringBuilder", "getValue", "()[B"⟩, prog_15_method_64_code, 1, some (.array .byte))
abbrev M_Ar_copyOfRange : MethodName × ByteArray × Nat × Option FieldType := (⟨"java/util/Arrays", "copyOfRange", "([BII)[B"⟩, prog_28_method_132_code, 3, some (.array .byte))
abbrev M_Ar_copyOfRangeByte : MethodName × ByteArray × Nat × Option FieldType := (⟨"java/util/Arrays", "copyOfRangeByte", "([BII)[B"⟩, prog_28_method_133_code, 5, some (.array .byte))
abbrev M_Ar_checkLength : MethodName × ByteArray × Nat × Option FieldType := (⟨"java/util/Arrays", "checkLength", "(II)V"⟩, prog_28_method_131_code, 2, none)
abbrev M_U16_compress_0 : MethodName × ByteArray × Nat × Option FieldType := (⟨"java/lang/StringUTF16", "compress", "([BII)[B"⟩, prog_23_method_17_code, 6, some (.array .byte))
abbrev M_U16_compress_1 : MethodName × ByteArray × Nat × Option FieldType := (⟨"java/lang/StringUTF16", "compress", "([BI[BII)I"⟩, prog_23_method_22_code, 7, some .int)
abbrev M_U16_coderFromArrayLen : MethodName × ByteArray × Nat × Option FieldType := (⟨"java/lang/StringUTF16", "coderFromArrayLen", "([BI)B"⟩, prog_23_method_15_code, 2, some .byte)
abbrev M_Tx_badByte : MethodName × ByteArray × Nat × Option FieldType := (⟨"NetDesk$Texts", "badByte", "(Ljava/lang/String;)I"⟩, prog_11_method_2_code, 3, some .int)
abbrev M_St_length : MethodName × ByteArray × Nat × Option FieldType := (⟨"java/lang/String", "length", "()I"⟩, prog_20_method_54_code, 1, some .int)
abbrev M_St_coder : MethodName × ByteArray × Nat × Option FieldType := (⟨"java/lang/String", "coder", "()B"⟩, prog_20_method_152_code, 1, some .byte)
abbrev M_St_charAt : MethodName × ByteArray × Nat × Option FieldType := (⟨"java/lang/String", "charAt", "(I)C"⟩, prog_20_method_56_code, 2, some .char)
abbrev M_St_isLatin1 : MethodName × ByteArray × Nat × Option FieldType := (⟨"java/lang/String", "isLatin1", "()Z"⟩, prog_20_method_154_code, 1, some .boolean)
abbrev M_L1_charAt : MethodName × ByteArray × Nat × Option FieldType := (⟨"java/lang/StringLatin1", "charAt", "([BI)C"⟩, prog_22_method_2_code, 2, some .char)
abbrev M_U16_charAt : MethodName × ByteArray × Nat × Option FieldType := (⟨"java/lang/StringUTF16", "charAt", "([BI)C"⟩, prog_23_method_83_code, 2, some .char)
abbrev M_Ad_read : MethodName × ByteArray × Nat × Option FieldType := (⟨"NetDesk$Address", "read", "(Ljava/lang/String;LNetDesk$Address;)LNetDesk$Address;"⟩, prog_2_method_2_code, 12, some (.object "NetDesk$Address"))
abbrev M_Ad_placeOrLength : MethodName × ByteArray × Nat × Option FieldType := (⟨"NetDesk$Address", "placeOrLength", "(Ljava/lang/String;C)I"⟩, prog_2_method_6_code, 3, some .int)
abbrev M_St_indexOf_0 : MethodName × ByteArray × Nat × Option FieldType := (⟨"java/lang/String", "indexOf", "(I)I"⟩, prog_20_method_79_code, 2, some .int)
abbrev M_St_indexOf_1 : MethodName × ByteArray × Nat × Option FieldType := (⟨"java/lang/String", "indexOf", "(II)I"⟩, prog_20_method_80_code, 3, some .int)
abbrev M_L1_indexOf : MethodName × ByteArray × Nat × Option FieldType := (⟨"java/lang/StringLatin1", "indexOf", "([BIII)I"⟩, prog_22_method_22_code, 4, some .int)
abbrev M_L1_canEncode_1 : MethodName × ByteArray × Nat × Option FieldType := (⟨"java/lang/StringLatin1", "canEncode", "(I)Z"⟩, prog_22_method_4_code, 1, some .boolean)
abbrev M_L1_indexOfChar : MethodName × ByteArray × Nat × Option FieldType := (⟨"java/lang/StringLatin1", "indexOfChar", "([BIII)I"⟩, prog_22_method_23_code, 6, some .int)
abbrev M_U16_indexOf : MethodName × ByteArray × Nat × Option FieldType := (⟨"java/lang/StringUTF16", "indexOf", "([BIII)I"⟩, prog_23_method_40_code, 4, some .int)
abbrev M_U16_indexOfChar : MethodName × ByteArray × Nat × Option FieldType := (⟨"java/lang/StringUTF16", "indexOfChar", "([BIII)I"⟩, prog_23_method_47_code, 4, some .int)
abbrev M_U16_checkBoundsBeginEnd : MethodName × ByteArray × Nat × Option FieldType := (⟨"java/lang/StringUTF16", "checkBoundsBeginEnd", "(II[B)V"⟩, prog_23_method_93_code, 3, none)
abbrev M_St_checkBoundsBeginEnd : MethodName × ByteArray × Nat × Option FieldType := (⟨"java/lang/String", "checkBoundsBeginEnd", "(III)V"⟩, prog_20_method_158_code, 3, none)
abbrev M_Pc_checkFromToIndex : MethodName × ByteArray × Nat × Option FieldType := (⟨"jdk/internal/util/Preconditions", "checkFromToIndex", "(IIILjava/util/function/BiFunction;)I"⟩, prog_35_method_12_code, 4, some .int)
abbrev M_U16_indexOfCharUnsafe : MethodName × ByteArray × Nat × Option FieldType := (⟨"java/lang/StringUTF16", "indexOfCharUnsafe", "([BIII)I"⟩, prog_23_method_48_code, 5, some .int)
abbrev M_U16_indexOfSupplementary : MethodName × ByteArray × Nat × Option FieldType := (⟨"java/lang/StringUTF16", "indexOfSupplementary", "([BIII)I"⟩, prog_23_method_49_code, 7, some .int)
abbrev M_Ch_isValidCodePoint : MethodName × ByteArray × Nat × Option FieldType := (⟨"java/lang/Character", "isValidCodePoint", "(I)Z"⟩, prog_16_method_11_code, 2, some .boolean)
abbrev M_Ch_highSurrogate : MethodName × ByteArray × Nat × Option FieldType := (⟨"java/lang/Character", "highSurrogate", "(I)C"⟩, prog_16_method_28_code, 1, some .char)
abbrev M_Ch_lowSurrogate : MethodName × ByteArray × Nat × Option FieldType := (⟨"java/lang/Character", "lowSurrogate", "(I)C"⟩, prog_16_method_29_code, 1, some .char)
abbrev M_St_substring_0 : MethodName × ByteArray × Nat × Option FieldType := (⟨"java/lang/String", "substring", "(II)Ljava/lang/String;"⟩, prog_20_method_92_code, 5, some (.object "java/lang/String"))
abbrev M_L1_newString : MethodName × ByteArray × Nat × Option FieldType := (⟨"java/lang/StringLatin1", "newString", "([BII)Ljava/lang/String;"⟩, prog_22_method_47_code, 3, some (.object "java/lang/String"))
abbrev M_St_init_2 : MethodName × ByteArray × Nat × Option FieldType := (⟨"java/lang/String", "<init>", "([BB)V"⟩, prog_20_method_151_code, 3, none)
abbrev M_U16_newString : MethodName × ByteArray × Nat × Option FieldType := (⟨"java/lang/StringUTF16", "newString", "([BII)Ljava/lang/String;"⟩, prog_23_method_69_code, 5, some (.object "java/lang/String"))
abbrev M_St_substring_1 : MethodName × ByteArray × Nat × Option FieldType := (⟨"java/lang/String", "substring", "(I)Ljava/lang/String;"⟩, prog_20_method_91_code, 2, some (.object "java/lang/String"))
abbrev M_Ad_isQuery : MethodName × ByteArray × Nat × Option FieldType := (⟨"NetDesk$Address", "isQuery", "(Ljava/lang/String;)Z"⟩, prog_2_method_7_code, 1, some .boolean)
abbrev M_St_isEmpty : MethodName × ByteArray × Nat × Option FieldType := (⟨"java/lang/String", "isEmpty", "()Z"⟩, prog_20_method_55_code, 1, some .boolean)
abbrev M_Tx_hasOnly : MethodName × ByteArray × Nat × Option FieldType := (⟨"NetDesk$Texts", "hasOnly", "(Ljava/lang/String;Ljava/lang/String;)Z"⟩, prog_11_method_7_code, 4, some .boolean)
abbrev M_Tx_isSmallLetter : MethodName × ByteArray × Nat × Option FieldType := (⟨"NetDesk$Texts", "isSmallLetter", "(C)Z"⟩, prog_11_method_9_code, 1, some .boolean)
abbrev M_Tx_isDigit : MethodName × ByteArray × Nat × Option FieldType := (⟨"NetDesk$Texts", "isDigit", "(C)Z"⟩, prog_11_method_10_code, 1, some .boolean)
abbrev M_Tx_isName : MethodName × ByteArray × Nat × Option FieldType := (⟨"NetDesk$Texts", "isName", "(Ljava/lang/String;)Z"⟩, prog_11_method_4_code, 1, some .boolean)
abbrev M_Tx_noNameAt : MethodName × ByteArray × Nat × Option FieldType := (⟨"NetDesk$Texts", "noNameAt", "(Ljava/lang/String;)I"⟩, prog_11_method_3_code, 4, some .int)
abbrev M_Pt_init : MethodName × ByteArray × Nat × Option FieldType := (⟨"NetDesk$Path", "<init>", "()V"⟩, prog_9_method_1_code, 1, none)
abbrev M_Tx_begins : MethodName × ByteArray × Nat × Option FieldType := (⟨"NetDesk$Texts", "begins", "(Ljava/lang/String;Ljava/lang/String;)Z"⟩, prog_11_method_8_code, 2, some .boolean)
abbrev M_St_equals : MethodName × ByteArray × Nat × Option FieldType := (⟨"java/lang/String", "equals", "(Ljava/lang/Object;)Z"⟩, prog_20_method_66_code, 3, some .boolean)
abbrev M_L1_equals : MethodName × ByteArray × Nat × Option FieldType := (⟨"java/lang/StringLatin1", "equals", "([B[B)Z"⟩, prog_22_method_13_code, 3, some .boolean)
abbrev M_Pt_startBeside : MethodName × ByteArray × Nat × Option FieldType := (⟨"NetDesk$Path", "startBeside", "(LNetDesk$Address;)V"⟩, prog_9_method_2_code, 2, none)
abbrev M_Sb_append_1 : MethodName × ByteArray × Nat × Option FieldType := (⟨"java/lang/StringBuilder", "append", "(Ljava/lang/String;)Ljava/lang/StringBuilder;"⟩, prog_21_method_7_code, 2, some (.object "java/lang/StringBuilder"))
abbrev M_Ab_append_1 : MethodName × ByteArray × Nat × Option FieldType := (⟨"java/lang/AbstractStringBuilder", "append", "(Ljava/lang/String;)Ljava/lang/AbstractStringBuilder;"⟩, prog_15_method_22_code, 3, some (.object "java/lang/AbstractStringBuilder"))
abbrev M_Ab_appendNull : MethodName × ByteArray × Nat × Option FieldType := (⟨"java/lang/AbstractStringBuilder", "appendNull", "()Ljava/lang/AbstractStringBuilder;"⟩, prog_15_method_26_code, 3, some (.object "java/lang/AbstractStringBuilder"))
abbrev M_U16_putCharsAt : MethodName × ByteArray × Nat × Option FieldType := (⟨"java/lang/StringUTF16", "putCharsAt", "([BICCCC)I"⟩, prog_23_method_81_code, 7, some .int)
abbrev M_Ab_putStringAt : MethodName × ByteArray × Nat × Option FieldType := (⟨"java/lang/AbstractStringBuilder", "putStringAt", "(ILjava/lang/String;)V"⟩, prog_15_method_73_code, 3, none)
abbrev M_Ab_inflateIfNeededFor : MethodName × ByteArray × Nat × Option FieldType := (⟨"java/lang/AbstractStringBuilder", "inflateIfNeededFor", "(Ljava/lang/String;)V"⟩, prog_15_method_71_code, 2, none)
abbrev M_St_getBytes : MethodName × ByteArray × Nat × Option FieldType := (⟨"java/lang/String", "getBytes", "([BIB)V"⟩, prog_20_method_147_code, 4, none)
abbrev M_Ad_segments : MethodName × ByteArray × Nat × Option FieldType := (⟨"NetDesk$Address", "segments", "()I"⟩, prog_2_method_4_code, 3, some .int)
abbrev M_Pt_pop : MethodName × ByteArray × Nat × Option FieldType := (⟨"NetDesk$Path", "pop", "()V"⟩, prog_9_method_6_code, 2, none)
abbrev M_Pt_take : MethodName × ByteArray × Nat × Option FieldType := (⟨"NetDesk$Path", "take", "(Ljava/lang/String;)Z"⟩, prog_9_method_3_code, 5, some .boolean)
abbrev M_Pt_takeOne : MethodName × ByteArray × Nat × Option FieldType := (⟨"NetDesk$Path", "takeOne", "(Ljava/lang/String;Z)Z"⟩, prog_9_method_4_code, 4, some .boolean)
abbrev M_Pt_push : MethodName × ByteArray × Nat × Option FieldType := (⟨"NetDesk$Path", "push", "(Ljava/lang/String;)V"⟩, prog_9_method_5_code, 2, none)
abbrev M_N_writeAddress : MethodName × ByteArray × Nat × Option FieldType := (⟨"NetDesk", "writeAddress", "(LNetDesk$Address;Ljava/lang/String;)I"⟩, prog_1_method_16_code, 3, some .int)
abbrev M_Ad_appendTo : MethodName × ByteArray × Nat × Option FieldType := (⟨"NetDesk$Address", "appendTo", "(Ljava/lang/StringBuilder;)V"⟩, prog_2_method_5_code, 2, none)
abbrev M_N_base : MethodName × ByteArray × Nat × Option FieldType := (⟨"NetDesk", "base", "()I"⟩, prog_1_method_6_code, 4, some .int)
abbrev M_N_server : MethodName × ByteArray × Nat × Option FieldType := (⟨"NetDesk", "server", "()I"⟩, prog_1_method_7_code, 7, some .int)
abbrev M_Sv_init : MethodName × ByteArray × Nat × Option FieldType := (⟨"NetDesk$ServerText", "<init>", "(Ljava/lang/String;LNetDesk$Address;)V"⟩, prog_10_method_1_code, 3, none)
abbrev M_Sv_firstWrong : MethodName × ByteArray × Nat × Option FieldType := (⟨"NetDesk$ServerText", "firstWrong", "()I"⟩, prog_10_method_2_code, 7, some .int)
abbrev M_Sv_takeAddress : MethodName × ByteArray × Nat × Option FieldType := (⟨"NetDesk$ServerText", "takeAddress", "(Ljava/lang/String;)Z"⟩, prog_10_method_3_code, 3, some .boolean)
abbrev M_Fl_take : MethodName × ByteArray × Nat × Option FieldType := (⟨"NetDesk$Fields", "take", "(Ljava/lang/String;LNetDesk$Address;)Z"⟩, prog_5_method_2_code, 4, some .boolean)
abbrev M_Fl_takeAge : MethodName × ByteArray × Nat × Option FieldType := (⟨"NetDesk$Fields", "takeAge", "(Ljava/lang/String;)Z"⟩, prog_5_method_3_code, 2, some .boolean)
abbrev M_Tx_isNumber : MethodName × ByteArray × Nat × Option FieldType := (⟨"NetDesk$Texts", "isNumber", "(Ljava/lang/String;)Z"⟩, prog_11_method_5_code, 2, some .boolean)
abbrev M_Tx_number : MethodName × ByteArray × Nat × Option FieldType := (⟨"NetDesk$Texts", "number", "(Ljava/lang/String;)I"⟩, prog_11_method_6_code, 3, some .int)
abbrev M_Fl_takeCookie : MethodName × ByteArray × Nat × Option FieldType := (⟨"NetDesk$Fields", "takeCookie", "(Ljava/lang/String;)Z"⟩, prog_5_method_4_code, 5, some .boolean)
abbrev M_N_placeOfAnswer : MethodName × ByteArray × Nat × Option FieldType := (⟨"NetDesk", "placeOfAnswer", "(LNetDesk$Address;)I"⟩, prog_1_method_17_code, 3, some .int)
abbrev M_Al_size : MethodName × ByteArray × Nat × Option FieldType := (⟨"java/util/ArrayList", "size", "()I"⟩, prog_27_method_8_code, 1, some .int)
abbrev M_Al_get : MethodName × ByteArray × Nat × Option FieldType := (⟨"java/util/ArrayList", "get", "(I)Ljava/lang/Object;"⟩, prog_27_method_20_code, 2, some (.object "java/lang/Object"))
abbrev M_Ob_checkIndex : MethodName × ByteArray × Nat × Option FieldType := (⟨"java/util/Objects", "checkIndex", "(II)I"⟩, prog_31_method_17_code, 2, some .int)
abbrev M_Al_elementData : MethodName × ByteArray × Nat × Option FieldType := (⟨"java/util/ArrayList", "elementData", "(I)Ljava/lang/Object;"⟩, prog_27_method_18_code, 2, some (.object "java/lang/Object"))
abbrev M_Ad_isSamePlace : MethodName × ByteArray × Nat × Option FieldType := (⟨"NetDesk$Address", "isSamePlace", "(LNetDesk$Address;)Z"⟩, prog_2_method_3_code, 2, some .boolean)
abbrev M_Al_set : MethodName × ByteArray × Nat × Option FieldType := (⟨"java/util/ArrayList", "set", "(ILjava/lang/Object;)Ljava/lang/Object;"⟩, prog_27_method_23_code, 4, some (.object "java/lang/Object"))
abbrev M_Al_add_0 : MethodName × ByteArray × Nat × Option FieldType := (⟨"java/util/ArrayList", "add", "(Ljava/lang/Object;)Z"⟩, prog_27_method_25_code, 2, some .boolean)
abbrev M_Al_add_1 : MethodName × ByteArray × Nat × Option FieldType := (⟨"java/util/ArrayList", "add", "(Ljava/lang/Object;[Ljava/lang/Object;I)V"⟩, prog_27_method_24_code, 4, none)
abbrev M_Al_grow_0 : MethodName × ByteArray × Nat × Option FieldType := (⟨"java/util/ArrayList", "grow", "()[Ljava/lang/Object;"⟩, prog_27_method_7_code, 1, some (.array (.object "java/lang/Object")))
abbrev M_Al_grow_1 : MethodName × ByteArray × Nat × Option FieldType := (⟨"java/util/ArrayList", "grow", "(I)[Ljava/lang/Object;"⟩, prog_27_method_6_code, 4, some (.array (.object "java/lang/Object")))
abbrev M_Ar_copyOf_1 : MethodName × ByteArray × Nat × Option FieldType := (⟨"java/util/Arrays", "copyOf", "([Ljava/lang/Object;I)[Ljava/lang/Object;"⟩, prog_28_method_119_code, 2, some (.array (.object "java/lang/Object")))
abbrev M_Ar_copyOf_2 : MethodName × ByteArray × Nat × Option FieldType := (⟨"java/util/Arrays", "copyOf", "([Ljava/lang/Object;ILjava/lang/Class;)[Ljava/lang/Object;"⟩, prog_28_method_120_code, 4, some (.array (.object "java/lang/Object")))
abbrev M_N_fetch : MethodName × ByteArray × Nat × Option FieldType := (⟨"NetDesk", "fetch", "()I"⟩, prog_1_method_8_code, 4, some .int)
abbrev M_N_follow : MethodName × ByteArray × Nat × Option FieldType := (⟨"NetDesk", "follow", "(LNetDesk$Address;)V"⟩, prog_1_method_18_code, 5, none)
abbrev M_N_answerFrom : MethodName × ByteArray × Nat × Option FieldType := (⟨"NetDesk", "answerFrom", "(LNetDesk$Address;)LNetDesk$Answer;"⟩, prog_1_method_19_code, 3, some (.object "NetDesk$Answer"))
abbrev M_Kp_fresh : MethodName × ByteArray × Nat × Option FieldType := (⟨"NetDesk$Keep", "fresh", "(LNetDesk$Address;I)LNetDesk$Answer;"⟩, prog_7_method_3_code, 4, some (.object "NetDesk$Answer"))
abbrev M_Kp_placeOf : MethodName × ByteArray × Nat × Option FieldType := (⟨"NetDesk$Keep", "placeOf", "(LNetDesk$Address;)I"⟩, prog_7_method_5_code, 3, some .int)
abbrev M_N_request : MethodName × ByteArray × Nat × Option FieldType := (⟨"NetDesk", "request", "(LNetDesk$Address;)LNetDesk$Answer;"⟩, prog_1_method_20_code, 4, some (.object "NetDesk$Answer"))
abbrev M_Jr_tell : MethodName × ByteArray × Nat × Option FieldType := (⟨"NetDesk$Jar", "tell", "(Ljava/lang/String;Ljava/lang/StringBuilder;)V"⟩, prog_6_method_4_code, 5, none)
abbrev M_Ck_init : MethodName × ByteArray × Nat × Option FieldType := (⟨"NetDesk$Cookie", "<init>", "(Ljava/lang/String;Ljava/lang/String;Ljava/lang/String;)V"⟩, prog_4_method_1_code, 4, none)
abbrev M_Jr_put : MethodName × ByteArray × Nat × Option FieldType := (⟨"NetDesk$Jar", "put", "(LNetDesk$Cookie;)V"⟩, prog_6_method_3_code, 4, none)
abbrev M_Kt_init : MethodName × ByteArray × Nat × Option FieldType := (⟨"NetDesk$Kept", "<init>", "(LNetDesk$Answer;I)V"⟩, prog_8_method_1_code, 3, none)
abbrev M_Kp_put : MethodName × ByteArray × Nat × Option FieldType := (⟨"NetDesk$Keep", "put", "(LNetDesk$Kept;)V"⟩, prog_7_method_4_code, 3, none)
abbrev M_Al_remove : MethodName × ByteArray × Nat × Option FieldType := (⟨"java/util/ArrayList", "remove", "(I)Ljava/lang/Object;"⟩, prog_27_method_29_code, 4, some (.object "java/lang/Object"))
abbrev M_Al_fastRemove : MethodName × ByteArray × Nat × Option FieldType := (⟨"java/util/ArrayList", "fastRemove", "([Ljava/lang/Object;I)V"⟩, prog_27_method_39_code, 4, none)
abbrev M_N_body : MethodName × ByteArray × Nat × Option FieldType := (⟨"NetDesk", "body", "(I)I"⟩, prog_1_method_9_code, 2, some .int)
abbrev M_N_tick : MethodName × ByteArray × Nat × Option FieldType := (⟨"NetDesk", "tick", "(I)I"⟩, prog_1_method_10_code, 2, some .int)
abbrev M_N_forget : MethodName × ByteArray × Nat × Option FieldType := (⟨"NetDesk", "forget", "()I"⟩, prog_1_method_11_code, 4, some .int)
abbrev M_Jr_dropLast : MethodName × ByteArray × Nat × Option FieldType := (⟨"NetDesk$Jar", "dropLast", "(Ljava/lang/String;)I"⟩, prog_6_method_5_code, 5, some .int)
abbrev M_N_write : MethodName × ByteArray × Nat × Option FieldType := (⟨"NetDesk", "write", "(I)I"⟩, prog_1_method_12_code, 2, some .int)
abbrev M_N_count : MethodName × ByteArray × Nat × Option FieldType := (⟨"NetDesk", "count", "(I)I"⟩, prog_1_method_13_code, 2, some .int)
abbrev M_Jr_size : MethodName × ByteArray × Nat × Option FieldType := (⟨"NetDesk$Jar", "size", "()I"⟩, prog_6_method_2_code, 1, some .int)
abbrev M_Kp_size : MethodName × ByteArray × Nat × Option FieldType := (⟨"NetDesk$Keep", "size", "()I"⟩, prog_7_method_2_code, 1, some .int)
abbrev M_Mo_server : MethodName × ByteArray × Nat × Option FieldType := (⟨"NetDeskModel", "server", "()I"⟩, prog_13_method_29_code, 5, some .int)
abbrev M_Mo_take : MethodName × ByteArray × Nat × Option FieldType := (⟨"NetDeskModel", "take", "()I"⟩, prog_13_method_3_code, 3, some .int)
abbrev M_Mo_wrong : MethodName × ByteArray × Nat × Option FieldType := (⟨"NetDeskModel", "wrong", "(I)I"⟩, prog_13_method_4_code, 1, some .int)
abbrev M_Mo_tokenEnd : MethodName × ByteArray × Nat × Option FieldType := (⟨"NetDeskModel", "tokenEnd", "(I)I"⟩, prog_13_method_27_code, 3, some .int)
abbrev M_Mo_isBlank : MethodName × ByteArray × Nat × Option FieldType := (⟨"NetDeskModel", "isBlank", "(I)Z"⟩, prog_13_method_7_code, 1, some .boolean)
abbrev M_Mo_refer : MethodName × ByteArray × Nat × Option FieldType := (⟨"NetDeskModel", "refer", "([BIII)Z"⟩, prog_13_method_24_code, 8, some .boolean)
abbrev M_Mo_nameEnd : MethodName × ByteArray × Nat × Option FieldType := (⟨"NetDeskModel", "nameEnd", "([BII)I"⟩, prog_13_method_8_code, 4, some .int)
abbrev M_Mo_isSmall : MethodName × ByteArray × Nat × Option FieldType := (⟨"NetDeskModel", "isSmall", "(I)Z"⟩, prog_13_method_5_code, 1, some .boolean)
abbrev M_Mo_isDigit : MethodName × ByteArray × Nat × Option FieldType := (⟨"NetDeskModel", "isDigit", "(I)Z"⟩, prog_13_method_6_code, 1, some .boolean)
abbrev M_Mo_put : MethodName × ByteArray × Nat × Option FieldType := (⟨"NetDeskModel", "put", "(II)V"⟩, prog_13_method_17_code, 3, none)
abbrev M_Mo_segments : MethodName × ByteArray × Nat × Option FieldType := (⟨"NetDeskModel", "segments", "([BI)Z"⟩, prog_13_method_21_code, 3, some .boolean)
abbrev M_Mo_oneSegment : MethodName × ByteArray × Nat × Option FieldType := (⟨"NetDeskModel", "oneSegment", "([BI)Z"⟩, prog_13_method_22_code, 4, some .boolean)
abbrev M_Mo_isSegment : MethodName × ByteArray × Nat × Option FieldType := (⟨"NetDeskModel", "isSegment", "(I)Z"⟩, prog_13_method_18_code, 1, some .boolean)
abbrev M_Mo_segment : MethodName × ByteArray × Nat × Option FieldType := (⟨"NetDeskModel", "segment", "([BII)V"⟩, prog_13_method_20_code, 5, none)
abbrev M_Mo_siteEnd : MethodName × ByteArray × Nat × Option FieldType := (⟨"NetDeskModel", "siteEnd", "(I)I"⟩, prog_13_method_14_code, 3, some .int)
abbrev M_Mo_baseSegments : MethodName × ByteArray × Nat × Option FieldType := (⟨"NetDeskModel", "baseSegments", "(IZ)V"⟩, prog_13_method_23_code, 6, none)
abbrev M_Mo_queryAt : MethodName × ByteArray × Nat × Option FieldType := (⟨"NetDeskModel", "queryAt", "(I)I"⟩, prog_13_method_16_code, 3, some .int)
abbrev M_Mo_query : MethodName × ByteArray × Nat × Option FieldType := (⟨"NetDeskModel", "query", "([BIIZ)Z"⟩, prog_13_method_25_code, 7, some .boolean)
abbrev M_Mo_isQuery : MethodName × ByteArray × Nat × Option FieldType := (⟨"NetDeskModel", "isQuery", "(I)Z"⟩, prog_13_method_19_code, 1, some .boolean)
abbrev M_Mo_copyRow : MethodName × ByteArray × Nat × Option FieldType := (⟨"NetDeskModel", "copyRow", "(II)V"⟩, prog_13_method_12_code, 4, none)
abbrev M_Mo_field : MethodName × ByteArray × Nat × Option FieldType := (⟨"NetDeskModel", "field", "(II)Z"⟩, prog_13_method_28_code, 8, some .boolean)
abbrev M_Mo_isWord : MethodName × ByteArray × Nat × Option FieldType := (⟨"NetDeskModel", "isWord", "([BIIJ)Z"⟩, prog_13_method_10_code, 8, some .boolean)
abbrev M_Mo_alike : MethodName × ByteArray × Nat × Option FieldType := (⟨"NetDeskModel", "alike", "(II)Z"⟩, prog_13_method_13_code, 3, some .boolean)
abbrev M_Mo_same : MethodName × ByteArray × Nat × Option FieldType := (⟨"NetDeskModel", "same", "([BI[BII)Z"⟩, prog_13_method_9_code, 6, some .boolean)
abbrev M_Mo_init : MethodName × ByteArray × Nat × Option FieldType := (⟨"NetDeskModel", "<init>", "()V"⟩, prog_13_method_36_code, 1, none)
abbrev M_Mo_feed : MethodName × ByteArray × Nat × Option FieldType := (⟨"NetDeskModel", "feed", "(IIIII)I"⟩, prog_13_method_38_code, 6, some .int)
abbrev M_Mo_putFour : MethodName × ByteArray × Nat × Option FieldType := (⟨"NetDeskModel", "putFour", "(I)V"⟩, prog_13_method_37_code, 3, none)
abbrev M_Mo_end : MethodName × ByteArray × Nat × Option FieldType := (⟨"NetDeskModel", "end", "(I)I"⟩, prog_13_method_39_code, 2, some .int)
abbrev M_Mo_out : MethodName × ByteArray × Nat × Option FieldType := (⟨"NetDeskModel", "out", "(I)I"⟩, prog_13_method_40_code, 2, some .int)
abbrev M_Mo_resolve : MethodName × ByteArray × Nat × Option FieldType := (⟨"NetDeskModel", "resolve", "()I"⟩, prog_13_method_41_code, 2, some .int)
abbrev M_Mo_sayRow : MethodName × ByteArray × Nat × Option FieldType := (⟨"NetDeskModel", "sayRow", "(I)V"⟩, prog_13_method_26_code, 2, none)
abbrev M_Mo_sayAll : MethodName × ByteArray × Nat × Option FieldType := (⟨"NetDeskModel", "sayAll", "([BII)V"⟩, prog_13_method_2_code, 5, none)
abbrev M_Mo_say : MethodName × ByteArray × Nat × Option FieldType := (⟨"NetDeskModel", "say", "(I)V"⟩, prog_13_method_1_code, 2, none)
abbrev M_Mo_base : MethodName × ByteArray × Nat × Option FieldType := (⟨"NetDeskModel", "base", "()I"⟩, prog_13_method_42_code, 2, some .int)
abbrev M_Mo_fetch : MethodName × ByteArray × Nat × Option FieldType := (⟨"NetDeskModel", "fetch", "()I"⟩, prog_13_method_43_code, 3, some .int)
abbrev M_Mo_fetchIt : MethodName × ByteArray × Nat × Option FieldType := (⟨"NetDeskModel", "fetchIt", "()V"⟩, prog_13_method_34_code, 4, none)
abbrev M_Mo_ask : MethodName × ByteArray × Nat × Option FieldType := (⟨"NetDeskModel", "ask", "()V"⟩, prog_13_method_35_code, 2, none)
abbrev M_Mo_tellCookies : MethodName × ByteArray × Nat × Option FieldType := (⟨"NetDeskModel", "tellCookies", "()V"⟩, prog_13_method_32_code, 4, none)
abbrev M_Mo_send : MethodName × ByteArray × Nat × Option FieldType := (⟨"NetDeskModel", "send", "(I)V"⟩, prog_13_method_31_code, 2, none)
abbrev M_Mo_dropCookie : MethodName × ByteArray × Nat × Option FieldType := (⟨"NetDeskModel", "dropCookie", "(I)V"⟩, prog_13_method_30_code, 5, none)
abbrev M_Mo_keep : MethodName × ByteArray × Nat × Option FieldType := (⟨"NetDeskModel", "keep", "(I)V"⟩, prog_13_method_33_code, 5, none)
abbrev M_Mo_body : MethodName × ByteArray × Nat × Option FieldType := (⟨"NetDeskModel", "body", "(I)I"⟩, prog_13_method_44_code, 2, some .int)
abbrev M_Mo_tick : MethodName × ByteArray × Nat × Option FieldType := (⟨"NetDeskModel", "tick", "(I)I"⟩, prog_13_method_45_code, 2, some .int)
abbrev M_Mo_forget : MethodName × ByteArray × Nat × Option FieldType := (⟨"NetDeskModel", "forget", "()I"⟩, prog_13_method_46_code, 7, some .int)
abbrev M_Mo_write : MethodName × ByteArray × Nat × Option FieldType := (⟨"NetDeskModel", "write", "(I)I"⟩, prog_13_method_47_code, 2, some .int)
abbrev M_Mo_count : MethodName × ByteArray × Nat × Option FieldType := (⟨"NetDeskModel", "count", "(I)I"⟩, prog_13_method_48_code, 2, some .int)
end
section
theorem zkb_10 : (Int8.ofInt 10).toInt32 = 10 := by decide +kernel
theorem zkb_101 : (Int8.ofInt 101).toInt32 = 101 := by decide +kernel
theorem zkb_104 : (Int8.ofInt 104).toInt32 = 104 := by decide +kernel
theorem zkb_108 : (Int8.ofInt 108).toInt32 = 108 := by decide +kernel
theorem zkb_109 : (Int8.ofInt 109).toInt32 = 109 := by decide +kernel
theorem zkb_110 : (Int8.ofInt 110).toInt32 = 110 := by decide +kernel
theorem zkb_111 : (Int8.ofInt 111).toInt32 = 111 := by decide +kernel
theorem zkb_117 : (Int8.ofInt 117).toInt32 = 117 := by decide +kernel
theorem zkb_12 : (Int8.ofInt 12).toInt32 = 12 := by decide +kernel
theorem zkb_122 : (Int8.ofInt 122).toInt32 = 122 := by decide +kernel
theorem zkb_126 : (Int8.ofInt 126).toInt32 = 126 := by decide +kernel
theorem zkb_16 : (Int8.ofInt 16).toInt32 = 16 := by decide +kernel
theorem zkb_18 : (Int8.ofInt 18).toInt32 = 18 := by decide +kernel
theorem zkb_20 : (Int8.ofInt 20).toInt32 = 20 := by decide +kernel
theorem zkb_24 : (Int8.ofInt 24).toInt32 = 24 := by decide +kernel
theorem zkb_26 : (Int8.ofInt 26).toInt32 = 26 := by decide +kernel
theorem zkb_32 : (Int8.ofInt 32).toInt32 = 32 := by decide +kernel
theorem zkb_35 : (Int8.ofInt 35).toInt32 = 35 := by decide +kernel
theorem zkb_38 : (Int8.ofInt 38).toInt32 = 38 := by decide +kernel
theorem zkb_40 : (Int8.ofInt 40).toInt32 = 40 := by decide +kernel
theorem zkb_41 : (Int8.ofInt 41).toInt32 = 41 := by decide +kernel
theorem zkb_43 : (Int8.ofInt 43).toInt32 = 43 := by decide +kernel
theorem zkb_45 : (Int8.ofInt 45).toInt32 = 45 := by decide +kernel
theorem zkb_46 : (Int8.ofInt 46).toInt32 = 46 := by decide +kernel
theorem zkb_47 : (Int8.ofInt 47).toInt32 = 47 := by decide +kernel
theorem zkb_48 : (Int8.ofInt 48).toInt32 = 48 := by decide +kernel
theorem zkb_57 : (Int8.ofInt 57).toInt32 = 57 := by decide +kernel
theorem zkb_58 : (Int8.ofInt 58).toInt32 = 58 := by decide +kernel
theorem zkb_59 : (Int8.ofInt 59).toInt32 = 59 := by decide +kernel
theorem zkb_6 : (Int8.ofInt 6).toInt32 = 6 := by decide +kernel
theorem zkb_61 : (Int8.ofInt 61).toInt32 = 61 := by decide +kernel
theorem zkb_63 : (Int8.ofInt 63).toInt32 = 63 := by decide +kernel
theorem zkb_66 : (Int8.ofInt 66).toInt32 = 66 := by decide +kernel
theorem zkb_7 : (Int8.ofInt 7).toInt32 = 7 := by decide +kernel
theorem zkb_8 : (Int8.ofInt 8).toInt32 = 8 := by decide +kernel
theorem zkb_95 : (Int8.ofInt 95).toInt32 = 95 := by decide +kernel
theorem zkb_96 : (Int8.ofInt 96).toInt32 = 96 := by decide +kernel
theorem zkb_97 : (Int8.ofInt 97).toInt32 = 97 := by decide +kernel
theorem zki_0 : Int32.ofInt 0 = 0 := by decide +kernel
theorem zki_1 : Int32.ofInt 1 = 1 := by decide +kernel
theorem zki_2 : Int32.ofInt 2 = 2 := by decide +kernel
theorem zki_3 : Int32.ofInt 3 = 3 := by decide +kernel
theorem zki_4 : Int32.ofInt 4 = 4 := by decide +kernel
theorem zki_5 : Int32.ofInt 5 = 5 := by decide +kernel
theorem zki_m1 : Int32.ofInt (-1) = (-1) := by decide +kernel
theorem zki_m8 : Int32.ofInt (-8) = (-8) := by decide +kernel
theorem zks_1000 : (Int16.ofInt 1000).toInt32 = 1000 := by decide +kernel
theorem zks_135 : (Int16.ofInt 135).toInt32 = 135 := by decide +kernel
theorem zks_150 : (Int16.ofInt 150).toInt32 = 150 := by decide +kernel
theorem zks_1500 : (Int16.ofInt 1500).toInt32 = 1500 := by decide +kernel
theorem zks_192 : (Int16.ofInt 192).toInt32 = 192 := by decide +kernel
theorem zks_1980 : (Int16.ofInt 1980).toInt32 = 1980 := by decide +kernel
theorem zks_2000 : (Int16.ofInt 2000).toInt32 = 2000 := by decide +kernel
theorem zks_2100 : (Int16.ofInt 2100).toInt32 = 2100 := by decide +kernel
theorem zks_2200 : (Int16.ofInt 2200).toInt32 = 2200 := by decide +kernel
theorem zks_255 : (Int16.ofInt 255).toInt32 = 255 := by decide +kernel
theorem zks_30000 : (Int16.ofInt 30000).toInt32 = 30000 := by decide +kernel
theorem zks_400 : (Int16.ofInt 400).toInt32 = 400 := by decide +kernel
theorem zks_4035 : (Int16.ofInt 4035).toInt32 = 4035 := by decide +kernel
theorem zks_480 : (Int16.ofInt 480).toInt32 = 480 := by decide +kernel
theorem zks_585 : (Int16.ofInt 585).toInt32 = 585 := by decide +kernel
theorem zks_602 : (Int16.ofInt 602).toInt32 = 602 := by decide +kernel
theorem zks_750 : (Int16.ofInt 750).toInt32 = 750 := by decide +kernel
theorem zks_751 : (Int16.ofInt 751).toInt32 = 751 := by decide +kernel
theorem zks_752 : (Int16.ofInt 752).toInt32 = 752 := by decide +kernel
theorem zks_753 : (Int16.ofInt 753).toInt32 = 753 := by decide +kernel
theorem zks_754 : (Int16.ofInt 754).toInt32 = 754 := by decide +kernel
theorem zks_755 : (Int16.ofInt 755).toInt32 = 755 := by decide +kernel
theorem zks_756 : (Int16.ofInt 756).toInt32 = 756 := by decide +kernel
theorem zks_8000 : (Int16.ofInt 8000).toInt32 = 8000 := by decide +kernel
theorem zks_9900 : (Int16.ofInt 9900).toInt32 = 9900 := by decide +kernel
theorem zks_m1000 : (Int16.ofInt (-1000)).toInt32 = (-1000) := by decide +kernel
theorem zc_N_init : zCl M_N_init 0 := ⟨zt1 32 rfl, zt1 1 rfl, ⟨by decide +kernel, by decide +kernel⟩, by decide +kernel, Nat.le_of_ble_eq_true rfl⟩
theorem zc_Sb_init : zCl M_Sb_init 0 := ⟨zt1 40 rfl, zt1 3 rfl, ⟨by decide +kernel, by decide +kernel⟩, by decide +kernel, Nat.le_of_ble_eq_true rfl⟩
theorem zc_Ab_init : zCl M_Ab_init 1 := ⟨zt1 43 rfl, zt1 2 rfl, ⟨by decide +kernel, by decide +kernel⟩, by decide +kernel, Nat.le_of_ble_eq_true rfl⟩
theorem zc_U16_newBytesFor : zCl M_U16_newBytesFor 1 := ⟨zt1 49 rfl, zt1 5 rfl, ⟨by decide +kernel, by decide +kernel⟩, by decide +kernel, Nat.le_of_ble_eq_true rfl⟩
theorem zc_U16_newBytesLength : zCl M_U16_newBytesLength 1 := ⟨zt1 52 rfl, zt1 5 rfl, ⟨by decide +kernel, by decide +kernel⟩, by decide +kernel, Nat.le_of_ble_eq_true rfl⟩
theorem zc_Ad_init : zCl M_Ad_init 4 := ⟨zt1 76 rfl, zt1 6 rfl, ⟨by decide +kernel, by decide +kernel⟩, by decide +kernel, Nat.le_of_ble_eq_true rfl⟩
theorem zc_Fl_init : zCl M_Fl_init 0 := ⟨zt1 101 rfl, zt1 8 rfl, ⟨by decide +kernel, by decide +kernel⟩, by decide +kernel, Nat.le_of_ble_eq_true rfl⟩
theorem zc_An_init : zCl M_An_init 3 := ⟨zt1 130 rfl, zt1 7 rfl, ⟨by decide +kernel, by decide +kernel⟩, by decide +kernel, Nat.le_of_ble_eq_true rfl⟩
theorem zc_Al_init : zCl M_Al_init 0 := ⟨zt1 166 rfl, zt1 11 rfl, ⟨by decide +kernel, by decide +kernel⟩, by decide +kernel, Nat.le_of_ble_eq_true rfl⟩
theorem zc_AL_init : zCl M_AL_init 0 := ⟨zt1 169 rfl, zt1 10 rfl, ⟨by decide +kernel, by decide +kernel⟩, by decide +kernel, Nat.le_of_ble_eq_true rfl⟩
theorem zc_AC_init : zCl M_AC_init 0 := ⟨zt1 172 rfl, zt1 9 rfl, ⟨by decide +kernel, by decide +kernel⟩, by decide +kernel, Nat.le_of_ble_eq_true rfl⟩
theorem zc_Jr_init : zCl M_Jr_init 0 := ⟨zt1 192 rfl, zt1 12 rfl, ⟨by decide +kernel, by decide +kernel⟩, by decide +kernel, Nat.le_of_ble_eq_true rfl⟩
theorem zc_Kp_init : zCl M_Kp_init 0 := ⟨zt1 204 rfl, zt1 13 rfl, ⟨by decide +kernel, by decide +kernel⟩, by decide +kernel, Nat.le_of_ble_eq_true rfl⟩
theorem zc_N_feed : zCl M_N_feed 5 := ⟨zt2 27 rfl, zt1 1 rfl, ⟨by decide +kernel, by decide +kernel⟩, by decide +kernel, Nat.le_of_ble_eq_true rfl⟩
theorem zc_Sb_length : zCl M_Sb_length 0 := ⟨zt2 31 rfl, zt1 3 rfl, ⟨by decide +kernel, by decide +kernel⟩, by decide +kernel, Nat.le_of_ble_eq_true rfl⟩
theorem zc_Ab_length : zCl M_Ab_length 0 := ⟨zt2 34 rfl, zt1 2 rfl, ⟨by decide +kernel, by decide +kernel⟩, by decide +kernel, Nat.le_of_ble_eq_true rfl⟩
theorem zc_N_addWord : zCl M_N_addWord 1 := ⟨zt2 38 rfl, zt1 1 rfl, ⟨by decide +kernel, by decide +kernel⟩, by decide +kernel, Nat.le_of_ble_eq_true rfl⟩
theorem zc_Sb_append_0 : zCl M_Sb_append_0 1 := ⟨zt2 42 rfl, zt1 3 rfl, ⟨by decide +kernel, by decide +kernel⟩, by decide +kernel, Nat.le_of_ble_eq_true rfl⟩
theorem zc_Ab_append_0 : zCl M_Ab_append_0 1 := ⟨zt2 45 rfl, zt1 2 rfl, ⟨by decide +kernel, by decide +kernel⟩, by decide +kernel, Nat.le_of_ble_eq_true rfl⟩
theorem zc_Ab_ensureCapacityInternal : zCl M_Ab_ensureCapacityInternal 1 := ⟨zt2 49 rfl, zt1 2 rfl, ⟨by decide +kernel, by decide +kernel⟩, by decide +kernel, Nat.le_of_ble_eq_true rfl⟩
theorem zc_Ab_newCapacity : zCl M_Ab_newCapacity 1 := ⟨zt2 53 rfl, zt1 2 rfl, ⟨by decide +kernel, by decide +kernel⟩, by decide +kernel, Nat.le_of_ble_eq_true rfl⟩
theorem zc_AS_newLength : zCl M_AS_newLength 3 := ⟨zt2 56 rfl, zt1 15 rfl, ⟨by decide +kernel, by decide +kernel⟩, by decide +kernel, Nat.le_of_ble_eq_true rfl⟩
theorem zc_Ma_max : zCl M_Ma_max 2 := ⟨zt2 59 rfl, zt1 16 rfl, ⟨by decide +kernel, by decide +kernel⟩, by decide +kernel, Nat.le_of_ble_eq_true rfl⟩
theorem zc_AS_hugeLength : zCl M_AS_hugeLength 2 := ⟨zt2 63 rfl, zt1 15 rfl, ⟨by decide +kernel, by decide +kernel⟩, by decide +kernel, Nat.le_of_ble_eq_true rfl⟩
theorem zc_Ar_copyOf_0 : zCl M_Ar_copyOf_0 2 := ⟨zt2 67 rfl, zt1 17 rfl, ⟨by decide +kernel, by decide +kernel⟩, by decide +kernel, Nat.le_of_ble_eq_true rfl⟩
theorem zc_Ma_min : zCl M_Ma_min 2 := ⟨zt2 77 rfl, zt1 16 rfl, ⟨by decide +kernel, by decide +kernel⟩, by decide +kernel, Nat.le_of_ble_eq_true rfl⟩
theorem zc_Ab_isLatin1 : zCl M_Ab_isLatin1 0 := ⟨zt2 85 rfl, zt1 2 rfl, ⟨by decide +kernel, by decide +kernel⟩, by decide +kernel, Nat.le_of_ble_eq_true rfl⟩
theorem zc_L1_canEncode_0 : zCl M_L1_canEncode_0 1 := ⟨zt2 88 rfl, zt1 19 rfl, ⟨by decide +kernel, by decide +kernel⟩, by decide +kernel, Nat.le_of_ble_eq_true rfl⟩
theorem zc_Ab_inflate : zCl M_Ab_inflate 0 := ⟨zt2 92 rfl, zt1 2 rfl, ⟨by decide +kernel, by decide +kernel⟩, by decide +kernel, Nat.le_of_ble_eq_true rfl⟩
theorem zc_L1_inflate : zCl M_L1_inflate 5 := ⟨zt2 95 rfl, zt1 19 rfl, ⟨by decide +kernel, by decide +kernel⟩, by decide +kernel, Nat.le_of_ble_eq_true rfl⟩
theorem zc_U16_inflate : zCl M_U16_inflate 5 := ⟨zt2 98 rfl, zt1 5 rfl, ⟨by decide +kernel, by decide +kernel⟩, by decide +kernel, Nat.le_of_ble_eq_true rfl⟩
theorem zc_U16_checkBoundsOffCount : zCl M_U16_checkBoundsOffCount 3 := ⟨zt2 101 rfl, zt1 5 rfl, ⟨by decide +kernel, by decide +kernel⟩, by decide +kernel, Nat.le_of_ble_eq_true rfl⟩
theorem zc_U16_length : zCl M_U16_length 1 := ⟨zt2 104 rfl, zt1 5 rfl, ⟨by decide +kernel, by decide +kernel⟩, by decide +kernel, Nat.le_of_ble_eq_true rfl⟩
theorem zc_St_checkBoundsOffCount : zCl M_St_checkBoundsOffCount 3 := ⟨zt2 107 rfl, zt1 4 rfl, ⟨by decide +kernel, by decide +kernel⟩, by decide +kernel, Nat.le_of_ble_eq_true rfl⟩
theorem zc_Pc_checkFromIndexSize : zCl M_Pc_checkFromIndexSize 4 := ⟨zt2 112 rfl, zt1 20 rfl, ⟨by decide +kernel, by decide +kernel⟩, by decide +kernel, Nat.le_of_ble_eq_true rfl⟩
theorem zc_U16_putChar : zCl M_U16_putChar 3 := ⟨zt2 115 rfl, zt1 5 rfl, ⟨by decide +kernel, by decide +kernel⟩, by decide +kernel, Nat.le_of_ble_eq_true rfl⟩
theorem zc_U16_putCharSB : zCl M_U16_putCharSB 3 := ⟨zt2 124 rfl, zt1 5 rfl, ⟨by decide +kernel, by decide +kernel⟩, by decide +kernel, Nat.le_of_ble_eq_true rfl⟩
theorem zc_U16_checkIndex : zCl M_U16_checkIndex 2 := ⟨zt2 127 rfl, zt1 5 rfl, ⟨by decide +kernel, by decide +kernel⟩, by decide +kernel, Nat.le_of_ble_eq_true rfl⟩
theorem zc_St_checkIndex : zCl M_St_checkIndex 2 := ⟨zt2 130 rfl, zt1 4 rfl, ⟨by decide +kernel, by decide +kernel⟩, by decide +kernel, Nat.le_of_ble_eq_true rfl⟩
theorem zc_Pc_checkIndex : zCl M_Pc_checkIndex 3 := ⟨zt2 133 rfl, zt1 20 rfl, ⟨by decide +kernel, by decide +kernel⟩, by decide +kernel, Nat.le_of_ble_eq_true rfl⟩
theorem zc_N_end : zCl M_N_end 1 := ⟨zt2 137 rfl, zt1 1 rfl, ⟨by decide +kernel, by decide +kernel⟩, by decide +kernel, Nat.le_of_ble_eq_true rfl⟩
theorem zc_Sb_setLength : zCl M_Sb_setLength 1 := ⟨zt2 141 rfl, zt1 3 rfl, ⟨by decide +kernel, by decide +kernel⟩, by decide +kernel, Nat.le_of_ble_eq_true rfl⟩
theorem zc_Ab_setLength : zCl M_Ab_setLength 1 := ⟨zt2 144 rfl, zt1 2 rfl, ⟨by decide +kernel, by decide +kernel⟩, by decide +kernel, Nat.le_of_ble_eq_true rfl⟩
theorem zc_L1_fillNull : zCl M_L1_fillNull 3 := ⟨zt2 147 rfl, zt1 19 rfl, ⟨by decide +kernel, by decide +kernel⟩, by decide +kernel, Nat.le_of_ble_eq_true rfl⟩
theorem zc_Ar_fill : zCl M_Ar_fill 4 := ⟨zt2 150 rfl, zt1 17 rfl, ⟨by decide +kernel, by decide +kernel⟩, by decide +kernel, Nat.le_of_ble_eq_true rfl⟩
theorem zc_Ar_rangeCheck : zCl M_Ar_rangeCheck 3 := ⟨zt2 153 rfl, zt1 17 rfl, ⟨by decide +kernel, by decide +kernel⟩, by decide +kernel, Nat.le_of_ble_eq_true rfl⟩
theorem zc_U16_fillNull : zCl M_U16_fillNull 3 := ⟨zt2 156 rfl, zt1 5 rfl, ⟨by decide +kernel, by decide +kernel⟩, by decide +kernel, Nat.le_of_ble_eq_true rfl⟩
theorem zc_N_out : zCl M_N_out 1 := ⟨zt2 161 rfl, zt1 1 rfl, ⟨by decide +kernel, by decide +kernel⟩, by decide +kernel, Nat.le_of_ble_eq_true rfl⟩
theorem zc_Sb_charAt : zCl M_Sb_charAt 1 := ⟨zt2 165 rfl, zt1 3 rfl, ⟨by decide +kernel, by decide +kernel⟩, by decide +kernel, Nat.le_of_ble_eq_true rfl⟩
theorem zc_Ab_charAt : zCl M_Ab_charAt 1 := ⟨zt2 168 rfl, zt1 2 rfl, ⟨by decide +kernel, by decide +kernel⟩, by decide +kernel, Nat.le_of_ble_eq_true rfl⟩
theorem zc_U16_getChar : zCl M_U16_getChar 2 := ⟨zt2 173 rfl, zt1 5 rfl, ⟨by decide +kernel, by decide +kernel⟩, by decide +kernel, Nat.le_of_ble_eq_true rfl⟩
theorem zc_N_resolve : zCl M_N_resolve 0 := ⟨zt2 177 rfl, zt1 1 rfl, ⟨by decide +kernel, by decide +kernel⟩, by decide +kernel, Nat.le_of_ble_eq_true rfl⟩
theorem zc_N_takeText : zCl M_N_takeText 0 := ⟨zt2 181 rfl, zt1 1 rfl, ⟨by decide +kernel, by decide +kernel⟩, by decide +kernel, Nat.le_of_ble_eq_true rfl⟩
theorem zc_Sb_toString : zCl M_Sb_toString 0 := ⟨zt2 185 rfl, zt1 3 rfl, ⟨by decide +kernel, by decide +kernel⟩, by decide +kernel, Nat.le_of_ble_eq_true rfl⟩
theorem zc_St_init_0 : zCl M_St_init_0 1 := ⟨zt2 190 rfl, zt1 4 rfl, ⟨by decide +kernel, by decide +kernel⟩, by decide +kernel, Nat.le_of_ble_eq_true rfl⟩
theorem zc_St_init_1 : zCl M_St_init_1 2 := ⟨zt2 193 rfl, zt1 4 rfl, ⟨by decide +kernel, by decide +kernel⟩, by decide +kernel, Nat.le_of_ble_eq_true rfl⟩
theorem zc_Ab_getValue : zCl M_Ab_getValue 0 := ⟨zt2 199 rfl, zt1 2 rfl, ⟨by decide +kernel, by decide +kernel⟩, by decide +kernel, Nat.le_of_ble_eq_true rfl⟩
theorem zc_Ar_copyOfRange : zCl M_Ar_copyOfRange 3 := ⟨zt2 204 rfl, zt1 17 rfl, ⟨by decide +kernel, by decide +kernel⟩, by decide +kernel, Nat.le_of_ble_eq_true rfl⟩
theorem zc_Ar_copyOfRangeByte : zCl M_Ar_copyOfRangeByte 3 := ⟨zt2 207 rfl, zt1 17 rfl, ⟨by decide +kernel, by decide +kernel⟩, by decide +kernel, Nat.le_of_ble_eq_true rfl⟩
theorem zc_Ar_checkLength : zCl M_Ar_checkLength 2 := ⟨zt2 210 rfl, zt1 17 rfl, ⟨by decide +kernel, by decide +kernel⟩, by decide +kernel, Nat.le_of_ble_eq_true rfl⟩
theorem zc_U16_compress_0 : zCl M_U16_compress_0 3 := ⟨zt2 214 rfl, zt1 5 rfl, ⟨by decide +kernel, by decide +kernel⟩, by decide +kernel, Nat.le_of_ble_eq_true rfl⟩
theorem zc_U16_compress_1 : zCl M_U16_compress_1 5 := ⟨zt2 217 rfl, zt1 5 rfl, ⟨by decide +kernel, by decide +kernel⟩, by decide +kernel, Nat.le_of_ble_eq_true rfl⟩
theorem zc_U16_coderFromArrayLen : zCl M_U16_coderFromArrayLen 2 := ⟨zt2 222 rfl, zt1 5 rfl, ⟨by decide +kernel, by decide +kernel⟩, by decide +kernel, Nat.le_of_ble_eq_true rfl⟩
theorem zc_Tx_badByte : zCl M_Tx_badByte 1 := ⟨zt2 236 rfl, zt1 21 rfl, ⟨by decide +kernel, by decide +kernel⟩, by decide +kernel, Nat.le_of_ble_eq_true rfl⟩
theorem zc_St_length : zCl M_St_length 0 := ⟨zt3 0 rfl, zt1 4 rfl, ⟨by decide +kernel, by decide +kernel⟩, by decide +kernel, Nat.le_of_ble_eq_true rfl⟩
theorem zc_St_coder : zCl M_St_coder 0 := ⟨zt3 4 rfl, zt1 4 rfl, ⟨by decide +kernel, by decide +kernel⟩, by decide +kernel, Nat.le_of_ble_eq_true rfl⟩
theorem zc_St_charAt : zCl M_St_charAt 1 := ⟨zt3 8 rfl, zt1 4 rfl, ⟨by decide +kernel, by decide +kernel⟩, by decide +kernel, Nat.le_of_ble_eq_true rfl⟩
theorem zc_St_isLatin1 : zCl M_St_isLatin1 0 := ⟨zt3 12 rfl, zt1 4 rfl, ⟨by decide +kernel, by decide +kernel⟩, by decide +kernel, Nat.le_of_ble_eq_true rfl⟩
theorem zc_L1_charAt : zCl M_L1_charAt 2 := ⟨zt3 15 rfl, zt1 19 rfl, ⟨by decide +kernel, by decide +kernel⟩, by decide +kernel, Nat.le_of_ble_eq_true rfl⟩
theorem zc_U16_charAt : zCl M_U16_charAt 2 := ⟨zt3 19 rfl, zt1 5 rfl, ⟨by decide +kernel, by decide +kernel⟩, by decide +kernel, Nat.le_of_ble_eq_true rfl⟩
theorem zc_Ad_read : zCl M_Ad_read 2 := ⟨zt3 22 rfl, zt1 6 rfl, ⟨by decide +kernel, by decide +kernel⟩, by decide +kernel, Nat.le_of_ble_eq_true rfl⟩
theorem zc_Ad_placeOrLength : zCl M_Ad_placeOrLength 2 := ⟨zt3 25 rfl, zt1 6 rfl, ⟨by decide +kernel, by decide +kernel⟩, by decide +kernel, Nat.le_of_ble_eq_true rfl⟩
theorem zc_St_indexOf_0 : zCl M_St_indexOf_0 1 := ⟨zt3 29 rfl, zt1 4 rfl, ⟨by decide +kernel, by decide +kernel⟩, by decide +kernel, Nat.le_of_ble_eq_true rfl⟩
theorem zc_St_indexOf_1 : zCl M_St_indexOf_1 2 := ⟨zt3 33 rfl, zt1 4 rfl, ⟨by decide +kernel, by decide +kernel⟩, by decide +kernel, Nat.le_of_ble_eq_true rfl⟩
theorem zc_L1_indexOf : zCl M_L1_indexOf 4 := ⟨zt3 37 rfl, zt1 19 rfl, ⟨by decide +kernel, by decide +kernel⟩, by decide +kernel, Nat.le_of_ble_eq_true rfl⟩
theorem zc_L1_canEncode_1 : zCl M_L1_canEncode_1 1 := ⟨zt3 40 rfl, zt1 19 rfl, ⟨by decide +kernel, by decide +kernel⟩, by decide +kernel, Nat.le_of_ble_eq_true rfl⟩
theorem zc_L1_indexOfChar : zCl M_L1_indexOfChar 4 := ⟨zt3 45 rfl, zt1 19 rfl, ⟨by decide +kernel, by decide +kernel⟩, by decide +kernel, Nat.le_of_ble_eq_true rfl⟩
theorem zc_U16_indexOf : zCl M_U16_indexOf 4 := ⟨zt3 48 rfl, zt1 5 rfl, ⟨by decide +kernel, by decide +kernel⟩, by decide +kernel, Nat.le_of_ble_eq_true rfl⟩
theorem zc_U16_indexOfChar : zCl M_U16_indexOfChar 4 := ⟨zt3 54 rfl, zt1 5 rfl, ⟨by decide +kernel, by decide +kernel⟩, by decide +kernel, Nat.le_of_ble_eq_true rfl⟩
theorem zc_U16_checkBoundsBeginEnd : zCl M_U16_checkBoundsBeginEnd 3 := ⟨zt3 57 rfl, zt1 5 rfl, ⟨by decide +kernel, by decide +kernel⟩, by decide +kernel, Nat.le_of_ble_eq_true rfl⟩
theorem zc_St_checkBoundsBeginEnd : zCl M_St_checkBoundsBeginEnd 3 := ⟨zt3 60 rfl, zt1 4 rfl, ⟨by decide +kernel, by decide +kernel⟩, by decide +kernel, Nat.le_of_ble_eq_true rfl⟩
theorem zc_Pc_checkFromToIndex : zCl M_Pc_checkFromToIndex 4 := ⟨zt3 63 rfl, zt1 20 rfl, ⟨by decide +kernel, by decide +kernel⟩, by decide +kernel, Nat.le_of_ble_eq_true rfl⟩
theorem zc_U16_indexOfCharUnsafe : zCl M_U16_indexOfCharUnsafe 4 := ⟨zt3 66 rfl, zt1 5 rfl, ⟨by decide +kernel, by decide +kernel⟩, by decide +kernel, Nat.le_of_ble_eq_true rfl⟩
theorem zc_U16_indexOfSupplementary : zCl M_U16_indexOfSupplementary 4 := ⟨zt3 69 rfl, zt1 5 rfl, ⟨by decide +kernel, by decide +kernel⟩, by decide +kernel, Nat.le_of_ble_eq_true rfl⟩
theorem zc_Ch_isValidCodePoint : zCl M_Ch_isValidCodePoint 1 := ⟨zt3 72 rfl, zt1 22 rfl, ⟨by decide +kernel, by decide +kernel⟩, by decide +kernel, Nat.le_of_ble_eq_true rfl⟩
theorem zc_Ch_highSurrogate : zCl M_Ch_highSurrogate 1 := ⟨zt3 75 rfl, zt1 22 rfl, ⟨by decide +kernel, by decide +kernel⟩, by decide +kernel, Nat.le_of_ble_eq_true rfl⟩
theorem zc_Ch_lowSurrogate : zCl M_Ch_lowSurrogate 1 := ⟨zt3 79 rfl, zt1 22 rfl, ⟨by decide +kernel, by decide +kernel⟩, by decide +kernel, Nat.le_of_ble_eq_true rfl⟩
theorem zc_St_substring_0 : zCl M_St_substring_0 2 := ⟨zt3 86 rfl, zt1 4 rfl, ⟨by decide +kernel, by decide +kernel⟩, by decide +kernel, Nat.le_of_ble_eq_true rfl⟩
theorem zc_L1_newString : zCl M_L1_newString 3 := ⟨zt3 90 rfl, zt1 19 rfl, ⟨by decide +kernel, by decide +kernel⟩, by decide +kernel, Nat.le_of_ble_eq_true rfl⟩
theorem zc_St_init_2 : zCl M_St_init_2 2 := ⟨zt3 96 rfl, zt1 4 rfl, ⟨by decide +kernel, by decide +kernel⟩, by decide +kernel, Nat.le_of_ble_eq_true rfl⟩
theorem zc_U16_newString : zCl M_U16_newString 3 := ⟨zt3 99 rfl, zt1 5 rfl, ⟨by decide +kernel, by decide +kernel⟩, by decide +kernel, Nat.le_of_ble_eq_true rfl⟩
theorem zc_St_substring_1 : zCl M_St_substring_1 1 := ⟨zt3 109 rfl, zt1 4 rfl, ⟨by decide +kernel, by decide +kernel⟩, by decide +kernel, Nat.le_of_ble_eq_true rfl⟩
theorem zc_Ad_isQuery : zCl M_Ad_isQuery 1 := ⟨zt3 113 rfl, zt1 6 rfl, ⟨by decide +kernel, by decide +kernel⟩, by decide +kernel, Nat.le_of_ble_eq_true rfl⟩
theorem zc_St_isEmpty : zCl M_St_isEmpty 0 := ⟨zt3 117 rfl, zt1 4 rfl, ⟨by decide +kernel, by decide +kernel⟩, by decide +kernel, Nat.le_of_ble_eq_true rfl⟩
theorem zc_Tx_hasOnly : zCl M_Tx_hasOnly 2 := ⟨zt3 121 rfl, zt1 21 rfl, ⟨by decide +kernel, by decide +kernel⟩, by decide +kernel, Nat.le_of_ble_eq_true rfl⟩
theorem zc_Tx_isSmallLetter : zCl M_Tx_isSmallLetter 1 := ⟨zt3 124 rfl, zt1 21 rfl, ⟨by decide +kernel, by decide +kernel⟩, by decide +kernel, Nat.le_of_ble_eq_true rfl⟩
theorem zc_Tx_isDigit : zCl M_Tx_isDigit 1 := ⟨zt3 127 rfl, zt1 21 rfl, ⟨by decide +kernel, by decide +kernel⟩, by decide +kernel, Nat.le_of_ble_eq_true rfl⟩
theorem zc_Tx_isName : zCl M_Tx_isName 1 := ⟨zt3 131 rfl, zt1 21 rfl, ⟨by decide +kernel, by decide +kernel⟩, by decide +kernel, Nat.le_of_ble_eq_true rfl⟩
theorem zc_Tx_noNameAt : zCl M_Tx_noNameAt 1 := ⟨zt3 134 rfl, zt1 21 rfl, ⟨by decide +kernel, by decide +kernel⟩, by decide +kernel, Nat.le_of_ble_eq_true rfl⟩
theorem zc_Pt_init : zCl M_Pt_init 0 := ⟨zt3 142 rfl, zt1 23 rfl, ⟨by decide +kernel, by decide +kernel⟩, by decide +kernel, Nat.le_of_ble_eq_true rfl⟩
theorem zc_Tx_begins : zCl M_Tx_begins 2 := ⟨zt3 157 rfl, zt1 21 rfl, ⟨by decide +kernel, by decide +kernel⟩, by decide +kernel, Nat.le_of_ble_eq_true rfl⟩
theorem zc_St_equals : zCl M_St_equals 1 := ⟨zt3 162 rfl, zt1 4 rfl, ⟨by decide +kernel, by decide +kernel⟩, by decide +kernel, Nat.le_of_ble_eq_true rfl⟩
theorem zc_L1_equals : zCl M_L1_equals 2 := ⟨zt3 166 rfl, zt1 19 rfl, ⟨by decide +kernel, by decide +kernel⟩, by decide +kernel, Nat.le_of_ble_eq_true rfl⟩
theorem zc_Pt_startBeside : zCl M_Pt_startBeside 1 := ⟨zt3 172 rfl, zt1 23 rfl, ⟨by decide +kernel, by decide +kernel⟩, by decide +kernel, Nat.le_of_ble_eq_true rfl⟩
theorem zc_Sb_append_1 : zCl M_Sb_append_1 1 := ⟨zt3 176 rfl, zt1 3 rfl, ⟨by decide +kernel, by decide +kernel⟩, by decide +kernel, Nat.le_of_ble_eq_true rfl⟩
theorem zc_Ab_append_1 : zCl M_Ab_append_1 1 := ⟨zt3 179 rfl, zt1 2 rfl, ⟨by decide +kernel, by decide +kernel⟩, by decide +kernel, Nat.le_of_ble_eq_true rfl⟩
theorem zc_Ab_appendNull : zCl M_Ab_appendNull 0 := ⟨zt3 183 rfl, zt1 2 rfl, ⟨by decide +kernel, by decide +kernel⟩, by decide +kernel, Nat.le_of_ble_eq_true rfl⟩
theorem zc_U16_putCharsAt : zCl M_U16_putCharsAt 6 := ⟨zt3 186 rfl, zt1 5 rfl, ⟨by decide +kernel, by decide +kernel⟩, by decide +kernel, Nat.le_of_ble_eq_true rfl⟩
theorem zc_Ab_putStringAt : zCl M_Ab_putStringAt 2 := ⟨zt3 191 rfl, zt1 2 rfl, ⟨by decide +kernel, by decide +kernel⟩, by decide +kernel, Nat.le_of_ble_eq_true rfl⟩
theorem zc_Ab_inflateIfNeededFor : zCl M_Ab_inflateIfNeededFor 1 := ⟨zt3 195 rfl, zt1 2 rfl, ⟨by decide +kernel, by decide +kernel⟩, by decide +kernel, Nat.le_of_ble_eq_true rfl⟩
theorem zc_St_getBytes : zCl M_St_getBytes 3 := ⟨zt3 200 rfl, zt1 4 rfl, ⟨by decide +kernel, by decide +kernel⟩, by decide +kernel, Nat.le_of_ble_eq_true rfl⟩
theorem zc_Ad_segments : zCl M_Ad_segments 0 := ⟨zt3 206 rfl, zt1 6 rfl, ⟨by decide +kernel, by decide +kernel⟩, by decide +kernel, Nat.le_of_ble_eq_true rfl⟩
theorem zc_Pt_pop : zCl M_Pt_pop 0 := ⟨zt3 211 rfl, zt1 23 rfl, ⟨by decide +kernel, by decide +kernel⟩, by decide +kernel, Nat.le_of_ble_eq_true rfl⟩
theorem zc_Pt_take : zCl M_Pt_take 1 := ⟨zt3 218 rfl, zt1 23 rfl, ⟨by decide +kernel, by decide +kernel⟩, by decide +kernel, Nat.le_of_ble_eq_true rfl⟩
theorem zc_Pt_takeOne : zCl M_Pt_takeOne 2 := ⟨zt3 227 rfl, zt1 23 rfl, ⟨by decide +kernel, by decide +kernel⟩, by decide +kernel, Nat.le_of_ble_eq_true rfl⟩
theorem zc_Pt_push : zCl M_Pt_push 1 := ⟨zt3 234 rfl, zt1 23 rfl, ⟨by decide +kernel, by decide +kernel⟩, by decide +kernel, Nat.le_of_ble_eq_true rfl⟩
theorem zc_N_writeAddress : zCl M_N_writeAddress 2 := ⟨zt4 1 rfl, zt1 1 rfl, ⟨by decide +kernel, by decide +kernel⟩, by decide +kernel, Nat.le_of_ble_eq_true rfl⟩
theorem zc_Ad_appendTo : zCl M_Ad_appendTo 1 := ⟨zt4 5 rfl, zt1 6 rfl, ⟨by decide +kernel, by decide +kernel⟩, by decide +kernel, Nat.le_of_ble_eq_true rfl⟩
theorem zc_N_base : zCl M_N_base 0 := ⟨zt4 11 rfl, zt1 1 rfl, ⟨by decide +kernel, by decide +kernel⟩, by decide +kernel, Nat.le_of_ble_eq_true rfl⟩
theorem zc_N_server : zCl M_N_server 0 := ⟨zt4 16 rfl, zt1 1 rfl, ⟨by decide +kernel, by decide +kernel⟩, by decide +kernel, Nat.le_of_ble_eq_true rfl⟩
theorem zc_Sv_init : zCl M_Sv_init 2 := ⟨zt4 21 rfl, zt1 24 rfl, ⟨by decide +kernel, by decide +kernel⟩, by decide +kernel, Nat.le_of_ble_eq_true rfl⟩
theorem zc_Sv_firstWrong : zCl M_Sv_firstWrong 0 := ⟨zt4 45 rfl, zt1 24 rfl, ⟨by decide +kernel, by decide +kernel⟩, by decide +kernel, Nat.le_of_ble_eq_true rfl⟩
theorem zc_Sv_takeAddress : zCl M_Sv_takeAddress 1 := ⟨zt4 53 rfl, zt1 24 rfl, ⟨by decide +kernel, by decide +kernel⟩, by decide +kernel, Nat.le_of_ble_eq_true rfl⟩
theorem zc_Fl_take : zCl M_Fl_take 2 := ⟨zt4 61 rfl, zt1 8 rfl, ⟨by decide +kernel, by decide +kernel⟩, by decide +kernel, Nat.le_of_ble_eq_true rfl⟩
theorem zc_Fl_takeAge : zCl M_Fl_takeAge 1 := ⟨zt4 70 rfl, zt1 8 rfl, ⟨by decide +kernel, by decide +kernel⟩, by decide +kernel, Nat.le_of_ble_eq_true rfl⟩
theorem zc_Tx_isNumber : zCl M_Tx_isNumber 1 := ⟨zt4 73 rfl, zt1 21 rfl, ⟨by decide +kernel, by decide +kernel⟩, by decide +kernel, Nat.le_of_ble_eq_true rfl⟩
theorem zc_Tx_number : zCl M_Tx_number 1 := ⟨zt4 76 rfl, zt1 21 rfl, ⟨by decide +kernel, by decide +kernel⟩, by decide +kernel, Nat.le_of_ble_eq_true rfl⟩
theorem zc_Fl_takeCookie : zCl M_Fl_takeCookie 1 := ⟨zt4 81 rfl, zt1 8 rfl, ⟨by decide +kernel, by decide +kernel⟩, by decide +kernel, Nat.le_of_ble_eq_true rfl⟩
theorem zc_N_placeOfAnswer : zCl M_N_placeOfAnswer 1 := ⟨zt4 92 rfl, zt1 1 rfl, ⟨by decide +kernel, by decide +kernel⟩, by decide +kernel, Nat.le_of_ble_eq_true rfl⟩
theorem zc_Al_size : zCl M_Al_size 0 := ⟨zt4 96 rfl, zt1 11 rfl, ⟨by decide +kernel, by decide +kernel⟩, by decide +kernel, Nat.le_of_ble_eq_true rfl⟩
theorem zc_Al_get : zCl M_Al_get 1 := ⟨zt4 100 rfl, zt1 11 rfl, ⟨by decide +kernel, by decide +kernel⟩, by decide +kernel, Nat.le_of_ble_eq_true rfl⟩
theorem zc_Ob_checkIndex : zCl M_Ob_checkIndex 2 := ⟨zt4 103 rfl, zt1 25 rfl, ⟨by decide +kernel, by decide +kernel⟩, by decide +kernel, Nat.le_of_ble_eq_true rfl⟩
theorem zc_Al_elementData : zCl M_Al_elementData 1 := ⟨zt4 108 rfl, zt1 11 rfl, ⟨by decide +kernel, by decide +kernel⟩, by decide +kernel, Nat.le_of_ble_eq_true rfl⟩
theorem zc_Ad_isSamePlace : zCl M_Ad_isSamePlace 1 := ⟨zt4 112 rfl, zt1 6 rfl, ⟨by decide +kernel, by decide +kernel⟩, by decide +kernel, Nat.le_of_ble_eq_true rfl⟩
theorem zc_Al_set : zCl M_Al_set 2 := ⟨zt4 117 rfl, zt1 11 rfl, ⟨by decide +kernel, by decide +kernel⟩, by decide +kernel, Nat.le_of_ble_eq_true rfl⟩
theorem zc_Al_add_0 : zCl M_Al_add_0 1 := ⟨zt4 121 rfl, zt1 11 rfl, ⟨by decide +kernel, by decide +kernel⟩, by decide +kernel, Nat.le_of_ble_eq_true rfl⟩
theorem zc_Al_add_1 : zCl M_Al_add_1 3 := ⟨zt4 125 rfl, zt1 11 rfl, ⟨by decide +kernel, by decide +kernel⟩, by decide +kernel, Nat.le_of_ble_eq_true rfl⟩
theorem zc_Al_grow_0 : zCl M_Al_grow_0 0 := ⟨zt4 129 rfl, zt1 11 rfl, ⟨by decide +kernel, by decide +kernel⟩, by decide +kernel, Nat.le_of_ble_eq_true rfl⟩
theorem zc_Al_grow_1 : zCl M_Al_grow_1 1 := ⟨zt4 133 rfl, zt1 11 rfl, ⟨by decide +kernel, by decide +kernel⟩, by decide +kernel, Nat.le_of_ble_eq_true rfl⟩
theorem zc_Ar_copyOf_1 : zCl M_Ar_copyOf_1 2 := ⟨zt4 137 rfl, zt1 17 rfl, ⟨by decide +kernel, by decide +kernel⟩, by decide +kernel, Nat.le_of_ble_eq_true rfl⟩
theorem zc_Ar_copyOf_2 : zCl M_Ar_copyOf_2 3 := ⟨zt4 158 rfl, zt1 17 rfl, ⟨by decide +kernel, by decide +kernel⟩, by decide +kernel, Nat.le_of_ble_eq_true rfl⟩
theorem zc_N_fetch : zCl M_N_fetch 0 := ⟨zt4 167 rfl, zt1 1 rfl, ⟨by decide +kernel, by decide +kernel⟩, by decide +kernel, Nat.le_of_ble_eq_true rfl⟩
theorem zc_N_follow : zCl M_N_follow 1 := ⟨zt4 171 rfl, zt1 1 rfl, ⟨by decide +kernel, by decide +kernel⟩, by decide +kernel, Nat.le_of_ble_eq_true rfl⟩
theorem zc_N_answerFrom : zCl M_N_answerFrom 1 := ⟨zt4 175 rfl, zt1 1 rfl, ⟨by decide +kernel, by decide +kernel⟩, by decide +kernel, Nat.le_of_ble_eq_true rfl⟩
theorem zc_Kp_fresh : zCl M_Kp_fresh 2 := ⟨zt4 179 rfl, zt1 13 rfl, ⟨by decide +kernel, by decide +kernel⟩, by decide +kernel, Nat.le_of_ble_eq_true rfl⟩
theorem zc_Kp_placeOf : zCl M_Kp_placeOf 1 := ⟨zt4 183 rfl, zt1 13 rfl, ⟨by decide +kernel, by decide +kernel⟩, by decide +kernel, Nat.le_of_ble_eq_true rfl⟩
theorem zc_N_request : zCl M_N_request 1 := ⟨zt4 191 rfl, zt1 1 rfl, ⟨by decide +kernel, by decide +kernel⟩, by decide +kernel, Nat.le_of_ble_eq_true rfl⟩
theorem zc_Jr_tell : zCl M_Jr_tell 2 := ⟨zt4 195 rfl, zt1 12 rfl, ⟨by decide +kernel, by decide +kernel⟩, by decide +kernel, Nat.le_of_ble_eq_true rfl⟩
theorem zc_Ck_init : zCl M_Ck_init 3 := ⟨zt4 208 rfl, zt1 26 rfl, ⟨by decide +kernel, by decide +kernel⟩, by decide +kernel, Nat.le_of_ble_eq_true rfl⟩
theorem zc_Jr_put : zCl M_Jr_put 1 := ⟨zt4 226 rfl, zt1 12 rfl, ⟨by decide +kernel, by decide +kernel⟩, by decide +kernel, Nat.le_of_ble_eq_true rfl⟩
theorem zc_Kt_init : zCl M_Kt_init 2 := ⟨zt4 233 rfl, zt1 27 rfl, ⟨by decide +kernel, by decide +kernel⟩, by decide +kernel, Nat.le_of_ble_eq_true rfl⟩
theorem zc_Kp_put : zCl M_Kp_put 1 := ⟨zt5 7 rfl, zt1 13 rfl, ⟨by decide +kernel, by decide +kernel⟩, by decide +kernel, Nat.le_of_ble_eq_true rfl⟩
theorem zc_Al_remove : zCl M_Al_remove 1 := ⟨zt5 11 rfl, zt1 11 rfl, ⟨by decide +kernel, by decide +kernel⟩, by decide +kernel, Nat.le_of_ble_eq_true rfl⟩
theorem zc_Al_fastRemove : zCl M_Al_fastRemove 2 := ⟨zt5 15 rfl, zt1 11 rfl, ⟨by decide +kernel, by decide +kernel⟩, by decide +kernel, Nat.le_of_ble_eq_true rfl⟩
theorem zc_N_body : zCl M_N_body 1 := ⟨zt5 22 rfl, zt1 1 rfl, ⟨by decide +kernel, by decide +kernel⟩, by decide +kernel, Nat.le_of_ble_eq_true rfl⟩
theorem zc_N_tick : zCl M_N_tick 1 := ⟨zt5 27 rfl, zt1 1 rfl, ⟨by decide +kernel, by decide +kernel⟩, by decide +kernel, Nat.le_of_ble_eq_true rfl⟩
theorem zc_N_forget : zCl M_N_forget 0 := ⟨zt5 31 rfl, zt1 1 rfl, ⟨by decide +kernel, by decide +kernel⟩, by decide +kernel, Nat.le_of_ble_eq_true rfl⟩
theorem zc_Jr_dropLast : zCl M_Jr_dropLast 1 := ⟨zt5 36 rfl, zt1 12 rfl, ⟨by decide +kernel, by decide +kernel⟩, by decide +kernel, Nat.le_of_ble_eq_true rfl⟩
theorem zc_N_write : zCl M_N_write 1 := ⟨zt5 41 rfl, zt1 1 rfl, ⟨by decide +kernel, by decide +kernel⟩, by decide +kernel, Nat.le_of_ble_eq_true rfl⟩
theorem zc_N_count : zCl M_N_count 1 := ⟨zt5 45 rfl, zt1 1 rfl, ⟨by decide +kernel, by decide +kernel⟩, by decide +kernel, Nat.le_of_ble_eq_true rfl⟩
theorem zc_Jr_size : zCl M_Jr_size 0 := ⟨zt5 49 rfl, zt1 12 rfl, ⟨by decide +kernel, by decide +kernel⟩, by decide +kernel, Nat.le_of_ble_eq_true rfl⟩
theorem zc_Kp_size : zCl M_Kp_size 0 := ⟨zt5 53 rfl, zt1 13 rfl, ⟨by decide +kernel, by decide +kernel⟩, by decide +kernel, Nat.le_of_ble_eq_true rfl⟩
theorem zc_Mo_server : zCl M_Mo_server 0 := ⟨zt5 57 rfl, zt1 14 rfl, ⟨by decide +kernel, by decide +kernel⟩, by decide +kernel, Nat.le_of_ble_eq_true rfl⟩
theorem zc_Mo_take : zCl M_Mo_take 0 := ⟨zt5 62 rfl, zt1 14 rfl, ⟨by decide +kernel, by decide +kernel⟩, by decide +kernel, Nat.le_of_ble_eq_true rfl⟩
theorem zc_Mo_wrong : zCl M_Mo_wrong 1 := ⟨zt5 65 rfl, zt1 14 rfl, ⟨by decide +kernel, by decide +kernel⟩, by decide +kernel, Nat.le_of_ble_eq_true rfl⟩
theorem zc_Mo_tokenEnd : zCl M_Mo_tokenEnd 1 := ⟨zt5 69 rfl, zt1 14 rfl, ⟨by decide +kernel, by decide +kernel⟩, by decide +kernel, Nat.le_of_ble_eq_true rfl⟩
theorem zc_Mo_isBlank : zCl M_Mo_isBlank 1 := ⟨zt5 72 rfl, zt1 14 rfl, ⟨by decide +kernel, by decide +kernel⟩, by decide +kernel, Nat.le_of_ble_eq_true rfl⟩
theorem zc_Mo_refer : zCl M_Mo_refer 4 := ⟨zt5 76 rfl, zt1 14 rfl, ⟨by decide +kernel, by decide +kernel⟩, by decide +kernel, Nat.le_of_ble_eq_true rfl⟩
theorem zc_Mo_nameEnd : zCl M_Mo_nameEnd 3 := ⟨zt5 79 rfl, zt1 14 rfl, ⟨by decide +kernel, by decide +kernel⟩, by decide +kernel, Nat.le_of_ble_eq_true rfl⟩
theorem zc_Mo_isSmall : zCl M_Mo_isSmall 1 := ⟨zt5 82 rfl, zt1 14 rfl, ⟨by decide +kernel, by decide +kernel⟩, by decide +kernel, Nat.le_of_ble_eq_true rfl⟩
theorem zc_Mo_isDigit : zCl M_Mo_isDigit 1 := ⟨zt5 85 rfl, zt1 14 rfl, ⟨by decide +kernel, by decide +kernel⟩, by decide +kernel, Nat.le_of_ble_eq_true rfl⟩
theorem zc_Mo_put : zCl M_Mo_put 2 := ⟨zt5 89 rfl, zt1 14 rfl, ⟨by decide +kernel, by decide +kernel⟩, by decide +kernel, Nat.le_of_ble_eq_true rfl⟩
theorem zc_Mo_segments : zCl M_Mo_segments 2 := ⟨zt5 93 rfl, zt1 14 rfl, ⟨by decide +kernel, by decide +kernel⟩, by decide +kernel, Nat.le_of_ble_eq_true rfl⟩
theorem zc_Mo_oneSegment : zCl M_Mo_oneSegment 2 := ⟨zt5 97 rfl, zt1 14 rfl, ⟨by decide +kernel, by decide +kernel⟩, by decide +kernel, Nat.le_of_ble_eq_true rfl⟩
theorem zc_Mo_isSegment : zCl M_Mo_isSegment 1 := ⟨zt5 100 rfl, zt1 14 rfl, ⟨by decide +kernel, by decide +kernel⟩, by decide +kernel, Nat.le_of_ble_eq_true rfl⟩
theorem zc_Mo_segment : zCl M_Mo_segment 3 := ⟨zt5 104 rfl, zt1 14 rfl, ⟨by decide +kernel, by decide +kernel⟩, by decide +kernel, Nat.le_of_ble_eq_true rfl⟩
theorem zc_Mo_siteEnd : zCl M_Mo_siteEnd 1 := ⟨zt5 108 rfl, zt1 14 rfl, ⟨by decide +kernel, by decide +kernel⟩, by decide +kernel, Nat.le_of_ble_eq_true rfl⟩
theorem zc_Mo_baseSegments : zCl M_Mo_baseSegments 2 := ⟨zt5 112 rfl, zt1 14 rfl, ⟨by decide +kernel, by decide +kernel⟩, by decide +kernel, Nat.le_of_ble_eq_true rfl⟩
theorem zc_Mo_queryAt : zCl M_Mo_queryAt 1 := ⟨zt5 116 rfl, zt1 14 rfl, ⟨by decide +kernel, by decide +kernel⟩, by decide +kernel, Nat.le_of_ble_eq_true rfl⟩
theorem zc_Mo_query : zCl M_Mo_query 4 := ⟨zt5 120 rfl, zt1 14 rfl, ⟨by decide +kernel, by decide +kernel⟩, by decide +kernel, Nat.le_of_ble_eq_true rfl⟩
theorem zc_Mo_isQuery : zCl M_Mo_isQuery 1 := ⟨zt5 123 rfl, zt1 14 rfl, ⟨by decide +kernel, by decide +kernel⟩, by decide +kernel, Nat.le_of_ble_eq_true rfl⟩
theorem zc_Mo_copyRow : zCl M_Mo_copyRow 2 := ⟨zt5 127 rfl, zt1 14 rfl, ⟨by decide +kernel, by decide +kernel⟩, by decide +kernel, Nat.le_of_ble_eq_true rfl⟩
theorem zc_Mo_field : zCl M_Mo_field 2 := ⟨zt5 131 rfl, zt1 14 rfl, ⟨by decide +kernel, by decide +kernel⟩, by decide +kernel, Nat.le_of_ble_eq_true rfl⟩
theorem zc_Mo_isWord : zCl M_Mo_isWord 4 := ⟨zt5 135 rfl, zt1 14 rfl, ⟨by decide +kernel, by decide +kernel⟩, by decide +kernel, Nat.le_of_ble_eq_true rfl⟩
theorem zc_Mo_alike : zCl M_Mo_alike 2 := ⟨zt5 143 rfl, zt1 14 rfl, ⟨by decide +kernel, by decide +kernel⟩, by decide +kernel, Nat.le_of_ble_eq_true rfl⟩
theorem zc_Mo_same : zCl M_Mo_same 5 := ⟨zt5 146 rfl, zt1 14 rfl, ⟨by decide +kernel, by decide +kernel⟩, by decide +kernel, Nat.le_of_ble_eq_true rfl⟩
theorem zc_Mo_init : zCl M_Mo_init 0 := ⟨zt5 150 rfl, zt1 14 rfl, ⟨by decide +kernel, by decide +kernel⟩, by decide +kernel, Nat.le_of_ble_eq_true rfl⟩
theorem zc_Mo_feed : zCl M_Mo_feed 5 := ⟨zt6 70 rfl, zt1 14 rfl, ⟨by decide +kernel, by decide +kernel⟩, by decide +kernel, Nat.le_of_ble_eq_true rfl⟩
theorem zc_Mo_putFour : zCl M_Mo_putFour 1 := ⟨zt6 74 rfl, zt1 14 rfl, ⟨by decide +kernel, by decide +kernel⟩, by decide +kernel, Nat.le_of_ble_eq_true rfl⟩
theorem zc_Mo_end : zCl M_Mo_end 1 := ⟨zt6 78 rfl, zt1 14 rfl, ⟨by decide +kernel, by decide +kernel⟩, by decide +kernel, Nat.le_of_ble_eq_true rfl⟩
theorem zc_Mo_out : zCl M_Mo_out 1 := ⟨zt6 82 rfl, zt1 14 rfl, ⟨by decide +kernel, by decide +kernel⟩, by decide +kernel, Nat.le_of_ble_eq_true rfl⟩
theorem zc_Mo_resolve : zCl M_Mo_resolve 0 := ⟨zt6 86 rfl, zt1 14 rfl, ⟨by decide +kernel, by decide +kernel⟩, by decide +kernel, Nat.le_of_ble_eq_true rfl⟩
theorem zc_Mo_sayRow : zCl M_Mo_sayRow 1 := ⟨zt6 90 rfl, zt1 14 rfl, ⟨by decide +kernel, by decide +kernel⟩, by decide +kernel, Nat.le_of_ble_eq_true rfl⟩
theorem zc_Mo_sayAll : zCl M_Mo_sayAll 3 := ⟨zt6 94 rfl, zt1 14 rfl, ⟨by decide +kernel, by decide +kernel⟩, by decide +kernel, Nat.le_of_ble_eq_true rfl⟩
theorem zc_Mo_say : zCl M_Mo_say 1 := ⟨zt6 98 rfl, zt1 14 rfl, ⟨by decide +kernel, by decide +kernel⟩, by decide +kernel, Nat.le_of_ble_eq_true rfl⟩
theorem zc_Mo_base : zCl M_Mo_base 0 := ⟨zt6 102 rfl, zt1 14 rfl, ⟨by decide +kernel, by decide +kernel⟩, by decide +kernel, Nat.le_of_ble_eq_true rfl⟩
theorem zc_Mo_fetch : zCl M_Mo_fetch 0 := ⟨zt6 106 rfl, zt1 14 rfl, ⟨by decide +kernel, by decide +kernel⟩, by decide +kernel, Nat.le_of_ble_eq_true rfl⟩
theorem zc_Mo_fetchIt : zCl M_Mo_fetchIt 0 := ⟨zt6 110 rfl, zt1 14 rfl, ⟨by decide +kernel, by decide +kernel⟩, by decide +kernel, Nat.le_of_ble_eq_true rfl⟩
theorem zc_Mo_ask : zCl M_Mo_ask 0 := ⟨zt6 114 rfl, zt1 14 rfl, ⟨by decide +kernel, by decide +kernel⟩, by decide +kernel, Nat.le_of_ble_eq_true rfl⟩
theorem zc_Mo_tellCookies : zCl M_Mo_tellCookies 0 := ⟨zt6 118 rfl, zt1 14 rfl, ⟨by decide +kernel, by decide +kernel⟩, by decide +kernel, Nat.le_of_ble_eq_true rfl⟩
theorem zc_Mo_send : zCl M_Mo_send 1 := ⟨zt6 122 rfl, zt1 14 rfl, ⟨by decide +kernel, by decide +kernel⟩, by decide +kernel, Nat.le_of_ble_eq_true rfl⟩
theorem zc_Mo_dropCookie : zCl M_Mo_dropCookie 1 := ⟨zt6 126 rfl, zt1 14 rfl, ⟨by decide +kernel, by decide +kernel⟩, by decide +kernel, Nat.le_of_ble_eq_true rfl⟩
theorem zc_Mo_keep : zCl M_Mo_keep 1 := ⟨zt6 130 rfl, zt1 14 rfl, ⟨by decide +kernel, by decide +kernel⟩, by decide +kernel, Nat.le_of_ble_eq_true rfl⟩
theorem zc_Mo_body : zCl M_Mo_body 1 := ⟨zt6 134 rfl, zt1 14 rfl, ⟨by decide +kernel, by decide +kernel⟩, by decide +kernel, Nat.le_of_ble_eq_true rfl⟩
theorem zc_Mo_tick : zCl M_Mo_tick 1 := ⟨zt6 138 rfl, zt1 14 rfl, ⟨by decide +kernel, by decide +kernel⟩, by decide +kernel, Nat.le_of_ble_eq_true rfl⟩
theorem zc_Mo_forget : zCl M_Mo_forget 0 := ⟨zt6 142 rfl, zt1 14 rfl, ⟨by decide +kernel, by decide +kernel⟩, by decide +kernel, Nat.le_of_ble_eq_true rfl⟩
theorem zc_Mo_write : zCl M_Mo_write 1 := ⟨zt6 146 rfl, zt1 14 rfl, ⟨by decide +kernel, by decide +kernel⟩, by decide +kernel, Nat.le_of_ble_eq_true rfl⟩
theorem zc_Mo_count : zCl M_Mo_count 1 := ⟨zt6 150 rfl, zt1 14 rfl, ⟨by decide +kernel, by decide +kernel⟩, by decide +kernel, Nat.le_of_ble_eq_true rfl⟩
end
