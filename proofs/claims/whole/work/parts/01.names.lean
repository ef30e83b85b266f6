-- ===== PART A: goes FIRST, ahead of the names: the tables' words, and 'selects' of the private methods out of them =====
/-- a private method of a class that the tables say can be made, by its rows of tables_1 -/
def lw_okq (q : MethodName × Nat) : Prop := (q.1.cls ≠ "java/lang/invoke/MethodHandle" ∧ q.1.cls ≠ "java/lang/invoke/VarHandle") ∧ Cond.instantiable q.1.cls q.2 ∈ tables_1 ∧ Cond.privateMethod q.1 ∈ tables_1 ∧ Cond.instanceMethod q.1 ∈ tables_1
theorem lw_p0 : lw_okq (⟨"NetDesk", "addWord", "(I)V"⟩, 17) := ⟨⟨by decide +kernel, by decide +kernel⟩, List.mem_of_getElem? (i := 29) (by decide +kernel), List.mem_of_getElem? (i := 276) (by decide +kernel), List.mem_of_getElem? (i := 277) (by decide +kernel)⟩
theorem lw_p1 : lw_okq (⟨"NetDesk", "takeText", "()Ljava/lang/String;"⟩, 17) := ⟨⟨by decide +kernel, by decide +kernel⟩, List.mem_of_getElem? (i := 29) (by decide +kernel), List.mem_of_getElem? (i := 419) (by decide +kernel), List.mem_of_getElem? (i := 420) (by decide +kernel)⟩
theorem lw_p2 : lw_okq (⟨"NetDesk$Path", "pop", "()V"⟩, 2) := ⟨⟨by decide +kernel, by decide +kernel⟩, List.mem_of_getElem? (i := 619) (by decide +kernel), List.mem_of_getElem? (i := 689) (by decide +kernel), List.mem_of_getElem? (i := 690) (by decide +kernel)⟩
theorem lw_p3 : lw_okq (⟨"NetDesk$Path", "takeOne", "(Ljava/lang/String;Z)Z"⟩, 2) := ⟨⟨by decide +kernel, by decide +kernel⟩, List.mem_of_getElem? (i := 619) (by decide +kernel), List.mem_of_getElem? (i := 705) (by decide +kernel), List.mem_of_getElem? (i := 706) (by decide +kernel)⟩
theorem lw_p4 : lw_okq (⟨"NetDesk$Path", "push", "(Ljava/lang/String;)V"⟩, 2) := ⟨⟨by decide +kernel, by decide +kernel⟩, List.mem_of_getElem? (i := 619) (by decide +kernel), List.mem_of_getElem? (i := 712) (by decide +kernel), List.mem_of_getElem? (i := 713) (by decide +kernel)⟩
theorem lw_p5 : lw_okq (⟨"NetDesk", "writeAddress", "(LNetDesk$Address;Ljava/lang/String;)I"⟩, 17) := ⟨⟨by decide +kernel, by decide +kernel⟩, List.mem_of_getElem? (i := 29) (by decide +kernel), List.mem_of_getElem? (i := 719) (by decide +kernel), List.mem_of_getElem? (i := 720) (by decide +kernel)⟩
theorem lw_p6 : lw_okq (⟨"NetDesk$ServerText", "takeAddress", "(Ljava/lang/String;)Z"⟩, 4) := ⟨⟨by decide +kernel, by decide +kernel⟩, List.mem_of_getElem? (i := 738) (by decide +kernel), List.mem_of_getElem? (i := 771) (by decide +kernel), List.mem_of_getElem? (i := 772) (by decide +kernel)⟩
theorem lw_p7 : lw_okq (⟨"NetDesk$Fields", "takeAge", "(Ljava/lang/String;)Z"⟩, 6) := ⟨⟨by decide +kernel, by decide +kernel⟩, List.mem_of_getElem? (i := 98) (by decide +kernel), List.mem_of_getElem? (i := 788) (by decide +kernel), List.mem_of_getElem? (i := 789) (by decide +kernel)⟩
theorem lw_p8 : lw_okq (⟨"NetDesk$Fields", "takeCookie", "(Ljava/lang/String;)Z"⟩, 6) := ⟨⟨by decide +kernel, by decide +kernel⟩, List.mem_of_getElem? (i := 98) (by decide +kernel), List.mem_of_getElem? (i := 799) (by decide +kernel), List.mem_of_getElem? (i := 800) (by decide +kernel)⟩
theorem lw_p9 : lw_okq (⟨"NetDesk", "placeOfAnswer", "(LNetDesk$Address;)I"⟩, 17) := ⟨⟨by decide +kernel, by decide +kernel⟩, List.mem_of_getElem? (i := 29) (by decide +kernel), List.mem_of_getElem? (i := 810) (by decide +kernel), List.mem_of_getElem? (i := 811) (by decide +kernel)⟩
theorem lw_p10 : lw_okq (⟨"java/util/ArrayList", "add", "(Ljava/lang/Object;[Ljava/lang/Object;I)V"⟩, 3) := ⟨⟨by decide +kernel, by decide +kernel⟩, List.mem_of_getElem? (i := 163) (by decide +kernel), List.mem_of_getElem? (i := 843) (by decide +kernel), List.mem_of_getElem? (i := 844) (by decide +kernel)⟩
theorem lw_p11 : lw_okq (⟨"java/util/ArrayList", "grow", "()[Ljava/lang/Object;"⟩, 3) := ⟨⟨by decide +kernel, by decide +kernel⟩, List.mem_of_getElem? (i := 163) (by decide +kernel), List.mem_of_getElem? (i := 847) (by decide +kernel), List.mem_of_getElem? (i := 848) (by decide +kernel)⟩
theorem lw_p12 : lw_okq (⟨"java/util/ArrayList", "grow", "(I)[Ljava/lang/Object;"⟩, 3) := ⟨⟨by decide +kernel, by decide +kernel⟩, List.mem_of_getElem? (i := 163) (by decide +kernel), List.mem_of_getElem? (i := 851) (by decide +kernel), List.mem_of_getElem? (i := 852) (by decide +kernel)⟩
theorem lw_p13 : lw_okq (⟨"NetDesk", "follow", "(LNetDesk$Address;)V"⟩, 17) := ⟨⟨by decide +kernel, by decide +kernel⟩, List.mem_of_getElem? (i := 29) (by decide +kernel), List.mem_of_getElem? (i := 889) (by decide +kernel), List.mem_of_getElem? (i := 890) (by decide +kernel)⟩
theorem lw_p14 : lw_okq (⟨"NetDesk", "answerFrom", "(LNetDesk$Address;)LNetDesk$Answer;"⟩, 17) := ⟨⟨by decide +kernel, by decide +kernel⟩, List.mem_of_getElem? (i := 29) (by decide +kernel), List.mem_of_getElem? (i := 893) (by decide +kernel), List.mem_of_getElem? (i := 894) (by decide +kernel)⟩
theorem lw_p15 : lw_okq (⟨"NetDesk$Keep", "placeOf", "(LNetDesk$Address;)I"⟩, 1) := ⟨⟨by decide +kernel, by decide +kernel⟩, List.mem_of_getElem? (i := 201) (by decide +kernel), List.mem_of_getElem? (i := 901) (by decide +kernel), List.mem_of_getElem? (i := 902) (by decide +kernel)⟩
def lw_privs_1 : List (MethodName × Nat) := [(⟨"NetDesk", "addWord", "(I)V"⟩, 17), (⟨"NetDesk", "takeText", "()Ljava/lang/String;"⟩, 17), (⟨"NetDesk$Path", "pop", "()V"⟩, 2), (⟨"NetDesk$Path", "takeOne", "(Ljava/lang/String;Z)Z"⟩, 2), (⟨"NetDesk$Path", "push", "(Ljava/lang/String;)V"⟩, 2), (⟨"NetDesk", "writeAddress", "(LNetDesk$Address;Ljava/lang/String;)I"⟩, 17), (⟨"NetDesk$ServerText", "takeAddress", "(Ljava/lang/String;)Z"⟩, 4), (⟨"NetDesk$Fields", "takeAge", "(Ljava/lang/String;)Z"⟩, 6), (⟨"NetDesk$Fields", "takeCookie", "(Ljava/lang/String;)Z"⟩, 6), (⟨"NetDesk", "placeOfAnswer", "(LNetDesk$Address;)I"⟩, 17), (⟨"java/util/ArrayList", "add", "(Ljava/lang/Object;[Ljava/lang/Object;I)V"⟩, 3), (⟨"java/util/ArrayList", "grow", "()[Ljava/lang/Object;"⟩, 3), (⟨"java/util/ArrayList", "grow", "(I)[Ljava/lang/Object;"⟩, 3), (⟨"NetDesk", "follow", "(LNetDesk$Address;)V"⟩, 17), (⟨"NetDesk", "answerFrom", "(LNetDesk$Address;)LNetDesk$Answer;"⟩, 17), (⟨"NetDesk$Keep", "placeOf", "(LNetDesk$Address;)I"⟩, 1)]
theorem lw_r1 : ∀ q ∈ lw_privs_1, lw_okq q := List.forall_mem_cons.mpr ⟨lw_p0, List.forall_mem_cons.mpr ⟨lw_p1, List.forall_mem_cons.mpr ⟨lw_p2, List.forall_mem_cons.mpr ⟨lw_p3, List.forall_mem_cons.mpr ⟨lw_p4, List.forall_mem_cons.mpr ⟨lw_p5, List.forall_mem_cons.mpr ⟨lw_p6, List.forall_mem_cons.mpr ⟨lw_p7, List.forall_mem_cons.mpr ⟨lw_p8, List.forall_mem_cons.mpr ⟨lw_p9, List.forall_mem_cons.mpr ⟨lw_p10, List.forall_mem_cons.mpr ⟨lw_p11, List.forall_mem_cons.mpr ⟨lw_p12, List.forall_mem_cons.mpr ⟨lw_p13, List.forall_mem_cons.mpr ⟨lw_p14, List.forall_mem_cons.mpr ⟨lw_p15, fun _ h => absurd h List.not_mem_nil⟩⟩⟩⟩⟩⟩⟩⟩⟩⟩⟩⟩⟩⟩⟩⟩
theorem lw_p16 : lw_okq (⟨"NetDesk", "request", "(LNetDesk$Address;)LNetDesk$Answer;"⟩, 17) := ⟨⟨by decide +kernel, by decide +kernel⟩, List.mem_of_getElem? (i := 29) (by decide +kernel), List.mem_of_getElem? (i := 909) (by decide +kernel), List.mem_of_getElem? (i := 910) (by decide +kernel)⟩
theorem lw_p17 : lw_okq (⟨"java/util/ArrayList", "fastRemove", "([Ljava/lang/Object;I)V"⟩, 3) := ⟨⟨by decide +kernel, by decide +kernel⟩, List.mem_of_getElem? (i := 163) (by decide +kernel), List.mem_of_getElem? (i := 973) (by decide +kernel), List.mem_of_getElem? (i := 974) (by decide +kernel)⟩
theorem lw_p18 : lw_okq (⟨"NetDeskModel", "take", "()I"⟩, 51) := ⟨⟨by decide +kernel, by decide +kernel⟩, List.mem_of_getElem? (i := 1021) (by decide +kernel), List.mem_of_getElem? (i := 1019) (by decide +kernel), List.mem_of_getElem? (i := 1020) (by decide +kernel)⟩
theorem lw_p19 : lw_okq (⟨"NetDeskModel", "tokenEnd", "(I)I"⟩, 51) := ⟨⟨by decide +kernel, by decide +kernel⟩, List.mem_of_getElem? (i := 1021) (by decide +kernel), List.mem_of_getElem? (i := 1027) (by decide +kernel), List.mem_of_getElem? (i := 1028) (by decide +kernel)⟩
theorem lw_p20 : lw_okq (⟨"NetDeskModel", "refer", "([BIII)Z"⟩, 51) := ⟨⟨by decide +kernel, by decide +kernel⟩, List.mem_of_getElem? (i := 1021) (by decide +kernel), List.mem_of_getElem? (i := 1034) (by decide +kernel), List.mem_of_getElem? (i := 1035) (by decide +kernel)⟩
theorem lw_p21 : lw_okq (⟨"NetDeskModel", "put", "(II)V"⟩, 51) := ⟨⟨by decide +kernel, by decide +kernel⟩, List.mem_of_getElem? (i := 1021) (by decide +kernel), List.mem_of_getElem? (i := 1047) (by decide +kernel), List.mem_of_getElem? (i := 1048) (by decide +kernel)⟩
theorem lw_p22 : lw_okq (⟨"NetDeskModel", "segments", "([BI)Z"⟩, 51) := ⟨⟨by decide +kernel, by decide +kernel⟩, List.mem_of_getElem? (i := 1021) (by decide +kernel), List.mem_of_getElem? (i := 1051) (by decide +kernel), List.mem_of_getElem? (i := 1052) (by decide +kernel)⟩
theorem lw_p23 : lw_okq (⟨"NetDeskModel", "oneSegment", "([BI)Z"⟩, 51) := ⟨⟨by decide +kernel, by decide +kernel⟩, List.mem_of_getElem? (i := 1021) (by decide +kernel), List.mem_of_getElem? (i := 1055) (by decide +kernel), List.mem_of_getElem? (i := 1056) (by decide +kernel)⟩
theorem lw_p24 : lw_okq (⟨"NetDeskModel", "segment", "([BII)V"⟩, 51) := ⟨⟨by decide +kernel, by decide +kernel⟩, List.mem_of_getElem? (i := 1021) (by decide +kernel), List.mem_of_getElem? (i := 1062) (by decide +kernel), List.mem_of_getElem? (i := 1063) (by decide +kernel)⟩
theorem lw_p25 : lw_okq (⟨"NetDeskModel", "siteEnd", "(I)I"⟩, 51) := ⟨⟨by decide +kernel, by decide +kernel⟩, List.mem_of_getElem? (i := 1021) (by decide +kernel), List.mem_of_getElem? (i := 1066) (by decide +kernel), List.mem_of_getElem? (i := 1067) (by decide +kernel)⟩
theorem lw_p26 : lw_okq (⟨"NetDeskModel", "baseSegments", "(IZ)V"⟩, 51) := ⟨⟨by decide +kernel, by decide +kernel⟩, List.mem_of_getElem? (i := 1021) (by decide +kernel), List.mem_of_getElem? (i := 1070) (by decide +kernel), List.mem_of_getElem? (i := 1071) (by decide +kernel)⟩
theorem lw_p27 : lw_okq (⟨"NetDeskModel", "queryAt", "(I)I"⟩, 51) := ⟨⟨by decide +kernel, by decide +kernel⟩, List.mem_of_getElem? (i := 1021) (by decide +kernel), List.mem_of_getElem? (i := 1074) (by decide +kernel), List.mem_of_getElem? (i := 1075) (by decide +kernel)⟩
theorem lw_p28 : lw_okq (⟨"NetDeskModel", "query", "([BIIZ)Z"⟩, 51) := ⟨⟨by decide +kernel, by decide +kernel⟩, List.mem_of_getElem? (i := 1021) (by decide +kernel), List.mem_of_getElem? (i := 1078) (by decide +kernel), List.mem_of_getElem? (i := 1079) (by decide +kernel)⟩
theorem lw_p29 : lw_okq (⟨"NetDeskModel", "copyRow", "(II)V"⟩, 51) := ⟨⟨by decide +kernel, by decide +kernel⟩, List.mem_of_getElem? (i := 1021) (by decide +kernel), List.mem_of_getElem? (i := 1085) (by decide +kernel), List.mem_of_getElem? (i := 1086) (by decide +kernel)⟩
theorem lw_p30 : lw_okq (⟨"NetDeskModel", "field", "(II)Z"⟩, 51) := ⟨⟨by decide +kernel, by decide +kernel⟩, List.mem_of_getElem? (i := 1021) (by decide +kernel), List.mem_of_getElem? (i := 1089) (by decide +kernel), List.mem_of_getElem? (i := 1090) (by decide +kernel)⟩
theorem lw_p31 : lw_okq (⟨"NetDeskModel", "alike", "(II)Z"⟩, 51) := ⟨⟨by decide +kernel, by decide +kernel⟩, List.mem_of_getElem? (i := 1021) (by decide +kernel), List.mem_of_getElem? (i := 1101) (by decide +kernel), List.mem_of_getElem? (i := 1102) (by decide +kernel)⟩
def lw_privs_2 : List (MethodName × Nat) := [(⟨"NetDesk", "request", "(LNetDesk$Address;)LNetDesk$Answer;"⟩, 17), (⟨"java/util/ArrayList", "fastRemove", "([Ljava/lang/Object;I)V"⟩, 3), (⟨"NetDeskModel", "take", "()I"⟩, 51), (⟨"NetDeskModel", "tokenEnd", "(I)I"⟩, 51), (⟨"NetDeskModel", "refer", "([BIII)Z"⟩, 51), (⟨"NetDeskModel", "put", "(II)V"⟩, 51), (⟨"NetDeskModel", "segments", "([BI)Z"⟩, 51), (⟨"NetDeskModel", "oneSegment", "([BI)Z"⟩, 51), (⟨"NetDeskModel", "segment", "([BII)V"⟩, 51), (⟨"NetDeskModel", "siteEnd", "(I)I"⟩, 51), (⟨"NetDeskModel", "baseSegments", "(IZ)V"⟩, 51), (⟨"NetDeskModel", "queryAt", "(I)I"⟩, 51), (⟨"NetDeskModel", "query", "([BIIZ)Z"⟩, 51), (⟨"NetDeskModel", "copyRow", "(II)V"⟩, 51), (⟨"NetDeskModel", "field", "(II)Z"⟩, 51), (⟨"NetDeskModel", "alike", "(II)Z"⟩, 51)]
theorem lw_r2 : ∀ q ∈ lw_privs_2, lw_okq q := List.forall_mem_cons.mpr ⟨lw_p16, List.forall_mem_cons.mpr ⟨lw_p17, List.forall_mem_cons.mpr ⟨lw_p18, List.forall_mem_cons.mpr ⟨lw_p19, List.forall_mem_cons.mpr ⟨lw_p20, List.forall_mem_cons.mpr ⟨lw_p21, List.forall_mem_cons.mpr ⟨lw_p22, List.forall_mem_cons.mpr ⟨lw_p23, List.forall_mem_cons.mpr ⟨lw_p24, List.forall_mem_cons.mpr ⟨lw_p25, List.forall_mem_cons.mpr ⟨lw_p26, List.forall_mem_cons.mpr ⟨lw_p27, List.forall_mem_cons.mpr ⟨lw_p28, List.forall_mem_cons.mpr ⟨lw_p29, List.forall_mem_cons.mpr ⟨lw_p30, List.forall_mem_cons.mpr ⟨lw_p31, fun _ h => absurd h List.not_mem_nil⟩⟩⟩⟩⟩⟩⟩⟩⟩⟩⟩⟩⟩⟩⟩⟩
theorem lw_p32 : lw_okq (⟨"NetDeskModel", "putFour", "(I)V"⟩, 51) := ⟨⟨by decide +kernel, by decide +kernel⟩, List.mem_of_getElem? (i := 1021) (by decide +kernel), List.mem_of_getElem? (i := 1272) (by decide +kernel), List.mem_of_getElem? (i := 1273) (by decide +kernel)⟩
theorem lw_p33 : lw_okq (⟨"NetDeskModel", "sayRow", "(I)V"⟩, 51) := ⟨⟨by decide +kernel, by decide +kernel⟩, List.mem_of_getElem? (i := 1021) (by decide +kernel), List.mem_of_getElem? (i := 1288) (by decide +kernel), List.mem_of_getElem? (i := 1289) (by decide +kernel)⟩
theorem lw_p34 : lw_okq (⟨"NetDeskModel", "sayAll", "([BII)V"⟩, 51) := ⟨⟨by decide +kernel, by decide +kernel⟩, List.mem_of_getElem? (i := 1021) (by decide +kernel), List.mem_of_getElem? (i := 1292) (by decide +kernel), List.mem_of_getElem? (i := 1293) (by decide +kernel)⟩
theorem lw_p35 : lw_okq (⟨"NetDeskModel", "say", "(I)V"⟩, 51) := ⟨⟨by decide +kernel, by decide +kernel⟩, List.mem_of_getElem? (i := 1021) (by decide +kernel), List.mem_of_getElem? (i := 1296) (by decide +kernel), List.mem_of_getElem? (i := 1297) (by decide +kernel)⟩
theorem lw_p36 : lw_okq (⟨"NetDeskModel", "fetchIt", "()V"⟩, 51) := ⟨⟨by decide +kernel, by decide +kernel⟩, List.mem_of_getElem? (i := 1021) (by decide +kernel), List.mem_of_getElem? (i := 1308) (by decide +kernel), List.mem_of_getElem? (i := 1309) (by decide +kernel)⟩
theorem lw_p37 : lw_okq (⟨"NetDeskModel", "ask", "()V"⟩, 51) := ⟨⟨by decide +kernel, by decide +kernel⟩, List.mem_of_getElem? (i := 1021) (by decide +kernel), List.mem_of_getElem? (i := 1312) (by decide +kernel), List.mem_of_getElem? (i := 1313) (by decide +kernel)⟩
theorem lw_p38 : lw_okq (⟨"NetDeskModel", "tellCookies", "()V"⟩, 51) := ⟨⟨by decide +kernel, by decide +kernel⟩, List.mem_of_getElem? (i := 1021) (by decide +kernel), List.mem_of_getElem? (i := 1316) (by decide +kernel), List.mem_of_getElem? (i := 1317) (by decide +kernel)⟩
theorem lw_p39 : lw_okq (⟨"NetDeskModel", "send", "(I)V"⟩, 51) := ⟨⟨by decide +kernel, by decide +kernel⟩, List.mem_of_getElem? (i := 1021) (by decide +kernel), List.mem_of_getElem? (i := 1320) (by decide +kernel), List.mem_of_getElem? (i := 1321) (by decide +kernel)⟩
theorem lw_p40 : lw_okq (⟨"NetDeskModel", "dropCookie", "(I)V"⟩, 51) := ⟨⟨by decide +kernel, by decide +kernel⟩, List.mem_of_getElem? (i := 1021) (by decide +kernel), List.mem_of_getElem? (i := 1324) (by decide +kernel), List.mem_of_getElem? (i := 1325) (by decide +kernel)⟩
theorem lw_p41 : lw_okq (⟨"NetDeskModel", "keep", "(I)V"⟩, 51) := ⟨⟨by decide +kernel, by decide +kernel⟩, List.mem_of_getElem? (i := 1021) (by decide +kernel), List.mem_of_getElem? (i := 1328) (by decide +kernel), List.mem_of_getElem? (i := 1329) (by decide +kernel)⟩
def lw_privs_3 : List (MethodName × Nat) := [(⟨"NetDeskModel", "putFour", "(I)V"⟩, 51), (⟨"NetDeskModel", "sayRow", "(I)V"⟩, 51), (⟨"NetDeskModel", "sayAll", "([BII)V"⟩, 51), (⟨"NetDeskModel", "say", "(I)V"⟩, 51), (⟨"NetDeskModel", "fetchIt", "()V"⟩, 51), (⟨"NetDeskModel", "ask", "()V"⟩, 51), (⟨"NetDeskModel", "tellCookies", "()V"⟩, 51), (⟨"NetDeskModel", "send", "(I)V"⟩, 51), (⟨"NetDeskModel", "dropCookie", "(I)V"⟩, 51), (⟨"NetDeskModel", "keep", "(I)V"⟩, 51)]
theorem lw_r3 : ∀ q ∈ lw_privs_3, lw_okq q := List.forall_mem_cons.mpr ⟨lw_p32, List.forall_mem_cons.mpr ⟨lw_p33, List.forall_mem_cons.mpr ⟨lw_p34, List.forall_mem_cons.mpr ⟨lw_p35, List.forall_mem_cons.mpr ⟨lw_p36, List.forall_mem_cons.mpr ⟨lw_p37, List.forall_mem_cons.mpr ⟨lw_p38, List.forall_mem_cons.mpr ⟨lw_p39, List.forall_mem_cons.mpr ⟨lw_p40, List.forall_mem_cons.mpr ⟨lw_p41, fun _ h => absurd h List.not_mem_nil⟩⟩⟩⟩⟩⟩⟩⟩⟩⟩
def lw_privs : List (MethodName × Nat) := lw_privs_1 ++ (lw_privs_2 ++ (lw_privs_3))
def lw_tbl : List Cond := k2_sels lw_privs ++ tables_1
theorem lw_privs_ok : ∀ q ∈ lw_privs, lw_okq q := by
  show ∀ q ∈ lw_privs_1 ++ (lw_privs_2 ++ (lw_privs_3)), lw_okq q
  exact List.forall_mem_append.mpr ⟨lw_r1, List.forall_mem_append.mpr ⟨lw_r2, lw_r3⟩⟩

theorem zapp {α : Type} {w : α} {a b : List α} (h : w ∈ b) : w ∈ a ++ b := List.mem_append_right _ h
theorem zt1 (i : Nat) {w : Cond} (h : tables_1_1[i]? = some w) : w ∈ lw_tbl := List.mem_append_right _ (show w ∈ tables_1 from List.mem_append_left _ (List.mem_of_getElem? h))
theorem zt2 (i : Nat) {w : Cond} (h : tables_1_2[i]? = some w) : w ∈ lw_tbl := List.mem_append_right _ (show w ∈ tables_1 from List.mem_append_right _ (List.mem_append_left _ (List.mem_of_getElem? h)))
theorem zt3 (i : Nat) {w : Cond} (h : tables_1_3[i]? = some w) : w ∈ lw_tbl := List.mem_append_right _ (show w ∈ tables_1 from List.mem_append_right _ (List.mem_append_right _ (List.mem_append_left _ (List.mem_of_getElem? h))))
theorem zt4 (i : Nat) {w : Cond} (h : tables_1_4[i]? = some w) : w ∈ lw_tbl := List.mem_append_right _ (show w ∈ tables_1 from List.mem_append_right _ (List.mem_append_right _ (List.mem_append_right _ (List.mem_append_left _ (List.mem_of_getElem? h)))))
theorem zt5 (i : Nat) {w : Cond} (h : tables_1_5[i]? = some w) : w ∈ lw_tbl := List.mem_append_right _ (show w ∈ tables_1 from List.mem_append_right _ (List.mem_append_right _ (List.mem_append_right _ (List.mem_append_right _ (List.mem_append_left _ (List.mem_of_getElem? h))))))
theorem zt6 (i : Nat) {w : Cond} (h : tables_1_6[i]? = some w) : w ∈ lw_tbl := List.mem_append_right _ (show w ∈ tables_1 from List.mem_append_right _ (List.mem_append_right _ (List.mem_append_right _ (List.mem_append_right _ (List.mem_append_right _ (List.mem_of_getElem? h))))))
theorem zsel (i : Nat) {q : MethodName × Nat} (h : lw_privs[i]? = some q) : Cond.selects q.1.cls q.1 q.1 ∈ lw_tbl := List.mem_append_left _ (List.mem_map.mpr ⟨q, List.mem_of_getElem? h, rfl⟩)
theorem zo_inst : Cond.instanceMethod objectInit ∈ lw_tbl := zt1 34 (by decide +kernel)
-- ['(Jvm.Cond.code ({ cls := "java/lang/Object", name := "<init>", desc := "()V" } : Jvm.MethodName) object_method_1_code (1 : Nat) (Option.none : Option Jvm.ClassFile.FieldType))']
theorem zo_code : Cond.code objectInit ⟨#[0xb1]⟩ 1 none ∈ lw_tbl := zt1 35 (by decide +kernel)
def R_N : String := "NetDesk"
def T_N : u_T := fun k => match k with
  | 0 => ("NetDesk", "tape", "Ljava/lang/StringBuilder;", true)
  | 1 => ("NetDesk", "written", "Ljava/lang/StringBuilder;", true)
  | 2 => ("NetDesk", "home", "LNetDesk$Address;", true)
  | 3 => ("NetDesk", "empty", "LNetDesk$Answer;", true)
  | 4 => ("NetDesk", "answers", "Ljava/util/ArrayList;", true)
  | 5 => ("NetDesk", "jar", "LNetDesk$Jar;", true)
  | 6 => ("NetDesk", "keep", "LNetDesk$Keep;", true)
  | 7 => ("NetDesk", "requestCookies", "Ljava/lang/StringBuilder;", true)
  | 8 => ("NetDesk", "theBase", "LNetDesk$Address;", false)
  | 9 => ("NetDesk", "clock", "I", false)
  | 10 => ("NetDesk", "requests", "I", false)
  | 11 => ("NetDesk", "requestAt", "LNetDesk$Address;", false)
  | 12 => ("NetDesk", "came", "LNetDesk$Answer;", false)
  | 13 => ("NetDesk", "cameFrom", "LNetDesk$Address;", false)
  | 14 => ("NetDesk", "firstMark", "Ljava/lang/String;", false)
  | 15 => ("NetDesk", "followed", "I", false)
  | _ => ("NetDesk", "cameKept", "Z", false)
def ty_N : Nat → FieldType := fun k => match k with
  | 0 => (.object "java/lang/StringBuilder")
  | 1 => (.object "java/lang/StringBuilder")
  | 2 => (.object "NetDesk$Address")
  | 3 => (.object "NetDesk$Answer")
  | 4 => (.object "java/util/ArrayList")
  | 5 => (.object "NetDesk$Jar")
  | 6 => (.object "NetDesk$Keep")
  | 7 => (.object "java/lang/StringBuilder")
  | 8 => (.object "NetDesk$Address")
  | 9 => .int
  | 10 => .int
  | 11 => (.object "NetDesk$Address")
  | 12 => (.object "NetDesk$Answer")
  | 13 => (.object "NetDesk$Address")
  | 14 => (.object "java/lang/String")
  | 15 => .int
  | _ => .boolean
theorem nm_N : ∀ a, a < 17 → ∀ b, b < 17 → a ≠ b → (T_N a).2.1 ≠ (T_N b).2.1 := by decide +kernel
theorem tyok_N : ∀ k, k < 17 → parseFieldDescriptor (T_N k).2.2.1 = some (ty_N k) := by decide +kernel
set_option maxRecDepth 20000 in
theorem in_N : ∀ w ∈ u_ws "NetDesk" T_N 17, w ∈ lw_tbl := by
  have h : (u_ws "NetDesk" T_N 17).all (fun w => decide (w ∈ tables_1)) = true := by decide +kernel
  exact fun w hw => List.mem_append_right _ (of_decide_eq_true (List.all_eq_true.mp h w hw))
theorem zDf_N : ∀ j, j < ([.null, .null, .null, .null, .null, .null, .null, .null, .null, .int 0, .int 0, .null, .null, .null, .null, .int 0, .int 0] : List Value).length → ([.null, .null, .null, .null, .null, .null, .null, .null, .null, .int 0, .int 0, .null, .null, .null, .null, .int 0, .int 0] : List Value)[j]? = some (defaultValue (ty_N j)) := by decide +kernel
def R_Sb : String := "java/lang/StringBuilder"
def T_Sb : u_T := fun k => match k with
  | 0 => ("java/lang/AbstractStringBuilder", "value", "[B", false)
  | 1 => ("java/lang/AbstractStringBuilder", "coder", "B", false)
  | 2 => ("java/lang/AbstractStringBuilder", "maybeLatin1", "Z", false)
  | _ => ("java/lang/AbstractStringBuilder", "count", "I", false)
def ty_Sb : Nat → FieldType := fun k => match k with
  | 0 => (.array .byte)
  | 1 => .byte
  | 2 => .boolean
  | _ => .int
theorem nm_Sb : ∀ a, a < 4 → ∀ b, b < 4 → a ≠ b → (T_Sb a).2.1 ≠ (T_Sb b).2.1 := by decide +kernel
theorem tyok_Sb : ∀ k, k < 4 → parseFieldDescriptor (T_Sb k).2.2.1 = some (ty_Sb k) := by decide +kernel
set_option maxRecDepth 20000 in
theorem in_Sb : ∀ w ∈ u_ws "java/lang/StringBuilder" T_Sb 4, w ∈ lw_tbl := by
  have h : (u_ws "java/lang/StringBuilder" T_Sb 4).all (fun w => decide (w ∈ tables_1)) = true := by decide +kernel
  exact fun w hw => List.mem_append_right _ (of_decide_eq_true (List.all_eq_true.mp h w hw))
theorem zDf_Sb : ∀ j, j < ([.null, .int 0, .int 0, .int 0] : List Value).length → ([.null, .int 0, .int 0, .int 0] : List Value)[j]? = some (defaultValue (ty_Sb j)) := by decide +kernel
def R_Ad : String := "NetDesk$Address"
def T_Ad : u_T := fun k => match k with
  | 0 => ("NetDesk$Address", "site", "Ljava/lang/String;", true)
  | 1 => ("NetDesk$Address", "path", "Ljava/lang/String;", true)
  | 2 => ("NetDesk$Address", "query", "Ljava/lang/String;", true)
  | _ => ("NetDesk$Address", "mark", "Ljava/lang/String;", true)
def ty_Ad : Nat → FieldType := fun k => match k with
  | 0 => (.object "java/lang/String")
  | 1 => (.object "java/lang/String")
  | 2 => (.object "java/lang/String")
  | _ => (.object "java/lang/String")
theorem nm_Ad : ∀ a, a < 4 → ∀ b, b < 4 → a ≠ b → (T_Ad a).2.1 ≠ (T_Ad b).2.1 := by decide +kernel
theorem tyok_Ad : ∀ k, k < 4 → parseFieldDescriptor (T_Ad k).2.2.1 = some (ty_Ad k) := by decide +kernel
set_option maxRecDepth 20000 in
theorem in_Ad : ∀ w ∈ u_ws "NetDesk$Address" T_Ad 4, w ∈ lw_tbl := by
  have h : (u_ws "NetDesk$Address" T_Ad 4).all (fun w => decide (w ∈ tables_1)) = true := by decide +kernel
  exact fun w hw => List.mem_append_right _ (of_decide_eq_true (List.all_eq_true.mp h w hw))
theorem zDf_Ad : ∀ j, j < ([.null, .null, .null, .null] : List Value).length → ([.null, .null, .null, .null] : List Value)[j]? = some (defaultValue (ty_Ad j)) := by decide +kernel
def R_An : String := "NetDesk$Answer"
def T_An : u_T := fun k => match k with
  | 0 => ("NetDesk$Answer", "at", "LNetDesk$Address;", true)
  | 1 => ("NetDesk$Answer", "age", "I", true)
  | 2 => ("NetDesk$Answer", "cookieName", "Ljava/lang/String;", true)
  | 3 => ("NetDesk$Answer", "cookieValue", "Ljava/lang/String;", true)
  | 4 => ("NetDesk$Answer", "to", "LNetDesk$Address;", true)
  | 5 => ("NetDesk$Answer", "open", "Z", true)
  | _ => ("NetDesk$Answer", "content", "Ljava/lang/String;", true)
def ty_An : Nat → FieldType := fun k => match k with
  | 0 => (.object "NetDesk$Address")
  | 1 => .int
  | 2 => (.object "java/lang/String")
  | 3 => (.object "java/lang/String")
  | 4 => (.object "NetDesk$Address")
  | 5 => .boolean
  | _ => (.object "java/lang/String")
theorem nm_An : ∀ a, a < 7 → ∀ b, b < 7 → a ≠ b → (T_An a).2.1 ≠ (T_An b).2.1 := by decide +kernel
theorem tyok_An : ∀ k, k < 7 → parseFieldDescriptor (T_An k).2.2.1 = some (ty_An k) := by decide +kernel
set_option maxRecDepth 20000 in
theorem in_An : ∀ w ∈ u_ws "NetDesk$Answer" T_An 7, w ∈ lw_tbl := by
  have h : (u_ws "NetDesk$Answer" T_An 7).all (fun w => decide (w ∈ tables_1)) = true := by decide +kernel
  exact fun w hw => List.mem_append_right _ (of_decide_eq_true (List.all_eq_true.mp h w hw))
theorem zDf_An : ∀ j, j < ([.null, .int 0, .null, .null, .null, .int 0, .null] : List Value).length → ([.null, .int 0, .null, .null, .null, .int 0, .null] : List Value)[j]? = some (defaultValue (ty_An j)) := by decide +kernel
def R_Fl : String := "NetDesk$Fields"
def T_Fl : u_T := fun k => match k with
  | 0 => ("NetDesk$Fields", "hasAge", "Z", false)
  | 1 => ("NetDesk$Fields", "age", "I", false)
  | 2 => ("NetDesk$Fields", "cookieName", "Ljava/lang/String;", false)
  | 3 => ("NetDesk$Fields", "cookieValue", "Ljava/lang/String;", false)
  | 4 => ("NetDesk$Fields", "to", "LNetDesk$Address;", false)
  | _ => ("NetDesk$Fields", "open", "Z", false)
def ty_Fl : Nat → FieldType := fun k => match k with
  | 0 => .boolean
  | 1 => .int
  | 2 => (.object "java/lang/String")
  | 3 => (.object "java/lang/String")
  | 4 => (.object "NetDesk$Address")
  | _ => .boolean
theorem nm_Fl : ∀ a, a < 6 → ∀ b, b < 6 → a ≠ b → (T_Fl a).2.1 ≠ (T_Fl b).2.1 := by decide +kernel
theorem tyok_Fl : ∀ k, k < 6 → parseFieldDescriptor (T_Fl k).2.2.1 = some (ty_Fl k) := by decide +kernel
set_option maxRecDepth 20000 in
theorem in_Fl : ∀ w ∈ u_ws "NetDesk$Fields" T_Fl 6, w ∈ lw_tbl := by
  have h : (u_ws "NetDesk$Fields" T_Fl 6).all (fun w => decide (w ∈ tables_1)) = true := by decide +kernel
  exact fun w hw => List.mem_append_right _ (of_decide_eq_true (List.all_eq_true.mp h w hw))
theorem zDf_Fl : ∀ j, j < ([.int 0, .int 0, .null, .null, .null, .int 0] : List Value).length → ([.int 0, .int 0, .null, .null, .null, .int 0] : List Value)[j]? = some (defaultValue (ty_Fl j)) := by decide +kernel
def R_Al : String := "java/util/ArrayList"
def T_Al : u_T := fun k => match k with
  | 0 => ("java/util/ArrayList", "elementData", "[Ljava/lang/Object;", false)
  | 1 => ("java/util/ArrayList", "size", "I", false)
  | _ => ("java/util/AbstractList", "modCount", "I", false)
def ty_Al : Nat → FieldType := fun k => match k with
  | 0 => (.array (.object "java/lang/Object"))
  | 1 => .int
  | _ => .int
theorem nm_Al : ∀ a, a < 3 → ∀ b, b < 3 → a ≠ b → (T_Al a).2.1 ≠ (T_Al b).2.1 := by decide +kernel
theorem tyok_Al : ∀ k, k < 3 → parseFieldDescriptor (T_Al k).2.2.1 = some (ty_Al k) := by decide +kernel
set_option maxRecDepth 20000 in
theorem in_Al : ∀ w ∈ u_ws "java/util/ArrayList" T_Al 3, w ∈ lw_tbl := by
  have h : (u_ws "java/util/ArrayList" T_Al 3).all (fun w => decide (w ∈ tables_1)) = true := by decide +kernel
  exact fun w hw => List.mem_append_right _ (of_decide_eq_true (List.all_eq_true.mp h w hw))
theorem zDf_Al : ∀ j, j < ([.null, .int 0, .int 0] : List Value).length → ([.null, .int 0, .int 0] : List Value)[j]? = some (defaultValue (ty_Al j)) := by decide +kernel
def R_Jr : String := "NetDesk$Jar"
def T_Jr : u_T := fun k => match k with
  | _ => ("NetDesk$Jar", "cookies", "Ljava/util/ArrayList;", true)
def ty_Jr : Nat → FieldType := fun k => match k with
  | _ => (.object "java/util/ArrayList")
theorem nm_Jr : ∀ a, a < 1 → ∀ b, b < 1 → a ≠ b → (T_Jr a).2.1 ≠ (T_Jr b).2.1 := by decide +kernel
theorem tyok_Jr : ∀ k, k < 1 → parseFieldDescriptor (T_Jr k).2.2.1 = some (ty_Jr k) := by decide +kernel
set_option maxRecDepth 20000 in
theorem in_Jr : ∀ w ∈ u_ws "NetDesk$Jar" T_Jr 1, w ∈ lw_tbl := by
  have h : (u_ws "NetDesk$Jar" T_Jr 1).all (fun w => decide (w ∈ tables_1)) = true := by decide +kernel
  exact fun w hw => List.mem_append_right _ (of_decide_eq_true (List.all_eq_true.mp h w hw))
theorem zDf_Jr : ∀ j, j < ([.null] : List Value).length → ([.null] : List Value)[j]? = some (defaultValue (ty_Jr j)) := by decide +kernel
def R_Kp : String := "NetDesk$Keep"
def T_Kp : u_T := fun k => match k with
  | _ => ("NetDesk$Keep", "all", "Ljava/util/ArrayList;", true)
def ty_Kp : Nat → FieldType := fun k => match k with
  | _ => (.object "java/util/ArrayList")
theorem nm_Kp : ∀ a, a < 1 → ∀ b, b < 1 → a ≠ b → (T_Kp a).2.1 ≠ (T_Kp b).2.1 := by decide +kernel
theorem tyok_Kp : ∀ k, k < 1 → parseFieldDescriptor (T_Kp k).2.2.1 = some (ty_Kp k) := by decide +kernel
set_option maxRecDepth 20000 in
theorem in_Kp : ∀ w ∈ u_ws "NetDesk$Keep" T_Kp 1, w ∈ lw_tbl := by
  have h : (u_ws "NetDesk$Keep" T_Kp 1).all (fun w => decide (w ∈ tables_1)) = true := by decide +kernel
  exact fun w hw => List.mem_append_right _ (of_decide_eq_true (List.all_eq_true.mp h w hw))
theorem zDf_Kp : ∀ j, j < ([.null] : List Value).length → ([.null] : List Value)[j]? = some (defaultValue (ty_Kp j)) := by decide +kernel
def R_St : String := "java/lang/String"
def T_St : u_T := fun k => match k with
  | 0 => ("java/lang/String", "value", "[B", true)
  | 1 => ("java/lang/String", "coder", "B", true)
  | 2 => ("java/lang/String", "hash", "I", false)
  | _ => ("java/lang/String", "hashIsZero", "Z", false)
def ty_St : Nat → FieldType := fun k => match k with
  | 0 => (.array .byte)
  | 1 => .byte
  | 2 => .int
  | _ => .boolean
theorem nm_St : ∀ a, a < 4 → ∀ b, b < 4 → a ≠ b → (T_St a).2.1 ≠ (T_St b).2.1 := by decide +kernel
theorem tyok_St : ∀ k, k < 4 → parseFieldDescriptor (T_St k).2.2.1 = some (ty_St k) := by decide +kernel
set_option maxRecDepth 20000 in
theorem in_St : ∀ w ∈ u_ws "java/lang/String" T_St 4, w ∈ lw_tbl := by
  have h : (u_ws "java/lang/String" T_St 4).all (fun w => decide (w ∈ tables_1)) = true := by decide +kernel
  exact fun w hw => List.mem_append_right _ (of_decide_eq_true (List.all_eq_true.mp h w hw))
theorem zDf_St : ∀ j, j < ([.null, .int 0, .int 0, .int 0] : List Value).length → ([.null, .int 0, .int 0, .int 0] : List Value)[j]? = some (defaultValue (ty_St j)) := by decide +kernel
def R_Pt : String := "NetDesk$Path"
def T_Pt : u_T := fun k => match k with
  | 0 => ("NetDesk$Path", "joined", "Ljava/lang/StringBuilder;", true)
  | _ => ("NetDesk$Path", "size", "I", false)
def ty_Pt : Nat → FieldType := fun k => match k with
  | 0 => (.object "java/lang/StringBuilder")
  | _ => .int
theorem nm_Pt : ∀ a, a < 2 → ∀ b, b < 2 → a ≠ b → (T_Pt a).2.1 ≠ (T_Pt b).2.1 := by decide +kernel
theorem tyok_Pt : ∀ k, k < 2 → parseFieldDescriptor (T_Pt k).2.2.1 = some (ty_Pt k) := by decide +kernel
set_option maxRecDepth 20000 in
theorem in_Pt : ∀ w ∈ u_ws "NetDesk$Path" T_Pt 2, w ∈ lw_tbl := by
  have h : (u_ws "NetDesk$Path" T_Pt 2).all (fun w => decide (w ∈ tables_1)) = true := by decide +kernel
  exact fun w hw => List.mem_append_right _ (of_decide_eq_true (List.all_eq_true.mp h w hw))
theorem zDf_Pt : ∀ j, j < ([.null, .int 0] : List Value).length → ([.null, .int 0] : List Value)[j]? = some (defaultValue (ty_Pt j)) := by decide +kernel
def R_Sv : String := "NetDesk$ServerText"
def T_Sv : u_T := fun k => match k with
  | 0 => ("NetDesk$ServerText", "text", "Ljava/lang/String;", true)
  | 1 => ("NetDesk$ServerText", "fields", "LNetDesk$Fields;", true)
  | 2 => ("NetDesk$ServerText", "at", "LNetDesk$Address;", false)
  | _ => ("NetDesk$ServerText", "content", "Ljava/lang/String;", false)
def ty_Sv : Nat → FieldType := fun k => match k with
  | 0 => (.object "java/lang/String")
  | 1 => (.object "NetDesk$Fields")
  | 2 => (.object "NetDesk$Address")
  | _ => (.object "java/lang/String")
theorem nm_Sv : ∀ a, a < 4 → ∀ b, b < 4 → a ≠ b → (T_Sv a).2.1 ≠ (T_Sv b).2.1 := by decide +kernel
theorem tyok_Sv : ∀ k, k < 4 → parseFieldDescriptor (T_Sv k).2.2.1 = some (ty_Sv k) := by decide +kernel
set_option maxRecDepth 20000 in
theorem in_Sv : ∀ w ∈ u_ws "NetDesk$ServerText" T_Sv 4, w ∈ lw_tbl := by
  have h : (u_ws "NetDesk$ServerText" T_Sv 4).all (fun w => decide (w ∈ tables_1)) = true := by decide +kernel
  exact fun w hw => List.mem_append_right _ (of_decide_eq_true (List.all_eq_true.mp h w hw))
theorem zDf_Sv : ∀ j, j < ([.null, .null, .null, .null] : List Value).length → ([.null, .null, .null, .null] : List Value)[j]? = some (defaultValue (ty_Sv j)) := by decide +kernel
def R_Ck : String := "NetDesk$Cookie"
def T_Ck : u_T := fun k => match k with
  | 0 => ("NetDesk$Cookie", "site", "Ljava/lang/String;", true)
  | 1 => ("NetDesk$Cookie", "name", "Ljava/lang/String;", true)
  | _ => ("NetDesk$Cookie", "value", "Ljava/lang/String;", true)
def ty_Ck : Nat → FieldType := fun k => match k with
  | 0 => (.object "java/lang/String")
  | 1 => (.object "java/lang/String")
  | _ => (.object "java/lang/String")
theorem nm_Ck : ∀ a, a < 3 → ∀ b, b < 3 → a ≠ b → (T_Ck a).2.1 ≠ (T_Ck b).2.1 := by decide +kernel
theorem tyok_Ck : ∀ k, k < 3 → parseFieldDescriptor (T_Ck k).2.2.1 = some (ty_Ck k) := by decide +kernel
set_option maxRecDepth 20000 in
theorem in_Ck : ∀ w ∈ u_ws "NetDesk$Cookie" T_Ck 3, w ∈ lw_tbl := by
  have h : (u_ws "NetDesk$Cookie" T_Ck 3).all (fun w => decide (w ∈ tables_1)) = true := by decide +kernel
  exact fun w hw => List.mem_append_right _ (of_decide_eq_true (List.all_eq_true.mp h w hw))
theorem zDf_Ck : ∀ j, j < ([.null, .null, .null] : List Value).length → ([.null, .null, .null] : List Value)[j]? = some (defaultValue (ty_Ck j)) := by decide +kernel
def R_Kt : String := "NetDesk$Kept"
def T_Kt : u_T := fun k => match k with
  | 0 => ("NetDesk$Kept", "answer", "LNetDesk$Answer;", true)
  | _ => ("NetDesk$Kept", "time", "I", true)
def ty_Kt : Nat → FieldType := fun k => match k with
  | 0 => (.object "NetDesk$Answer")
  | _ => .int
theorem nm_Kt : ∀ a, a < 2 → ∀ b, b < 2 → a ≠ b → (T_Kt a).2.1 ≠ (T_Kt b).2.1 := by decide +kernel
theorem tyok_Kt : ∀ k, k < 2 → parseFieldDescriptor (T_Kt k).2.2.1 = some (ty_Kt k) := by decide +kernel
set_option maxRecDepth 20000 in
theorem in_Kt : ∀ w ∈ u_ws "NetDesk$Kept" T_Kt 2, w ∈ lw_tbl := by
  have h : (u_ws "NetDesk$Kept" T_Kt 2).all (fun w => decide (w ∈ tables_1)) = true := by decide +kernel
  exact fun w hw => List.mem_append_right _ (of_decide_eq_true (List.all_eq_true.mp h w hw))
theorem zDf_Kt : ∀ j, j < ([.null, .int 0] : List Value).length → ([.null, .int 0] : List Value)[j]? = some (defaultValue (ty_Kt j)) := by decide +kernel
def R_Mo : String := "NetDeskModel"
def T_Mo : u_T := fun k => match k with
  | 0 => ("NetDeskModel", "tape", "[B", true)
  | 1 => ("NetDeskModel", "taped", "I", false)
  | 2 => ("NetDeskModel", "text", "[B", true)
  | 3 => ("NetDeskModel", "tn", "I", false)
  | 4 => ("NetDeskModel", "out", "[B", true)
  | 5 => ("NetDeskModel", "outSize", "I", false)
  | 6 => ("NetDeskModel", "row", "[B", true)
  | 7 => ("NetDeskModel", "size", "[I", true)
  | 8 => ("NetDeskModel", "mark", "[I", true)
  | 9 => ("NetDeskModel", "segments", "[B", true)
  | 10 => ("NetDeskModel", "segmentAt", "[I", true)
  | 11 => ("NetDeskModel", "segmentSize", "[I", true)
  | 12 => ("NetDeskModel", "segmentCount", "I", false)
  | 13 => ("NetDeskModel", "segmentBytes", "I", false)
  | 14 => ("NetDeskModel", "lastWent", "Z", false)
  | 15 => ("NetDeskModel", "readAt", "I", false)
  | 16 => ("NetDeskModel", "answers", "I", false)
  | 17 => ("NetDeskModel", "body", "[B", true)
  | 18 => ("NetDeskModel", "bodySize", "[I", true)
  | 19 => ("NetDeskModel", "age", "[I", true)
  | 20 => ("NetDeskModel", "cookie", "[B", true)
  | 21 => ("NetDeskModel", "cookieName", "[I", true)
  | 22 => ("NetDeskModel", "cookieValue", "[I", true)
  | 23 => ("NetDeskModel", "hasTo", "[Z", true)
  | 24 => ("NetDeskModel", "isOpen", "[Z", true)
  | 25 => ("NetDeskModel", "clock", "I", false)
  | 26 => ("NetDeskModel", "kept", "I", false)
  | 27 => ("NetDeskModel", "keptCount", "I", false)
  | 28 => ("NetDeskModel", "keptTime", "[I", true)
  | 29 => ("NetDeskModel", "keptWhen", "[I", true)
  | 30 => ("NetDeskModel", "cookies", "I", false)
  | 31 => ("NetDeskModel", "jar", "[B", true)
  | 32 => ("NetDeskModel", "jarSite", "[I", true)
  | 33 => ("NetDeskModel", "jarName", "[I", true)
  | 34 => ("NetDeskModel", "jarValue", "[I", true)
  | 35 => ("NetDeskModel", "requests", "I", false)
  | 36 => ("NetDeskModel", "sent", "[B", true)
  | 37 => ("NetDeskModel", "sentSize", "I", false)
  | 38 => ("NetDeskModel", "newAge", "I", false)
  | 39 => ("NetDeskModel", "newName", "I", false)
  | 40 => ("NetDeskModel", "newValue", "I", false)
  | 41 => ("NetDeskModel", "newTo", "I", false)
  | 42 => ("NetDeskModel", "newOpen", "I", false)
  | 43 => ("NetDeskModel", "newCookie", "[B", true)
  | 44 => ("NetDeskModel", "got", "I", false)
  | 45 => ("NetDeskModel", "followed", "I", false)
  | 46 => ("NetDeskModel", "wasKept", "Z", false)
  | 47 => ("NetDeskModel", "came", "[B", true)
  | 48 => ("NetDeskModel", "cameSize", "I", false)
  | 49 => ("NetDeskModel", "cameOpen", "Z", false)
  | _ => ("NetDeskModel", "some", "Z", false)
def ty_Mo : Nat → FieldType := fun k => match k with
  | 0 => (.array .byte)
  | 1 => .int
  | 2 => (.array .byte)
  | 3 => .int
  | 4 => (.array .byte)
  | 5 => .int
  | 6 => (.array .byte)
  | 7 => (.array .int)
  | 8 => (.array .int)
  | 9 => (.array .byte)
  | 10 => (.array .int)
  | 11 => (.array .int)
  | 12 => .int
  | 13 => .int
  | 14 => .boolean
  | 15 => .int
  | 16 => .int
  | 17 => (.array .byte)
  | 18 => (.array .int)
  | 19 => (.array .int)
  | 20 => (.array .byte)
  | 21 => (.array .int)
  | 22 => (.array .int)
  | 23 => (.array .boolean)
  | 24 => (.array .boolean)
  | 25 => .int
  | 26 => .int
  | 27 => .int
  | 28 => (.array .int)
  | 29 => (.array .int)
  | 30 => .int
  | 31 => (.array .byte)
  | 32 => (.array .int)
  | 33 => (.array .int)
  | 34 => (.array .int)
  | 35 => .int
  | 36 => (.array .byte)
  | 37 => .int
  | 38 => .int
  | 39 => .int
  | 40 => .int
  | 41 => .int
  | 42 => .int
  | 43 => (.array .byte)
  | 44 => .int
  | 45 => .int
  | 46 => .boolean
  | 47 => (.array .byte)
  | 48 => .int
  | 49 => .boolean
  | _ => .boolean
theorem nm_Mo : ∀ a, a < 51 → ∀ b, b < 51 → a ≠ b → (T_Mo a).2.1 ≠ (T_Mo b).2.1 := by decide +kernel
theorem tyok_Mo : ∀ k, k < 51 → parseFieldDescriptor (T_Mo k).2.2.1 = some (ty_Mo k) := by decide +kernel
set_option maxRecDepth 20000 in
theorem in_Mo : ∀ w ∈ u_ws "NetDeskModel" T_Mo 51, w ∈ lw_tbl := by
  have h : (u_ws "NetDeskModel" T_Mo 51).all (fun w => decide (w ∈ tables_1)) = true := by decide +kernel
  exact fun w hw => List.mem_append_right _ (of_decide_eq_true (List.all_eq_true.mp h w hw))
theorem zDf_Mo : ∀ j, j < ([.null, .int 0, .null, .int 0, .null, .int 0, .null, .null, .null, .null, .null, .null, .int 0, .int 0, .int 0, .int 0, .int 0, .null, .null, .null, .null, .null, .null, .null, .null, .int 0, .int 0, .int 0, .null, .null, .int 0, .null, .null, .null, .null, .int 0, .null, .int 0, .int 0, .int 0, .int 0, .int 0, .int 0, .null, .int 0, .int 0, .int 0, .null, .int 0, .int 0, .int 0] : List Value).length → ([.null, .int 0, .null, .int 0, .null, .int 0, .null, .null, .null, .null, .null, .null, .int 0, .int 0, .int 0, .int 0, .int 0, .null, .null, .null, .null, .null, .null, .null, .null, .int 0, .int 0, .int 0, .null, .null, .int 0, .null, .null, .null, .null, .int 0, .null, .int 0, .int 0, .int 0, .int 0, .int 0, .int 0, .null, .int 0, .int 0, .int 0, .null, .int 0, .int 0, .int 0] : List Value)[j]? = some (defaultValue (ty_Mo j)) := by decide +kernel
abbrev classes : List vw_C := [("NetDesk", T_N, 17), ("java/lang/StringBuilder", T_Sb, 4), ("NetDesk$Address", T_Ad, 4), ("NetDesk$Answer", T_An, 7), ("NetDesk$Fields", T_Fl, 6), ("java/util/ArrayList", T_Al, 3), ("NetDesk$Jar", T_Jr, 1), ("NetDesk$Keep", T_Kp, 1), ("java/lang/String", T_St, 4), ("NetDesk$Path", T_Pt, 2), ("NetDesk$ServerText", T_Sv, 4), ("NetDesk$Cookie", T_Ck, 3), ("NetDesk$Kept", T_Kt, 2), ("NetDeskModel", T_Mo, 51)]
