section
-- ===== PART A: goes FIRST, ahead of the names: the tables' words, and 'selects' of the private methods out of them =====
/-- a private method of a class that the tables say can be made, by its rows of tables_1 -/
def lw_okq (q : MethodName × Nat) : Prop := (q.1.cls ≠ "java/lang/invoke/MethodHandle" ∧ q.1.cls ≠ "java/lang/invoke/VarHandle") ∧ Cond.instantiable q.1.cls q.2 ∈ tables_1 ∧ Cond.privateMethod q.1 ∈ tables_1 ∧ Cond.instanceMethod q.1 ∈ tables_1
theorem lw_p0 : lw_okq (⟨"NetDesk", "addWord", "(I)V"⟩, 17) := ⟨⟨by decide +kernel, by decide +kernel⟩, List.mem_of_getElem? (i := 29) (by decide +kernel), List.mem_of_getElem? (i := 276) (by decide +kernel), List.mem_of_getElem? (i := 277) (by decide +kernel)⟩
theorem lw_p1 : lw_okq (⟨"NetDesk", "takeText", "()Ljava/lang/String;"⟩, 17) := ⟨⟨by decide +kernel, by decide +kernel⟩, List.mem_of_getElem? (i := 29) (by decide +kernel), List.mem_of_getElem? (i := 419) (by decide +kernel), List.mem_of_getElem? (i := 420) (by decide +kernel)⟩
theorem lw_p2 : lw_okq (⟨"NetDesk$Path", "pop", "()V"⟩, 2) := ⟨⟨by decide +kernel, by decide +kernel⟩, List.mem_of_getElem? (i := 619) (by decide +kernel), List.mem_of_getElem? (i := 689) (by decide +kernel), List.mem_of_getElem? (i := 690) (by decide +kernel)⟩
theorem lw_p3 : lw_okq (⟨"NetDesk$Path", "takeOne", "(Ljava/lang/String;Z)Z"⟩, 2) := ⟨⟨by decide +kernel, by decide +kernel⟩, List.mem_of_getElem? (i := 619) (by decide +kernel), List.mem_of_getElem? (i := 705) (by decide +kernel), List.mem_of_getElem? (i := 706) (by decide +kernel)⟩
theorem lw_p4 : lw_okq (⟨"NetDesk$Path", "push", "(Ljava/lang/String;)V"⟩, 2) := ⟨⟨by decide +kernel, by decide +kernel⟩, List.mem_of_getElem? (i := 619) (by decide +kernel), List.mem_of_getElem? (i := 712) (by decide +kernel), List.mem_of_getElem? (i := 713) (by decide +kernel)⟩
theorem lw_p5 : lw_okq (⟨"NetDesk", "writeAddress", "(LNetDesk$Address;Ljava/lang/String;)I"⟩, 17) := ⟨⟨by decide +kernel, by decide +kernel⟩, List.mem_of_getElem? (i := 29) (by decide +kernel), List.mem_of_getElem? (i := 719) (by decide +kernel), List.mem_of_getElem? (i := 720) (by decide +kernel)⟩
theorem lw_p6 : lw_okq (⟨"NetDesk$ServerText", "takeAddress", "(Ljava/lang/String;)Z"⟩, 4) := ⟨⟨by decide +kernel, by decide +kernel⟩, List.mem_of_getElem? (i := 738) (by decide +kernel), List.mem_of_getElem? (i := 771) (by decide +kernel), List.mem_of_getElem? (i := 772) (by decide +kernel)⟩
theorem lw_p7 : lw_okq (⟨"NetDesk$Fields", "takeAge", "(Ljava/lang/String;)Z"⟩, 6) := ⟨⟨by decide +kernel, by decide +kernel⟩, List.mem_of_getElem? (i := 98) (by decide +kernel), List.mem_of_getElem? (i := 788) (by decide +kernel), List.mem_of_getElem? (i := 789) (by decide +kernel)⟩
theorem lw_p8 : lw_okq (⟨"NetDesk$Fields", "takeCookie", "(Ljava/lang/String;)Z"⟩, 6) := ⟨⟨by decide +kernel, by decide +kernel⟩, List.mem_of_getElem? (i := 98) (by decide +kernel), List.mem_of_getElem? (i := 799) (by decide +kernel), List.mem_of_getElem? (i := 800) (by decide +kernel)⟩
theorem lw_p9 : lw_okq (⟨"NetDesk", "placeOfAnswer", "(LNetDesk$Address;)I"⟩, 17) := ⟨⟨by decide +kernel, by decide +kernel⟩, List.mem_of_getElem? (i := 29) (by decide +kernel), List.mem_of_getElem? (i := 810) (by decide +kernel), List.mem_of_getElem? (i := 811) (by decide +kernel)⟩
theorem lw_p10 : lw_okq (⟨"java/util/ArrayList", "add", "(Ljava/lang/Object;[Ljava/lang/Object;I)V"⟩, 3) := ⟨⟨by decide +kernel, by decide +kernel⟩, List.mem_of_getElem? (i := 163) (by decide +kernel), List.mem_of_getElem? (i := 843) (by decide +kernel), List.mem_of_getElem? (i := 844) (by decide +kernel)⟩
theorem lw_p11 : lw_okq (⟨"java/util/ArrayList", "grow", "()[Ljava/lang/Object;"⟩, 3) := ⟨⟨by decide +kernel, by decide +kernel⟩, List.mem_of_getElem? (i := 163) (by decide +kernel), List.mem_of_getElem? (i := 847) (by decide +kernel), List.mem_of_getElem? (i := 848) (by decide +kernel)⟩
theorem lw_p12 : lw_okq (⟨"java/util/ArrayList", "grow", "(I)[Ljava/lang/Object;"⟩, 3) := ⟨⟨by decide +kernel, by decide +kernel⟩, List.mem_of_getElem? (i := 163) (by decide +kernel), List.mem_of_getElem? (i := 851) (by decide +kernel), List.mem_of_getElem? (i := 852) (by decide +kernel)⟩
theorem lw_p13 : lw_okq (⟨"NetDesk", "follow", "(LNetDesk$Address;)V"⟩, 17) := ⟨⟨by decide +kernel, by decide +kernel⟩, List.mem_of_getElem? (i := 29) (by decide +kernel), List.mem_of_getElem? (i := 889) (by decide +kernel), List.mem_of_getElem? (i := 890) (by decide +kernel)⟩
theorem lw_p14 : lw_okq (⟨"NetDesk", "answerFrom", "(LNetDesk$Address;)LNetDesk$Answer;"⟩, 17) := ⟨⟨by decide +kernel, by decide +kernel⟩, List.mem_of_getElem? (i := 29) (by decide +kernel), List.mem_of_getElem? (i := 893) (by decide +kernel), List.mem_of_getElem? (i := 894) (by decide +kernel)⟩
theorem lw_p15 : lw_okq (⟨"NetDesk$Keep", "placeOf", "(LNetDesk$Address;)I"⟩, 1) := ⟨⟨by decide +kernel, by decide +kernel⟩, List.mem_of_getElem? (i := 201) (by decide +kernel), List.mem_of_getElem? (i := 901) (by decide +kernel), List.mem_of_getElem? (i := 902) (by decide +kernel)⟩
def lw_privs_1 : List (MethodName × Nat) := [(⟨"NetDesk", "addWord", "(I)V"⟩, 17), (⟨"NetDesk", "takeText", "()Ljava/lang/String;"⟩, 17), (⟨"NetDesk$Path", "pop", "()V"⟩, 2), (⟨"NetDesk$Path", "takeOne", "(Ljava/lang/String;Z)Z"⟩, 2), (⟨"NetDesk$Path", "push", "(Ljava/lang/String;)V"⟩, 2), (⟨"NetDesk", "writeAddress", "(LNetDesk$Address;Ljava/lang/String;)I"⟩, 17), (⟨"NetDesk$ServerText", "takeAddress", "(Ljava/lang/String;)Z"⟩, 4), (⟨"NetDesk$Fields", "takeAge", "(Ljava/lang/String;)Z"⟩, 6), (⟨"NetDesk$Fields", "takeCookie", "(Ljava/lang/String;)Z"⟩, 6), (⟨"NetDesk", "placeOfAnswer", "(LNetDesk$Address;)I"⟩, 17), (⟨"java/util/ArrayList", "add", "(Ljava/lang/Object;[Ljava/lang/Object;I)V"⟩, 3), (⟨"java/util/ArrayList", "grow", "()[Ljava/lang/Object;"⟩, 3), (⟨"java/util/ArrayList", "grow", "(I)[Ljava/lang/Object;"⟩, 3), (⟨"NetDesk", "follow", "(LNetDesk$Address;)V"⟩, 17), (⟨"NetDesk", "answerFrom", "(LNetDesk$Address;)LNetDesk$Answer;"⟩, 17), (⟨"NetDesk$Keep", "placeOf", "(LNetDesk$Address;)I"⟩, 1)]
theorem lw_r1 : ∀ q ∈ lw_privs_1, lw_okq q := List.forall_mem_cons.mpr ⟨lw_p0, List.forall_mem_cons.mpr ⟨lw_p1, List.forall_mem_cons.mpr ⟨lw_p2, List.forall_mem_cons.mpr ⟨lw_p3, List.forall_mem_cons.mpr ⟨lw_p4, List.forall_mem_cons.mpr ⟨lw_p5, List.forall_mem_cons.mpr ⟨lw_p6, List.forall_mem_cons.mpr ⟨lw_p7, List.forall_mem_cons.mpr ⟨lw_p8, List.forall_mem_cons.mpr ⟨lw_p9, List.forall_mem_cons.mpr ⟨lw_p10, List.forall_mem_cons.mpr ⟨lw_p11, List.forall_mem_cons.mpr ⟨lw_p12, List.forall_mem_cons.mpr ⟨lw_p13, List.forall_mem_cons.mpr ⟨lw_p14, List.forall_mem_cons.mpr ⟨lw_p15, fun _ h => absurd h List.not_mem_nil⟩⟩⟩⟩⟩⟩⟩⟩⟩⟩⟩⟩⟩⟩⟩⟩
theorem lw_p16 : lw_okq (⟨"NetDesk", "request", "(LNetDesk$Address;)LNetDesk$Answer;"⟩, 17) := ⟨⟨by decide +kernel, by decide +kernel⟩, List.mem_of_getElem? (i := 29) (by decide +kernel), List.mem_of_getElem? (i := 909) (by decide +kernel), List.mem_of_getElem? (i := 910) (by decide +kernel)⟩
theorem lw_p17 : lw_okq (⟨"java/util/ArrayList", "fastRemove", "([Ljava/lang/Object;I)V"⟩, 3) := ⟨⟨by decide +kernel, by decide +kernel⟩, List.mem_of_getElem? (i := 163) (by decide +kernel), List.mem_of_getElem? (i := 973) (by decide +kernel), List.mem_of_getElem? (i := 974) (by decide +kernel)⟩
theorem lw_p18 : lw_okq (⟨"NetDeskModel", "take", "()I"⟩, 51) := ⟨⟨by decide +kernel, by decide +kernel⟩, List.mem_of_getElem? (i := 1021) (by decide +kernel), List.mem_of_getElem? (i := 1019) (by decide +kernel), List.mem_of_getElem? (i := 1020) (by decide +kernel)⟩
theorem lw_p19 : lw_okq (⟨"NetDeskModel", "tokenEnd", "(I)I"⟩, 51) := ⟨⟨by decide +kernel, by decide +kernel⟩, List.mem_of_getElem? (i := 1021) (by decide +kernel), List.mem_of_getElem? (i := 1027) (by decide +kernel), List.mem_of_getElem? (i := 1028) (by decide +kernel)⟩
theorem lw_p20 : lw_okq (⟨"NetDeskModel", "refer", "([BIII)Z"⟩, 51) := ⟨⟨by decide +kernel, by decide +kernel⟩, List.mem_of_getElem? (i := 1021) (by decide +kernel), List.mem_of_getElem? (i := 1034) (by decide +kernel), List.mem_of_getElem? (i := 1035) (by decide +kernel)⟩
theorem lw_p21 : lw_okq (⟨"NetDeskModel", "put", "(II)V"⟩, 51) := ⟨⟨by decide +kernel, by decide +kernel⟩, List.mem_of_getElem? (i := 1021) (by decide +kernel), List.mem_of_getElem? (i := 1047) (by decide +kernel), List.mem_of_getElem? (i := 1048) (by decide +kernel)⟩
theorem lw_p22 : lw_okq (⟨"NetDeskModel", "segments", "([BI)Z"⟩, 51) := ⟨⟨by decide +kernel, by decide +kernel⟩, List.mem_of_getElem? (i := 1021) (by decide +kernel), List.mem_of_getElem? (i := 1051) (by decide +kernel), List.mem_of_getElem? (i := 1052) (by decide +kernel)⟩
theorem lw_p23 : lw_okq (⟨"NetDeskModel", "oneSegment", "([BI)Z"⟩, 51) := ⟨⟨by decide +kernel, by decide +kernel⟩, List.mem_of_getElem? (i := 1021) (by decide +kernel), List.mem_of_getElem? (i := 1055) (by decide +kernel), List.mem_of_getElem? (i := 1056) (by decide +kernel)⟩
theorem lw_p24 : lw_okq (⟨"NetDeskModel", "segment", "([BII)V"⟩, 51) := ⟨⟨by decide +kernel, by decide +kernel⟩, List.mem_of_getElem? (i := 1021) (by decide +kernel), List.mem_of_getElem? (i := 1062) (by decide +kernel), List.mem_of_getElem? (i := 1063) (by decide +kernel)⟩
theorem lw_p25 : lw_okq (⟨"NetDeskModel", "siteEnd", "(I)I"⟩, 51) := ⟨⟨by decide +kernel, by decide +kernel⟩, List.mem_of_getElem? (i := 1021) (by decide +kernel), List.mem_of_getElem? (i := 1066) (by decide +kernel), List.mem_of_getElem? (i := 1067) (by decide +kernel)⟩
theorem lw_p26 : lw_okq (⟨"NetDeskModel", "baseSegments", "(IZ)V"⟩, 51) := ⟨⟨by decide +kernel, by decide +kernel⟩, List.mem_of_getElem? (i := 1021) (by decide +kernel), List.mem_of_getElem? (i := 1070) (by decide +kernel), List.mem_of_getElem? (i := 1071) (by decide +kernel)⟩
theorem lw_p27 : lw_okq (⟨"NetDeskModel", "queryAt", "(I)I"⟩, 51) := ⟨⟨by decide +kernel, by decide +kernel⟩, List.mem_of_getElem? (i := 1021) (by decide +kernel), List.mem_of_getElem? (i := 1074) (by decide +kernel), List.mem_of_getElem? (i := 1075) (by decide +kernel)⟩
theorem lw_p28 : lw_okq (⟨"NetDeskModel", "query", "([BIIZ)Z"⟩, 51) := ⟨⟨by decide +kernel, by decide +kernel⟩, List.mem_of_getElem? (i := 1021) (by decide +kernel), List.mem_of_getElem? (i := 1078) (by decide +kernel), List.mem_of_getElem? (i := 1079) (by decide +kernel)⟩
theorem lw_p29 : lw_okq (⟨"NetDeskModel", "copyRow", "(II)V"⟩, 51) := ⟨⟨by decide +kernel, by decide +kernel⟩, List.mem_of_getElem? (i := 1021) (by decide +kernel), List.mem_of_getElem? (i := 1085) (by decide +kernel), List.mem_of_getElem? (i := 1086) (by decide +kernel)⟩
theorem lw_p30 : lw_okq (⟨"NetDeskModel", "field", "(II)Z"⟩, 51) := ⟨⟨by decide +kernel, by decide +kernel⟩, List.mem_of_getElem? (i := 1021) (by decide +kernel), List.mem_of_getElem? (i := 1089) (by decide +kernel), List.mem_of_getElem? (i := 1090) (by decide +kernel)⟩
theorem lw_p31 : lw_okq (⟨"NetDeskModel", "alike", "(II)Z"⟩, 51) := ⟨⟨by decide +kernel, by decide +kernel⟩, List.mem_of_getElem? (i := 1021) (by decide +kernel), List.mem_of_getElem? (i := 1101) (by decide +kernel), List.mem_of_getElem? (i := 1102) (by decide +kernel)⟩
def lw_privs_2 : List (MethodName × Nat) := [(⟨"NetDesk", "request", "(LNetDesk$Address;)LNetDesk$Answer;"⟩, 17), (⟨"java/util/ArrayList", "fastRemove", "([Ljava/lang/Object;I)V"⟩, 3), (⟨"NetDeskModel", "take", "()I"⟩, 51), (⟨"NetDeskModel", "tokenEnd", "(I)I"⟩, 51), (⟨"NetDeskModel", "refer", "([BIII)Z"⟩, 51), (⟨"NetDeskModel", "put", "(II)V"⟩, 51), (⟨"NetDeskModel", "segments", "([BI)Z"⟩, 51), (⟨"NetDeskModel", "oneSegment", "([BI)Z"⟩, 51), (⟨"NetDeskModel", "segment", "([BII)V"⟩, 51), (⟨"NetDeskModel", "siteEnd", "(I)I"⟩, 51), (⟨"NetDeskModel", "baseSegments", "(IZ)V"⟩, 51), (⟨"NetDeskModel", "queryAt", "(I)I"⟩, 51), (⟨"NetDeskModel", "query", "([BIIZ)Z"⟩, 51), (⟨"NetDeskModel", "copyRow", "(II)V"⟩, 51), (⟨"NetDeskModel", "field", "(II)Z"⟩, 51), (⟨"NetDeskModel", "alike", "(II)Z"⟩, 51)]
theorem lw_r2 : ∀ q ∈ lw_privs_2, lw_okq q := List.forall_mem_cons.mpr ⟨lw_p16, List.forall_mem_cons.mpr ⟨lw_p17, List.forall_mem_cons.mpr ⟨lw_p18, List.forall_mem_cons.mpr ⟨lw_p19, List.forall_mem_cons.mpr ⟨lw_p20, List.forall_mem_cons.mpr ⟨lw_p21, List.forall_mem_cons.mpr ⟨lw_p22, List.forall_mem_cons.mpr ⟨lw_p23, List.forall_mem_cons.mpr ⟨lw_p24, List.forall_mem_cons.mpr ⟨lw_p25, List.forall_mem_cons.mpr ⟨lw_p26, List.forall_mem_cons.mpr ⟨lw_p27, List.forall_mem_cons.mpr ⟨lw_p28, List.forall_mem_cons.mpr ⟨lw_p29, List.forall_mem_cons.mpr ⟨lw_p30, List.forall_mem_cons.mpr ⟨lw_p31, fun _ h => absurd h List.not_mem_nil⟩⟩⟩⟩⟩⟩⟩⟩⟩⟩⟩⟩⟩⟩⟩⟩
theorem lw_p32 : lw_okq (⟨"NetDeskModel", "putFour", "(I)V"⟩, 51) := ⟨⟨by decide +kernel, by decide +kernel⟩, List.mem_of_getElem? (i := 1021) (by decide +kernel), List.mem_of_getElem? (i := 1272) (by decide +kernel), List.mem_of_getElem? (i := 1273) (by decide +kernel)⟩
theorem lw_p33 : lw_okq (⟨"NetDeskModel", "sayRow", "(I)V"⟩, 51) := ⟨⟨by decide +kernel, by decide +kernel⟩, List.mem_of_getElem? (i := 1021) (by decide +kernel), List.mem_of_getElem? (i := 1288) (by decide +kernel), List.mem_of_getElem? (i := 1289) (by decide +kernel)⟩
theorem lw_p34 : lw_okq (⟨"NetDeskModel", "sayAll", "([BII)V"⟩, 51) := ⟨⟨by decide +kernel, by decide +kernel⟩, List.mem_of_getElem? (i := 1021) (by decide +kernel), List.mem_of_getElem? (i := 1292) (by decide +kernel), List.mem_of_getElem? (i := 1293) (by decide +kernel)⟩
theorem lw_p35 : lw_okq (⟨"NetDeskModel", "say", "(I)V"⟩, 51) := ⟨⟨by decide +kernel, by decide +kernel⟩, List.mem_of_getElem? (i := 1021) (by decide +kernel), List.mem_of_getElem? (i := 1296) (by decide +kernel), List.mem_of_getElem? (i := 1297) (by decide +kernel)⟩
theorem lw_p36 : lw_okq (⟨"NetDeskModel", "fetchIt", "()V"⟩, 51) := ⟨⟨by decide +kernel, by decide +kernel⟩, List.mem_of_getElem? (i := 1021) (by decide +kernel), List.mem_of_getElem? (i := 1308) (by decide +kernel), List.mem_of_getElem? (i := 1309) (by decide +kernel)⟩
theorem lw_p37 : lw_okq (⟨"NetDeskModel", "ask", "()V"⟩, 51) := ⟨⟨by decide +kernel, by decide +kernel⟩, List.mem_of_getElem? (i := 1021) (by decide +kernel), List.mem_of_getElem? (i := 1312) (by decide +kernel), List.mem_of_getElem? (i := 1313) (by decide +kernel)⟩
theorem lw_p38 : lw_okq (⟨"NetDeskModel", "tellCookies", "()V"⟩, 51) := ⟨⟨by decide +kernel, by decide +kernel⟩, List.mem_of_getElem? (i := 1021) (by decide +kernel), List.mem_of_getElem? (i := 1316) (by decide +kernel), List.mem_of_getElem? (i := 1317) (by decide +kernel)⟩
theorem lw_p39 : lw_okq (⟨"NetDeskModel", "send", "(I)V"⟩, 51) := ⟨⟨by decide +kernel, by decide +kernel⟩, List.mem_of_getElem? (i := 1021) (by decide +kernel), List.mem_of_getElem? (i := 1320) (by decide +kernel), List.mem_of_getElem? (i := 1321) (by decide +kernel)⟩
theorem lw_p40 : lw_okq (⟨"NetDeskModel", "dropCookie", "(I)V"⟩, 51) := ⟨⟨by decide +kernel, by decide +kernel⟩, List.mem_of_getElem? (i := 1021) (by decide +kernel), List.mem_of_getElem? (i := 1324) (by decide +kernel), List.mem_of_getElem? (i := 1325) (by decide +kernel)⟩
theorem lw_p41 : lw_okq (⟨"NetDeskModel", "keep", "(I)V"⟩, 51) := ⟨⟨by decide +kernel, by decide +kernel⟩, List.mem_of_getElem? (i := 1021) (by decide +kernel), List.mem_of_getElem? (i := 1328) (by decide +kernel), List.mem_of_getElem? (i := 1329) (by decide +kernel)⟩
def lw_privs_3 : List (MethodName × Nat) := [(⟨"NetDeskModel", "putFour", "(I)V"⟩, 51), (⟨"NetDeskModel", "sayRow", "(I)V"⟩, 51), (⟨"NetDeskModel", "sayAll", "([BII)V"⟩, 51), (⟨"NetDeskModel", "say", "(I)V"⟩, 51), (⟨"NetDeskModel", "fetchIt", "()V"⟩, 51), (⟨"NetDeskModel", "ask", "()V"⟩, 51), (⟨"NetDeskModel", "tellCookies", "()V"⟩, 51), (⟨"NetDeskModel", "send", "(I)V"⟩, 51), (⟨"NetDeskModel", "dropCookie", "(I)V"⟩, 51), (⟨"NetDeskModel", "keep", "(I)V"⟩, 51)]
theorem lw_r3 : ∀ q ∈ lw_privs_3, lw_okq q := List.forall_mem_cons.mpr ⟨lw_p32, List.forall_mem_cons.mpr ⟨lw_p33, List.forall_mem_cons.mpr ⟨lw_p34, List.forall_mem_cons.mpr ⟨lw_p35, List.forall_mem_cons.mpr ⟨lw_p36, List.forall_mem_cons.mpr ⟨lw_p37, List.forall_mem_cons.mpr ⟨lw_p38, List.forall_mem_cons.mpr ⟨lw_p39, List.forall_mem_cons.mpr ⟨lw_p40, List.forall_mem_cons.mpr ⟨lw_p41, fun _ h => absurd h List.not_mem_nil⟩⟩⟩⟩⟩⟩⟩⟩⟩⟩
def lw_privs : List (MethodName × Nat) := lw_privs_1 ++ (lw_privs_2 ++ (lw_privs_3))
def lw_tbl : List Cond := k2_sels lw_privs ++ tables_1
theorem lw_privs_ok : ∀ q ∈ lw_privs, lw_okq q := by
  show ∀ q ∈ lw_privs_1 ++ (lw_privs_2 ++ (lw_privs_3)), lw_okq q
  exact List.forall_mem_append.mpr ⟨lw_r1, List.forall_mem_append.mpr ⟨lw_r2, lw_r3⟩⟩

theorem zapp {α : Type} {w : α} {a b : List α} (h : w ∈ b) : w ∈ a ++ b := List.mem_append_right _ h
theorem zt1 (i : Nat) {w : Cond} (h : tables_1_1[i]? = some w) : w ∈ lw_tbl := List.mem_append_right _ (show w ∈ tables_1 from List.mem_append_left _ (List.mem_of_getElem? h))
theorem zt2 (i : Nat) {w : Cond} (h : tables_1_2[i]? = some w) : w ∈ lw_tbl := List.mem_append_right _ (show w ∈ tables_1 from List.mem_append_right _ (List.mem_append_left _ (List.mem_of_getElem? h)))
theorem zt3 (i : Nat) {w : Cond} (h : tables_1_3[i]? = some w) : w ∈ lw_tbl := List.mem_append_right _ (show w ∈ tables_1 from List.mem_append_right _ (List.mem_append_right _ (List.mem_append_left _ (List.mem_of_getElem? h))))
theorem zt4 (i : Nat) {w : Cond} (h : tables_1_4[i]? = some w) : w ∈ lw_tbl := List.mem_append_right _ (show w ∈ tables_1 from List.mem_append_right _ (List.mem_append_right _ (List.mem_append_right _ (List.mem_append_left _ (List.mem_of_getElem? h)))))
theorem zt5 (i : Nat) {w : Cond} (h : tables_1_5[i]? = some w) : w ∈ lw_tbl := List.mem_append_right _ (show w ∈ tables_1 from List.mem_append_right _ (List.mem_append_right _ (List.mem_append_right _ (List.mem_append_right _ (List.mem_append_left _ (List.mem_of_getElem? h))))))
theorem zt6 (i : Nat) {w : Cond} (h : tables_1_6[i]? = some w) : w ∈ lw_tbl := List.mem_append_right _ (show w ∈ tables_1 from List.mem_append_right _ (List.mem_append_right _ (List.mem_append_right _ (List.mem_append_right _ (List.mem_append_right _ (List.mem_of_getElem? h))))))
theorem zsel (i : Nat) {q : MethodName × Nat} (h : lw_privs[i]? = some q) : Cond.selects q.1.cls q.1 q.1 ∈ lw_tbl := List.mem_append_left _ (List.mem_map.mpr ⟨q, List.mem_of_getElem? h, rfl⟩)
theorem zo_inst : Cond.instanceMethod objectInit ∈ lw_tbl := zt1 34 (by decide +kernel)
-- ['(Jvm.Cond.code ({ cls := "java/lang/Object", name := "<init>", desc := "()V" } : Jvm.MethodName) object_method_1_code (1 : Nat) (Option.none : Option Jvm.ClassFile.FieldType))']
theorem zo_code : Cond.code objectInit ⟨#[0xb1]⟩ 1 none ∈ lw_tbl := zt1 35 (by decide +kernel)
def R_N : String := "NetDesk"
def T_N : u_T := fun k => match k with
  | 0 => ("NetDesk", "tape", "Ljava/lang/StringBuilder;", true)
  | 1 => ("NetDesk", "written", "Ljava/lang/StringBuilder;", true)
  | 2 => ("NetDesk", "home", "LNetDesk$Address;", true)
  | 3 => ("NetDesk", "empty", "LNetDesk$Answer;", true)
  | 4 => ("NetDesk", "answers", "Ljava/util/ArrayList;", true)
  | 5 => ("NetDesk", "jar", "LNetDesk$Jar;", true)
  | 6 => ("NetDesk", "keep", "LNetDesk$Keep;", true)
  | 7 => ("NetDesk", "requestCookies", "Ljava/lang/StringBuilder;", true)
  | 8 => ("NetDesk", "theBase", "LNetDesk$Address;", false)
  | 9 => ("NetDesk", "clock", "I", false)
  | 10 => ("NetDesk", "requests", "I", false)
  | 11 => ("NetDesk", "requestAt", "LNetDesk$Address;", false)
  | 12 => ("NetDesk", "came", "LNetDesk$Answer;", false)
  | 13 => ("NetDesk", "cameFrom", "LNetDesk$Address;", false)
  | 14 => ("NetDesk", "firstMark", "Ljava/lang/String;", false)
  | 15 => ("NetDesk", "followed", "I", false)
  | _ => ("NetDesk", "cameKept", "Z", false)
def ty_N : Nat → FieldType := fun k => match k with
  | 0 => (.object "java/lang/StringBuilder")
  | 1 => (.object "java/lang/StringBuilder")
  | 2 => (.object "NetDesk$Address")
  | 3 => (.object "NetDesk$Answer")
  | 4 => (.object "java/util/ArrayList")
  | 5 => (.object "NetDesk$Jar")
  | 6 => (.object "NetDesk$Keep")
  | 7 => (.object "java/lang/StringBuilder")
  | 8 => (.object "NetDesk$Address")
  | 9 => .int
  | 10 => .int
  | 11 => (.object "NetDesk$Address")
  | 12 => (.object "NetDesk$Answer")
  | 13 => (.object "NetDesk$Address")
  | 14 => (.object "java/lang/String")
  | 15 => .int
  | _ => .boolean
theorem nm_N : ∀ a, a < 17 → ∀ b, b < 17 → a ≠ b → (T_N a).2.1 ≠ (T_N b).2.1 := by decide +kernel
theorem tyok_N : ∀ k, k < 17 → parseFieldDescriptor (T_N k).2.2.1 = some (ty_N k) := by decide +kernel
set_option maxRecDepth 20000 in
theorem in_N : ∀ w ∈ u_ws "NetDesk" T_N 17, w ∈ lw_tbl := by
  have h : (u_ws "NetDesk" T_N 17).all (fun w => decide (w ∈ tables_1)) = true := by decide +kernel
  exact fun w hw => List.mem_append_right _ (of_decide_eq_true (List.all_eq_true.mp h w hw))
theorem zDf_N : ∀ j, j < ([.null, .null, .null, .null, .null, .null, .null, .null, .null, .int 0, .int 0, .null, .null, .null, .null, .int 0, .int 0] : List Value).length → ([.null, .null, .null, .null, .null, .null, .null, .null, .null, .int 0, .int 0, .null, .null, .null, .null, .int 0, .int 0] : List Value)[j]? = some (defaultValue (ty_N j)) := by decide +kernel
def R_Sb : String := "java/lang/StringBuilder"
def T_Sb : u_T := fun k => match k with
  | 0 => ("java/lang/AbstractStringBuilder", "value", "[B", false)
  | 1 => ("java/lang/AbstractStringBuilder", "coder", "B", false)
  | 2 => ("java/lang/AbstractStringBuilder", "maybeLatin1", "Z", false)
  | _ => ("java/lang/AbstractStringBuilder", "count", "I", false)
def ty_Sb : Nat → FieldType := fun k => match k with
  | 0 => (.array .byte)
  | 1 => .byte
  | 2 => .boolean
  | _ => .int
theorem nm_Sb : ∀ a, a < 4 → ∀ b, b < 4 → a ≠ b → (T_Sb a).2.1 ≠ (T_Sb b).2.1 := by decide +kernel
theorem tyok_Sb : ∀ k, k < 4 → parseFieldDescriptor (T_Sb k).2.2.1 = some (ty_Sb k) := by decide +kernel
set_option maxRecDepth 20000 in
theorem in_Sb : ∀ w ∈ u_ws "java/lang/StringBuilder" T_Sb 4, w ∈ lw_tbl := by
  have h : (u_ws "java/lang/StringBuilder" T_Sb 4).all (fun w => decide (w ∈ tables_1)) = true := by decide +kernel
  exact fun w hw => List.mem_append_right _ (of_decide_eq_true (List.all_eq_true.mp h w hw))
theorem zDf_Sb : ∀ j, j < ([.null, .int 0, .int 0, .int 0] : List Value).length → ([.null, .int 0, .int 0, .int 0] : List Value)[j]? = some (defaultValue (ty_Sb j)) := by decide +kernel
def R_Ad : String := "NetDesk$Address"
def T_Ad : u_T := fun k => match k with
  | 0 => ("NetDesk$Address", "site", "Ljava/lang/String;", true)
  | 1 => ("NetDesk$Address", "path", "Ljava/lang/String;", true)
  | 2 => ("NetDesk$Address", "query", "Ljava/lang/String;", true)
  | _ => ("NetDesk$Address", "mark", "Ljava/lang/String;", true)
def ty_Ad : Nat → FieldType := fun k => match k with
  | 0 => (.object "java/lang/String")
  | 1 => (.object "java/lang/String")
  | 2 => (.object "java/lang/String")
  | _ => (.object "java/lang/String")
theorem nm_Ad : ∀ a, a < 4 → ∀ b, b < 4 → a ≠ b → (T_Ad a).2.1 ≠ (T_Ad b).2.1 := by decide +kernel
theorem tyok_Ad : ∀ k, k < 4 → parseFieldDescriptor (T_Ad k).2.2.1 = some (ty_Ad k) := by decide +kernel
set_option maxRecDepth 20000 in
theorem in_Ad : ∀ w ∈ u_ws "NetDesk$Address" T_Ad 4, w ∈ lw_tbl := by
  have h : (u_ws "NetDesk$Address" T_Ad 4).all (fun w => decide (w ∈ tables_1)) = true := by decide +kernel
  exact fun w hw => List.mem_append_right _ (of_decide_eq_true (List.all_eq_true.mp h w hw))
theorem zDf_Ad : ∀ j, j < ([.null, .null, .null, .null] : List Value).length → ([.null, .null, .null, .null] : List Value)[j]? = some (defaultValue (ty_Ad j)) := by decide +kernel
def R_An : String := "NetDesk$Answer"
def T_An : u_T := fun k => match k with
  | 0 => ("NetDesk$Answer", "at", "LNetDesk$Address;", true)
  | 1 => ("NetDesk$Answer", "age", "I", true)
  | 2 => ("NetDesk$Answer", "cookieName", "Ljava/lang/String;", true)
  | 3 => ("NetDesk$Answer", "cookieValue", "Ljava/lang/String;", true)
  | 4 => ("NetDesk$Answer", "to", "LNetDesk$Address;", true)
  | 5 => ("NetDesk$Answer", "open", "Z", true)
  | _ => ("NetDesk$Answer", "content", "Ljava/lang/String;", true)
def ty_An : Nat → FieldType := fun k => match k with
  | 0 => (.object "NetDesk$Address")
  | 1 => .int
  | 2 => (.object "java/lang/String")
  | 3 => (.object "java/lang/String")
  | 4 => (.object "NetDesk$Address")
  | 5 => .boolean
  | _ => (.object "java/lang/String")
theorem nm_An : ∀ a, a < 7 → ∀ b, b < 7 → a ≠ b → (T_An a).2.1 ≠ (T_An b).2.1 := by decide +kernel
theorem tyok_An : ∀ k, k < 7 → parseFieldDescriptor (T_An k).2.2.1 = some (ty_An k) := by decide +kernel
set_option maxRecDepth 20000 in
theorem in_An : ∀ w ∈ u_ws "NetDesk$Answer" T_An 7, w ∈ lw_tbl := by
  have h : (u_ws "NetDesk$Answer" T_An 7).all (fun w => decide (w ∈ tables_1)) = true := by decide +kernel
  exact fun w hw => List.mem_append_right _ (of_decide_eq_true (List.all_eq_true.mp h w hw))
theorem zDf_An : ∀ j, j < ([.null, .int 0, .null, .null, .null, .int 0, .null] : List Value).length → ([.null, .int 0, .null, .null, .null, .int 0, .null] : List Value)[j]? = some (defaultValue (ty_An j)) := by decide +kernel
def R_Fl : String := "NetDesk$Fields"
def T_Fl : u_T := fun k => match k with
  | 0 => ("NetDesk$Fields", "hasAge", "Z", false)
  | 1 => ("NetDesk$Fields", "age", "I", false)
  | 2 => ("NetDesk$Fields", "cookieName", "Ljava/lang/String;", false)
  | 3 => ("NetDesk$Fields", "cookieValue", "Ljava/lang/String;", false)
  | 4 => ("NetDesk$Fields", "to", "LNetDesk$Address;", false)
  | _ => ("NetDesk$Fields", "open", "Z", false)
def ty_Fl : Nat → FieldType := fun k => match k with
  | 0 => .boolean
  | 1 => .int
  | 2 => (.object "java/lang/String")
  | 3 => (.object "java/lang/String")
  | 4 => (.object "NetDesk$Address")
  | _ => .boolean
theorem nm_Fl : ∀ a, a < 6 → ∀ b, b < 6 → a ≠ b → (T_Fl a).2.1 ≠ (T_Fl b).2.1 := by decide +kernel
theorem tyok_Fl : ∀ k, k < 6 → parseFieldDescriptor (T_Fl k).2.2.1 = some (ty_Fl k) := by decide +kernel
set_option maxRecDepth 20000 in
theorem in_Fl : ∀ w ∈ u_ws "NetDesk$Fields" T_Fl 6, w ∈ lw_tbl := by
  have h : (u_ws "NetDesk$Fields" T_Fl 6).all (fun w => decide (w ∈ tables_1)) = true := by decide +kernel
  exact fun w hw => List.mem_append_right _ (of_decide_eq_true (List.all_eq_true.mp h w hw))
theorem zDf_Fl : ∀ j, j < ([.int 0, .int 0, .null, .null, .null, .int 0] : List Value).length → ([.int 0, .int 0, .null, .null, .null, .int 0] : List Value)[j]? = some (defaultValue (ty_Fl j)) := by decide +kernel
def R_Al : String := "java/util/ArrayList"
def T_Al : u_T := fun k => match k with
  | 0 => ("java/util/ArrayList", "elementData", "[Ljava/lang/Object;", false)
  | 1 => ("java/util/ArrayList", "size", "I", false)
  | _ => ("java/util/AbstractList", "modCount", "I", false)
def ty_Al : Nat → FieldType := fun k => match k with
  | 0 => (.array (.object "java/lang/Object"))
  | 1 => .int
  | _ => .int
theorem nm_Al : ∀ a, a < 3 → ∀ b, b < 3 → a ≠ b → (T_Al a).2.1 ≠ (T_Al b).2.1 := by decide +kernel
theorem tyok_Al : ∀ k, k < 3 → parseFieldDescriptor (T_Al k).2.2.1 = some (ty_Al k) := by decide +kernel
set_option maxRecDepth 20000 in
theorem in_Al : ∀ w ∈ u_ws "java/util/ArrayList" T_Al 3, w ∈ lw_tbl := by
  have h : (u_ws "java/util/ArrayList" T_Al 3).all (fun w => decide (w ∈ tables_1)) = true := by decide +kernel
  exact fun w hw => List.mem_append_right _ (of_decide_eq_true (List.all_eq_true.mp h w hw))
theorem zDf_Al : ∀ j, j < ([.null, .int 0, .int 0] : List Value).length → ([.null, .int 0, .int 0] : List Value)[j]? = some (defaultValue (ty_Al j)) := by decide +kernel
def R_Jr : String := "NetDesk$Jar"
def T_Jr : u_T := fun k => match k with
  | _ => ("NetDesk$Jar", "cookies", "Ljava/util/ArrayList;", true)
def ty_Jr : Nat → FieldType := fun k => match k with
  | _ => (.object "java/util/ArrayList")
theorem nm_Jr : ∀ a, a < 1 → ∀ b, b < 1 → a ≠ b → (T_Jr a).2.1 ≠ (T_Jr b).2.1 := by decide +kernel
theorem tyok_Jr : ∀ k, k < 1 → parseFieldDescriptor (T_Jr k).2.2.1 = some (ty_Jr k) := by decide +kernel
set_option maxRecDepth 20000 in
theorem in_Jr : ∀ w ∈ u_ws "NetDesk$Jar" T_Jr 1, w ∈ lw_tbl := by
  have h : (u_ws "NetDesk$Jar" T_Jr 1).all (fun w => decide (w ∈ tables_1)) = true := by decide +kernel
  exact fun w hw => List.mem_append_right _ (of_decide_eq_true (List.all_eq_true.mp h w hw))
theorem zDf_Jr : ∀ j, j < ([.null] : List Value).length → ([.null] : List Value)[j]? = some (defaultValue (ty_Jr j)) := by decide +kernel
def R_Kp : String := "NetDesk$Keep"
def T_Kp : u_T := fun k => match k with
  | _ => ("NetDesk$Keep", "all", "Ljava/util/ArrayList;", true)
def ty_Kp : Nat → FieldType := fun k => match k with
  | _ => (.object "java/util/ArrayList")
theorem nm_Kp : ∀ a, a < 1 → ∀ b, b < 1 → a ≠ b → (T_Kp a).2.1 ≠ (T_Kp b).2.1 := by decide +kernel
theorem tyok_Kp : ∀ k, k < 1 → parseFieldDescriptor (T_Kp k).2.2.1 = some (ty_Kp k) := by decide +kernel
set_option maxRecDepth 20000 in
theorem in_Kp : ∀ w ∈ u_ws "NetDesk$Keep" T_Kp 1, w ∈ lw_tbl := by
  have h : (u_ws "NetDesk$Keep" T_Kp 1).all (fun w => decide (w ∈ tables_1)) = true := by decide +kernel
  exact fun w hw => List.mem_append_right _ (of_decide_eq_true (List.all_eq_true.mp h w hw))
theorem zDf_Kp : ∀ j, j < ([.null] : List Value).length → ([.null] : List Value)[j]? = some (defaultValue (ty_Kp j)) := by decide +kernel
def R_St : String := "java/lang/String"
def T_St : u_T := fun k => match k with
  | 0 => ("java/lang/String", "value", "[B", true)
  | 1 => ("java/lang/String", "coder", "B", true)
  | 2 => ("java/lang/String", "hash", "I", false)
  | _ => ("java/lang/String", "hashIsZero", "Z", false)
def ty_St : Nat → FieldType := fun k => match k with
  | 0 => (.array .byte)
  | 1 => .byte
  | 2 => .int
  | _ => .boolean
theorem nm_St : ∀ a, a < 4 → ∀ b, b < 4 → a ≠ b → (T_St a).2.1 ≠ (T_St b).2.1 := by decide +kernel
theorem tyok_St : ∀ k, k < 4 → parseFieldDescriptor (T_St k).2.2.1 = some (ty_St k) := by decide +kernel
set_option maxRecDepth 20000 in
theorem in_St : ∀ w ∈ u_ws "java/lang/String" T_St 4, w ∈ lw_tbl := by
  have h : (u_ws "java/lang/String" T_St 4).all (fun w => decide (w ∈ tables_1)) = true := by decide +kernel
  exact fun w hw => List.mem_append_right _ (of_decide_eq_true (List.all_eq_true.mp h w hw))
theorem zDf_St : ∀ j, j < ([.null, .int 0, .int 0, .int 0] : List Value).length → ([.null, .int 0, .int 0, .int 0] : List Value)[j]? = some (defaultValue (ty_St j)) := by decide +kernel
def R_Pt : String := "NetDesk$Path"
def T_Pt : u_T := fun k => match k with
  | 0 => ("NetDesk$Path", "joined", "Ljava/lang/StringBuilder;", true)
  | _ => ("NetDesk$Path", "size", "I", false)
def ty_Pt : Nat → FieldType := fun k => match k with
  | 0 => (.object "java/lang/StringBuilder")
  | _ => .int
theorem nm_Pt : ∀ a, a < 2 → ∀ b, b < 2 → a ≠ b → (T_Pt a).2.1 ≠ (T_Pt b).2.1 := by decide +kernel
theorem tyok_Pt : ∀ k, k < 2 → parseFieldDescriptor (T_Pt k).2.2.1 = some (ty_Pt k) := by decide +kernel
set_option maxRecDepth 20000 in
theorem in_Pt : ∀ w ∈ u_ws "NetDesk$Path" T_Pt 2, w ∈ lw_tbl := by
  have h : (u_ws "NetDesk$Path" T_Pt 2).all (fun w => decide (w ∈ tables_1)) = true := by decide +kernel
  exact fun w hw => List.mem_append_right _ (of_decide_eq_true (List.all_eq_true.mp h w hw))
theorem zDf_Pt : ∀ j, j < ([.null, .int 0] : List Value).length → ([.null, .int 0] : List Value)[j]? = some (defaultValue (ty_Pt j)) := by decide +kernel
def R_Sv : String := "NetDesk$ServerText"
def T_Sv : u_T := fun k => match k with
  | 0 => ("NetDesk$ServerText", "text", "Ljava/lang/String;", true)
  | 1 => ("NetDesk$ServerText", "fields", "LNetDesk$Fields;", true)
  | 2 => ("NetDesk$ServerText", "at", "LNetDesk$Address;", false)
  | _ => ("NetDesk$ServerText", "content", "Ljava/lang/String;", false)
def ty_Sv : Nat → FieldType := fun k => match k with
  | 0 => (.object "java/lang/String")
  | 1 => (.object "NetDesk$Fields")
  | 2 => (.object "NetDesk$Address")
  | _ => (.object "java/lang/String")
theorem nm_Sv : ∀ a, a < 4 → ∀ b, b < 4 → a ≠ b → (T_Sv a).2.1 ≠ (T_Sv b).2.1 := by decide +kernel
theorem tyok_Sv : ∀ k, k < 4 → parseFieldDescriptor (T_Sv k).2.2.1 = some (ty_Sv k) := by decide +kernel
set_option maxRecDepth 20000 in
theorem in_Sv : ∀ w ∈ u_ws "NetDesk$ServerText" T_Sv 4, w ∈ lw_tbl := by
  have h : (u_ws "NetDesk$ServerText" T_Sv 4).all (fun w => decide (w ∈ tables_1)) = true := by decide +kernel
  exact fun w hw => List.mem_append_right _ (of_decide_eq_true (List.all_eq_true.mp h w hw))
theorem zDf_Sv : ∀ j, j < ([.null, .null, .null, .null] : List Value).length → ([.null, .null, .null, .null] : List Value)[j]? = some (defaultValue (ty_Sv j)) := by decide +kernel
def R_Ck : String := "NetDesk$Cookie"
def T_Ck : u_T := fun k => match k with
  | 0 => ("NetDesk$Cookie", "site", "Ljava/lang/String;", true)
  | 1 => ("NetDesk$Cookie", "name", "Ljava/lang/String;", true)
  | _ => ("NetDesk$Cookie", "value", "Ljava/lang/String;", true)
def ty_Ck : Nat → FieldType := fun k => match k with
  | 0 => (.object "java/lang/String")
  | 1 => (.object "java/lang/String")
  | _ => (.object "java/lang/String")
theorem nm_Ck : ∀ a, a < 3 → ∀ b, b < 3 → a ≠ b → (T_Ck a).2.1 ≠ (T_Ck b).2.1 := by decide +kernel
theorem tyok_Ck : ∀ k, k < 3 → parseFieldDescriptor (T_Ck k).2.2.1 = some (ty_Ck k) := by decide +kernel
set_option maxRecDepth 20000 in
theorem in_Ck : ∀ w ∈ u_ws "NetDesk$Cookie" T_Ck 3, w ∈ lw_tbl := by
  have h : (u_ws "NetDesk$Cookie" T_Ck 3).all (fun w => decide (w ∈ tables_1)) = true := by decide +kernel
  exact fun w hw => List.mem_append_right _ (of_decide_eq_true (List.all_eq_true.mp h w hw))
theorem zDf_Ck : ∀ j, j < ([.null, .null, .null] : List Value).length → ([.null, .null, .null] : List Value)[j]? = some (defaultValue (ty_Ck j)) := by decide +kernel
def R_Kt : String := "NetDesk$Kept"
def T_Kt : u_T := fun k => match k with
  | 0 => ("NetDesk$Kept", "answer", "LNetDesk$Answer;", true)
  | _ => ("NetDesk$Kept", "time", "I", true)
def ty_Kt : Nat → FieldType := fun k => match k with
  | 0 => (.object "NetDesk$Answer")
  | _ => .int
theorem nm_Kt : ∀ a, a < 2 → ∀ b, b < 2 → a ≠ b → (T_Kt a).2.1 ≠ (T_Kt b).2.1 := by decide +kernel
theorem tyok_Kt : ∀ k, k < 2 → parseFieldDescriptor (T_Kt k).2.2.1 = some (ty_Kt k) := by decide +kernel
set_option maxRecDepth 20000 in
theorem in_Kt : ∀ w ∈ u_ws "NetDesk$Kept" T_Kt 2, w ∈ lw_tbl := by
  have h : (u_ws "NetDesk$Kept" T_Kt 2).all (fun w => decide (w ∈ tables_1)) = true := by decide +kernel
  exact fun w hw => List.mem_append_right _ (of_decide_eq_true (List.all_eq_true.mp h w hw))
theorem zDf_Kt : ∀ j, j < ([.null, .int 0] : List Value).length → ([.null, .int 0] : List Value)[j]? = some (defaultValue (ty_Kt j)) := by decide +kernel
def R_Mo : String := "NetDeskModel"
def T_Mo : u_T := fun k => match k with
  | 0 => ("NetDeskModel", "tape", "[B", true)
  | 1 => ("NetDeskModel", "taped", "I", false)
  | 2 => ("NetDeskModel", "text", "[B", true)
  | 3 => ("NetDeskModel", "tn", "I", false)
  | 4 => ("NetDeskModel", "out", "[B", true)
  | 5 => ("NetDeskModel", "outSize", "I", false)
  | 6 => ("NetDeskModel", "row", "[B", true)
  | 7 => ("NetDeskModel", "size", "[I", true)
  | 8 => ("NetDeskModel", "mark", "[I", true)
  | 9 => ("NetDeskModel", "segments", "[B", true)
  | 10 => ("NetDeskModel", "segmentAt", "[I", true)
  | 11 => ("NetDeskModel", "segmentSize", "[I", true)
  | 12 => ("NetDeskModel", "segmentCount", "I", false)
  | 13 => ("NetDeskModel", "segmentBytes", "I", false)
  | 14 => ("NetDeskModel", "lastWent", "Z", false)
  | 15 => ("NetDeskModel", "readAt", "I", false)
  | 16 => ("NetDeskModel", "answers", "I", false)
  | 17 => ("NetDeskModel", "body", "[B", true)
  | 18 => ("NetDeskModel", "bodySize", "[I", true)
  | 19 => ("NetDeskModel", "age", "[I", true)
  | 20 => ("NetDeskModel", "cookie", "[B", true)
  | 21 => ("NetDeskModel", "cookieName", "[I", true)
  | 22 => ("NetDeskModel", "cookieValue", "[I", true)
  | 23 => ("NetDeskModel", "hasTo", "[Z", true)
  | 24 => ("NetDeskModel", "isOpen", "[Z", true)
  | 25 => ("NetDeskModel", "clock", "I", false)
  | 26 => ("NetDeskModel", "kept", "I", false)
  | 27 => ("NetDeskModel", "keptCount", "I", false)
  | 28 => ("NetDeskModel", "keptTime", "[I", true)
  | 29 => ("NetDeskModel", "keptWhen", "[I", true)
  | 30 => ("NetDeskModel", "cookies", "I", false)
  | 31 => ("NetDeskModel", "jar", "[B", true)
  | 32 => ("NetDeskModel", "jarSite", "[I", true)
  | 33 => ("NetDeskModel", "jarName", "[I", true)
  | 34 => ("NetDeskModel", "jarValue", "[I", true)
  | 35 => ("NetDeskModel", "requests", "I", false)
  | 36 => ("NetDeskModel", "sent", "[B", true)
  | 37 => ("NetDeskModel", "sentSize", "I", false)
  | 38 => ("NetDeskModel", "newAge", "I", false)
  | 39 => ("NetDeskModel", "newName", "I", false)
  | 40 => ("NetDeskModel", "newValue", "I", false)
  | 41 => ("NetDeskModel", "newTo", "I", false)
  | 42 => ("NetDeskModel", "newOpen", "I", false)
  | 43 => ("NetDeskModel", "newCookie", "[B", true)
  | 44 => ("NetDeskModel", "got", "I", false)
  | 45 => ("NetDeskModel", "followed", "I", false)
  | 46 => ("NetDeskModel", "wasKept", "Z", false)
  | 47 => ("NetDeskModel", "came", "[B", true)
  | 48 => ("NetDeskModel", "cameSize", "I", false)
  | 49 => ("NetDeskModel", "cameOpen", "Z", false)
  | _ => ("NetDeskModel", "some", "Z", false)
def ty_Mo : Nat → FieldType := fun k => match k with
  | 0 => (.array .byte)
  | 1 => .int
  | 2 => (.array .byte)
  | 3 => .int
  | 4 => (.array .byte)
  | 5 => .int
  | 6 => (.array .byte)
  | 7 => (.array .int)
  | 8 => (.array .int)
  | 9 => (.array .byte)
  | 10 => (.array .int)
  | 11 => (.array .int)
  | 12 => .int
  | 13 => .int
  | 14 => .boolean
  | 15 => .int
  | 16 => .int
  | 17 => (.array .byte)
  | 18 => (.array .int)
  | 19 => (.array .int)
  | 20 => (.array .byte)
  | 21 => (.array .int)
  | 22 => (.array .int)
  | 23 => (.array .boolean)
  | 24 => (.array .boolean)
  | 25 => .int
  | 26 => .int
  | 27 => .int
  | 28 => (.array .int)
  | 29 => (.array .int)
  | 30 => .int
  | 31 => (.array .byte)
  | 32 => (.array .int)
  | 33 => (.array .int)
  | 34 => (.array .int)
  | 35 => .int
  | 36 => (.array .byte)
  | 37 => .int
  | 38 => .int
  | 39 => .int
  | 40 => .int
  | 41 => .int
  | 42 => .int
  | 43 => (.array .byte)
  | 44 => .int
  | 45 => .int
  | 46 => .boolean
  | 47 => (.array .byte)
  | 48 => .int
  | 49 => .boolean
  | _ => .boolean
theorem nm_Mo : ∀ a, a < 51 → ∀ b, b < 51 → a ≠ b → (T_Mo a).2.1 ≠ (T_Mo b).2.1 := by decide +kernel
theorem tyok_Mo : ∀ k, k < 51 → parseFieldDescriptor (T_Mo k).2.2.1 = some (ty_Mo k) := by decide +kernel
set_option maxRecDepth 20000 in
theorem in_Mo : ∀ w ∈ u_ws "NetDeskModel" T_Mo 51, w ∈ lw_tbl := by
  have h : (u_ws "NetDeskModel" T_Mo 51).all (fun w => decide (w ∈ tables_1)) = true := by decide +kernel
  exact fun w hw => List.mem_append_right _ (of_decide_eq_true (List.all_eq_true.mp h w hw))
theorem zDf_Mo : ∀ j, j < ([.null, .int 0, .null, .int 0, .null, .int 0, .null, .null, .null, .null, .null, .null, .int 0, .int 0, .int 0, .int 0, .int 0, .null, .null, .null, .null, .null, .null, .null, .null, .int 0, .int 0, .int 0, .null, .null, .int 0, .null, .null, .null, .null, .int 0, .null, .int 0, .int 0, .int 0, .int 0, .int 0, .int 0, .null, .int 0, .int 0, .int 0, .null, .int 0, .int 0, .int 0] : List Value).length → ([.null, .int 0, .null, .int 0, .null, .int 0, .null, .null, .null, .null, .null, .null, .int 0, .int 0, .int 0, .int 0, .int 0, .null, .null, .null, .null, .null, .null, .null, .null, .int 0, .int 0, .int 0, .null, .null, .int 0, .null, .null, .null, .null, .int 0, .null, .int 0, .int 0, .int 0, .int 0, .int 0, .int 0, .null, .int 0, .int 0, .int 0, .null, .int 0, .int 0, .int 0] : List Value)[j]? = some (defaultValue (ty_Mo j)) := by decide +kernel
abbrev classes : List vw_C := [("NetDesk", T_N, 17), ("java/lang/StringBuilder", T_Sb, 4), ("NetDesk$Address", T_Ad, 4), ("NetDesk$Answer", T_An, 7), ("NetDesk$Fields", T_Fl, 6), ("java/util/ArrayList", T_Al, 3), ("NetDesk$Jar", T_Jr, 1), ("NetDesk$Keep", T_Kp, 1), ("java/lang/String", T_St, 4), ("NetDesk$Path", T_Pt, 2), ("NetDesk$ServerText", T_Sv, 4), ("NetDesk$Cookie", T_Ck, 3), ("NetDesk$Kept", T_Kt, 2), ("NetDeskModel", T_Mo, 51)]
end
section
/-! A LAYER OVER W. One judgement zW with nothing of the machine in it but a frame (pc, locals, stack) and a heap; the room is in the heap's own size (caps), the words come from the law's entry state. -/
abbrev zG : Type := Launch × State × va_G × Nat × Nat × (Nat → Nat) × Array Value
def zl (G : zG) : Launch := G.1
def zS (G : zG) : State := G.2.1
def zD (G : zG) : va_G := G.2.2.1
def zCp (G : zG) : Nat := G.2.2.2.1
def zSp (G : zG) : Nat := G.2.2.2.2.1
def zKa (G : zG) : Nat → Nat := G.2.2.2.2.2.1
def zAg (G : zG) : Array Value := G.2.2.2.2.2.2
abbrev zMd : Type := MethodName × ByteArray × Nat × Option FieldType
def zT (H : Heap) : Nat := (H.toList.map (fun c => c.slots.size)).sum
def zFr (G : zG) : Nat → Prop := fun q => (zS G).heap.size ≤ q
def zOk (G : zG) (H : Heap) : Prop := (zS G).heap.size ≤ H.size ∧ (∀ q : Nat, q < (zS G).heap.size → H[q]? = (zS G).heap[q]?) ∧ H.size ≤ zCp G ∧ zT H ≤ zSp G
def zR (G : zG) (d : Nat) (H : Heap) : Room := { frames := d, cells := zCp G - H.size, slots := zSp G - zT H, locals := 41 * d }
def zQ (G : zG) (Q : Option Value → Heap → Prop) : Array Value → State → Outcome → State → Prop := fun _ st o t => ∃ v, o = .returned v ∧ Q v t.heap ∧ zOk G t.heap ∧ st.heap.size ≤ t.heap.size ∧ zT st.heap ≤ zT t.heap
/-- every state that we meet is a warmer one of the law's entry -/
def zEnv (G : zG) (U : State) : Prop := (zS G).WarmedH U.vm
/-- what we know of the law's entry state -/
def zGo (G : zG) : Prop := (∀ w ∈ lw_tbl, w.before (zAg G) (zS G) = true) ∧ va_K (zD G) classes [] (zS G)
def zAt (M : zMd) (p : Program) (s : State) (m : MethodId) (meth : Method) (c : Code) : Prop :=
  p.tables.exec = Jvm.exec ∧ c.code = M.2.1 ∧ c.maxLocals = M.2.2.1 ∧ meth.sig.returnType = M.2.2.2 ∧ meth.locks = false ∧ s.vm.findClass M.1.cls = some m.cls ∧ meth.name = M.1.name
def zLs (ls : Array Slot) (lv : List (Option Value)) : Prop := ls.size = lv.length ∧ lv_wf ls ∧ ∀ (i : Nat) (v : Value), lv[i]? = some (some v) → ls[i]? = some (.val v) ∧ v.category = 1
def zW (G : zG) (d : Nat) (M : zMd) (pc : Nat) (lv : List (Option Value)) (st : List Value) (H : Heap) (Q : Option Value → Heap → Prop) : Prop :=
  ∀ (p : Program) (e : Env) (s : State) (m : MethodId) (args : Array Value) (below : List Frame) (meth : Method) (c : Code) (locs : List Loc) (ls : Array Slot) (cells slots : Nat),
    zGo G → zEnv G s → zAt M p s m meth c → lv.length = M.2.2.1 → zLs ls lv → (∀ q ∈ locs, zFr G q.base) → zOk G s.heap → zOk G H →
    W p (zl G) e (zR G d s.heap) s m args below meth c H locs cells slots (MQ below (zQ G Q) args s (zCp G - s.heap.size) (zSp G - zT s.heap) (zFr G)) (F0 m pc ls st)
def zC (G : zG) (d : Nat) (M : zMd) (av : List Value) (H : Heap) (Q : Option Value → Heap → Prop) : Prop :=
  zOk G H → Met (zl G) M.1 [Cond.code M.1 M.2.1 M.2.2.1 M.2.2.2] (zR G d H) (va_Pc av (fun U => U.heap = H ∧ zEnv G U)) (zQ G Q) (zCp G - H.size) (zSp G - zT H) (zFr G)
theorem zsum_append (a b : List Nat) : (a ++ b).sum = a.sum + b.sum := by
  induction a with
  | nil => simp
  | cons x l ih => simp [Nat.add_assoc]
/-- the counters are what the heap shows -/
theorem zTight {p : Program} {l : Launch} {e : Env} {R : Room} {s : State} {m : MethodId} {args : Array Value} {below : List Frame} {meth : Method} {c : Code} {T : State} {locs : List Loc} {cells slots : Nat}
    (X : Stand p l e R s m args below meth c T locs cells slots) : s.heap.size ≤ T.heap.size ∧ zT s.heap ≤ zT T.heap ∧ Stand p l e R s m args below meth c T locs (T.heap.size - s.heap.size) (zT T.heap - zT s.heap) := by
  obtain ⟨h1, h2, h3, h4, h5, h6⟩ := X.same
  have h2' : s.heap.size ≤ T.heap.size := h2
  have h6' : ∀ a c, s.heap[a]? = some c → ∃ c', T.heap[a]? = some c' ∧ c' = { c with slots := c'.slots } ∧ c'.slots.size = c.slots.size ∧ ∀ i, (⟨a, i⟩ : Loc) ∉ locs → c'.slots[i]? = c.slots[i]? := h6
  have e1 : (T.heap.toList.take s.heap.size).map (fun c => c.slots.size) = s.heap.toList.map (fun c => c.slots.size) := by
    apply List.ext_getElem?
    intro i
    rw [List.getElem?_map, List.getElem?_map, List.getElem?_take]
    by_cases hi : i < s.heap.size
    · rw [if_pos hi]
      have hc : s.heap[i]? = some s.heap[i] := Array.getElem?_eq_getElem hi
      obtain ⟨c', g1, -, g3, -⟩ := h6' i _ hc
      rw [Array.getElem?_toList, Array.getElem?_toList, g1, hc]
      simp [g3]
    · rw [if_neg hi, Array.getElem?_toList, Array.getElem?_eq_none (by omega)]
  have e2 : zT T.heap = zT s.heap + ((T.heap.toList.drop s.heap.size).map (fun c => c.slots.size)).sum := by
    unfold zT
    rw [← e1, ← zsum_append, ← List.map_append, List.take_append_drop]
  refine ⟨h2', by omega, { X with same := ⟨h1, h2, ?_, h4, ?_, h6⟩ }⟩
  · show T.heap.size ≤ s.heap.size + (T.heap.size - s.heap.size)
    omega
  · show ((T.heap.toList.drop s.heap.size).map (fun c => c.slots.size)).sum ≤ zT T.heap - zT s.heap
    omega
section ZN
variable {p : Program} {l : Launch} {e : Env} {R : Room} {s : State} {m : MethodId} {args : Array Value} {below : List Frame} {meth : Method} {c : Code} {H : Heap} {locs : List Loc} {cells slots : Nat} {Q : State → Prop} {g : JFrame}
theorem zw_norm (k : s.heap.size ≤ H.size → zT s.heap ≤ zT H → W p l e R s m args below meth c H locs (H.size - s.heap.size) (zT H - zT s.heap) Q g) : W p l e R s m args below meth c H locs cells slots Q g := by
  intro T hT X
  obtain ⟨a, b, X'⟩ := zTight X
  subst hT
  exact k a b T rfl X'
end ZN
theorem zT_same {H H1 : Heap} (hz : H1.size = H.size) (h : ∀ q : Nat, q < H.size → ∃ c c' : Cell, H[q]? = some c ∧ H1[q]? = some c' ∧ c'.slots.size = c.slots.size) : zT H1 = zT H := by
  unfold zT
  congr 1
  apply List.ext_getElem?
  intro i
  rw [List.getElem?_map, List.getElem?_map, Array.getElem?_toList, Array.getElem?_toList]
  by_cases hi : i < H.size
  · obtain ⟨c, c', h1, h2, h3⟩ := h i hi
    rw [h1, h2]
    simp [h3]
  · rw [Array.getElem?_eq_none (by omega), Array.getElem?_eq_none (by omega)]
theorem zT_push (H : Heap) (c : Cell) : zT (H.push c) = zT H + c.slots.size := by
  unfold zT
  rw [Array.toList_push, List.map_append, zsum_append]
  simp
/-- one cell has changed, but not in its size -/
def zUp (a : Nat) (H H1 : Heap) : Prop := H1.size = H.size ∧ zT H1 = zT H ∧ ∀ q : Nat, q ≠ a → H1[q]? = H[q]?
theorem zUp_of {a : Nat} {H H1 : Heap} {c c' : Cell} (h0 : H[a]? = some c) (h1 : H1[a]? = some c') (hs : c'.slots.size = c.slots.size) (hz : H1.size = H.size) (hq : ∀ q : Nat, q ≠ a → H1[q]? = H[q]?) : zUp a H H1 := by
  refine ⟨hz, zT_same hz (fun q hl => ?_), hq⟩
  by_cases e : q = a
  · subst e
    exact ⟨c, c', h0, h1, hs⟩
  · exact ⟨H[q], H[q], Array.getElem?_eq_getElem hl, by rw [hq q e]; exact Array.getElem?_eq_getElem hl, rfl⟩
theorem zUp.ok {G : zG} {a : Nat} {H H1 : Heap} (h : zUp a H H1) (ha : zFr G a) (ho : zOk G H) : zOk G H1 := by
  obtain ⟨h1, h2, h3⟩ := h
  obtain ⟨o1, o2, o3, o4⟩ := ho
  exact ⟨by rw [h1]; exact o1, fun q hq => by rw [h3 q (fun e => by subst e; exact absurd hq (Nat.not_lt.mpr ha))]; exact o2 q hq, by rw [h1]; exact o3, by rw [h2]; exact o4⟩
/-- one cell more, of n slots, at the heap's end -/
def zNw (n : Nat) (H H1 : Heap) : Prop := H1.size = H.size + 1 ∧ zT H1 = zT H + n ∧ ∀ q : Nat, q < H.size → H1[q]? = H[q]?
theorem zNw_push (H : Heap) (c : Cell) : zNw c.slots.size H (H.push c) := ⟨by simp, zT_push H c, fun q hq => by rw [Array.getElem?_push, if_neg (Nat.ne_of_lt hq)]⟩
theorem zNw.ok {G : zG} {n : Nat} {H H1 : Heap} (h : zNw n H H1) (h1 : H.size + 1 ≤ zCp G) (h2 : zT H + n ≤ zSp G) (ho : zOk G H) : zOk G H1 := by
  obtain ⟨e1, e2, e3⟩ := h
  obtain ⟨o1, o2, o3, o4⟩ := ho
  exact ⟨by omega, fun q hq => by rw [e3 q (by omega)]; exact o2 q hq, by omega, by omega⟩
/-- a field of an object of class ci; an object; an array -/
def zFd (G : zG) (H : Heap) (a ci k : Nat) (v : Value) : Prop := ∃ cell : Cell, H[a]? = some cell ∧ cell.vm ≠ .unknown ∧ cell.slots[(zD G).2 ci k]? = some v
def zIs (G : zG) (H : Heap) (a ci : Nat) : Prop := ∃ cell : Cell, H[a]? = some cell ∧ cell.vm.isStatics = false ∧ cell.cls = (zD G).1 ci
def zObj (G : zG) (H : Heap) (a ci : Nat) (fs : List Value) : Prop := ∃ cell : Cell, H[a]? = some cell ∧ cell.cls = (zD G).1 ci ∧ cell.vm = .none ∧ ∀ k : Nat, k < fs.length → cell.slots[(zD G).2 ci k]? = fs[k]?
def zArr (G : zG) (H : Heap) (a : Nat) (ty : FieldType) (n : Nat) (f : Nat → Value) : Prop := ∃ cell : Cell, H[a]? = some cell ∧ (zS G).isArrayOf cell ty ∧ cell.vm ≠ .unknown ∧ cell.slots.size = n ∧ (∀ j : Nat, j < n → cell.slots[j]? = some (f j)) ∧ (zFr G a → va_RA (zS G) cell.cls ty)
theorem zObj.fd {G : zG} {H : Heap} {a ci k : Nat} {fs : List Value} {v : Value} (h : zObj G H a ci fs) (hk : fs[k]? = some v) : zFd G H a ci k v := by
  obtain ⟨cell, h1, h2, h3, h4⟩ := h
  exact ⟨cell, h1, (by rw [h3]; intro q; cases q), (by rw [h4 k (List.getElem?_eq_some_iff.mp hk).1]; exact hk)⟩
theorem zObj.is {G : zG} {H : Heap} {a ci : Nat} {fs : List Value} (h : zObj G H a ci fs) : zIs G H a ci := by
  obtain ⟨cell, h1, h2, h3, h4⟩ := h
  exact ⟨cell, h1, by rw [h3]; rfl, h2⟩
theorem zObj.lt {G : zG} {H : Heap} {a ci : Nat} {fs : List Value} (h : zObj G H a ci fs) : a < H.size := by
  obtain ⟨cell, h1, -⟩ := h
  exact (Array.getElem?_eq_some_iff.mp h1).1
theorem zIs.lt {G : zG} {H : Heap} {a ci : Nat} (h : zIs G H a ci) : a < H.size := by
  obtain ⟨cell, h1, -⟩ := h
  exact (Array.getElem?_eq_some_iff.mp h1).1
theorem zFd.lt {G : zG} {H : Heap} {a ci k : Nat} {v : Value} (h : zFd G H a ci k v) : a < H.size := by
  obtain ⟨cell, h1, -⟩ := h
  exact (Array.getElem?_eq_some_iff.mp h1).1
theorem zArr.lt {G : zG} {H : Heap} {a : Nat} {ty : FieldType} {n : Nat} {f : Nat → Value} (h : zArr G H a ty n f) : a < H.size := by
  obtain ⟨cell, h1, -⟩ := h
  exact (Array.getElem?_eq_some_iff.mp h1).1
theorem zObj.kept {G : zG} {H H1 : Heap} {a ci : Nat} {fs : List Value} (h : zObj G H a ci fs) (hq : H1[a]? = H[a]?) : zObj G H1 a ci fs := by
  obtain ⟨cell, h1, h2⟩ := h
  exact ⟨cell, hq.trans h1, h2⟩
theorem zIs.kept {G : zG} {H H1 : Heap} {a ci : Nat} (h : zIs G H a ci) (hq : H1[a]? = H[a]?) : zIs G H1 a ci := by
  obtain ⟨cell, h1, h2⟩ := h
  exact ⟨cell, hq.trans h1, h2⟩
theorem zFd.kept {G : zG} {H H1 : Heap} {a ci k : Nat} {v : Value} (h : zFd G H a ci k v) (hq : H1[a]? = H[a]?) : zFd G H1 a ci k v := by
  obtain ⟨cell, h1, h2⟩ := h
  exact ⟨cell, hq.trans h1, h2⟩
theorem zArr.kept {G : zG} {H H1 : Heap} {a : Nat} {ty : FieldType} {n : Nat} {f : Nat → Value} (h : zArr G H a ty n f) (hq : H1[a]? = H[a]?) : zArr G H1 a ty n f := by
  obtain ⟨cell, h1, h2⟩ := h
  exact ⟨cell, hq.trans h1, h2⟩
/-- words of the tables, at any state that we meet -/
theorem zWd {G : zG} {U : State} {a : Array Value} {w : Cond} (hG : zGo G) (hE : zEnv G U) (hw : w ∈ lw_tbl) (hg : (w.onTables && w.keeps) = true) : w.before a U = true := word_at hE (Or.inl hg) (hG.1 w hw)
theorem zK_at {G : zG} {U : State} (hG : zGo G) (hE : zEnv G U) : va_K (zD G) classes [] U := va_K.moved hE.alike hG.2
section ZP
variable {G : zG} {d : Nat} {M : zMd} {pc : Nat} {lv : List (Option Value)} {st : List Value} {H : Heap} {Q : Option Value → Heap → Prop}
/-- an instruction that only moves the frame: by a row of the kit -/
theorem zw_iconst {n : Int} (v : Int32) (hd : decode M.2.1 pc = .ok (.iconst n, 1)) (hv : Int32.ofInt n = v) (k : zW G d M (pc + 1) lv (.int v :: st) H Q) : zW G d M pc lv st H Q :=
  fun p e s m args below meth c locs ls cells slots g0 g1 A h1 h2 h3 h4 h5 => lv_iconst A.1 A.2.1 hd hv (k p e s m args below meth c locs ls cells slots g0 g1 A h1 h2 h3 h4 h5)
theorem zw_bipush {n : Int} (v : Int32) (hd : decode M.2.1 pc = .ok (.bipush n, 2)) (hv : (Int8.ofInt n).toInt32 = v) (k : zW G d M (pc + 2) lv (.int v :: st) H Q) : zW G d M pc lv st H Q :=
  fun p e s m args below meth c locs ls cells slots g0 g1 A h1 h2 h3 h4 h5 => lv_bipush A.1 A.2.1 hd hv (k p e s m args below meth c locs ls cells slots g0 g1 A h1 h2 h3 h4 h5)
theorem zw_sipush {n : Int} (v : Int32) (hd : decode M.2.1 pc = .ok (.sipush n, 3)) (hv : (Int16.ofInt n).toInt32 = v) (k : zW G d M (pc + 3) lv (.int v :: st) H Q) : zW G d M pc lv st H Q :=
  fun p e s m args below meth c locs ls cells slots g0 g1 A h1 h2 h3 h4 h5 => lv_sipush A.1 A.2.1 hd hv (k p e s m args below meth c locs ls cells slots g0 g1 A h1 h2 h3 h4 h5)
theorem zw_null (hd : decode M.2.1 pc = .ok (.aconst_null, 1)) (k : zW G d M (pc + 1) lv (.null :: st) H Q) : zW G d M pc lv st H Q :=
  fun p e s m args below meth c locs ls cells slots g0 g1 A h1 h2 h3 h4 h5 => lv_null A.1 A.2.1 hd (k p e s m args below meth c locs ls cells slots g0 g1 A h1 h2 h3 h4 h5)
theorem zw_iload_n {j : Fin 4} {i : Nat} {x : Int32} (hd : decode M.2.1 pc = .ok (.iload_n j, 1)) (hj : (j : Nat) = i) (hl : lv[i]? = some (some (.int x))) (k : zW G d M (pc + 1) lv (.int x :: st) H Q) : zW G d M pc lv st H Q :=
  fun p e s m args below meth c locs ls cells slots g0 g1 A h1 h2 h3 h4 h5 => lv_iload_n A.1 A.2.1 hd hj (h2.2.2 i _ hl).1 (k p e s m args below meth c locs ls cells slots g0 g1 A h1 h2 h3 h4 h5)
theorem zw_iload {i : Nat} {x : Int32} (hd : decode M.2.1 pc = .ok (.iload i, 2)) (hl : lv[i]? = some (some (.int x))) (k : zW G d M (pc + 2) lv (.int x :: st) H Q) : zW G d M pc lv st H Q :=
  fun p e s m args below meth c locs ls cells slots g0 g1 A h1 h2 h3 h4 h5 => lv_iload A.1 A.2.1 hd (h2.2.2 i _ hl).1 (k p e s m args below meth c locs ls cells slots g0 g1 A h1 h2 h3 h4 h5)
/-- a reference or null -/
def zRf (v : Value) : Prop := v = .null ∨ ∃ a : Nat, v = .ref a
theorem zRf_ref {a : Nat} : zRf (.ref a) := Or.inr ⟨a, rfl⟩
theorem zRf_null : zRf .null := Or.inl rfl
theorem zRf_rf (o : Option Nat) : zRf (va_rf o) := va_rf_or o
theorem zRf.cat {v : Value} (h : zRf v) : v.category = 1 := by
  rcases h with rfl | ⟨a, rfl⟩ <;> rfl
theorem zw_aload_n {j : Fin 4} {i : Nat} {v : Value} (hd : decode M.2.1 pc = .ok (.aload_n j, 1)) (hj : (j : Nat) = i) (hl : lv[i]? = some (some v)) (hv : zRf v) (k : zW G d M (pc + 1) lv (v :: st) H Q) : zW G d M pc lv st H Q := by
  intro p e s m args below meth c locs ls cells slots g0 g1 A h1 h2 h3 h4 h5
  rcases hv with rfl | ⟨a, rfl⟩
  · exact lv_aload_nN A.1 A.2.1 hd hj (h2.2.2 i _ hl).1 (k p e s m args below meth c locs ls cells slots g0 g1 A h1 h2 h3 h4 h5)
  · exact lv_aload_n A.1 A.2.1 hd hj (h2.2.2 i _ hl).1 (k p e s m args below meth c locs ls cells slots g0 g1 A h1 h2 h3 h4 h5)
theorem zw_aload {i : Nat} {v : Value} (hd : decode M.2.1 pc = .ok (.aload i, 2)) (hl : lv[i]? = some (some v)) (hv : zRf v) (k : zW G d M (pc + 2) lv (v :: st) H Q) : zW G d M pc lv st H Q := by
  intro p e s m args below meth c locs ls cells slots g0 g1 A h1 h2 h3 h4 h5
  rcases hv with rfl | ⟨a, rfl⟩
  · exact lv_aloadN A.1 A.2.1 hd (h2.2.2 i _ hl).1 (k p e s m args below meth c locs ls cells slots g0 g1 A h1 h2 h3 h4 h5)
  · exact lv_aload A.1 A.2.1 hd (h2.2.2 i _ hl).1 (k p e s m args below meth c locs ls cells slots g0 g1 A h1 h2 h3 h4 h5)
/-- the locals as the kit lists them -/
def zAs (lv : List (Option Value)) : List (Nat × Value) := (lv.zipIdx).filterMap (fun q => q.1.map (fun v => (q.2, v)))
theorem zAs_mem {lv : List (Option Value)} {i : Nat} {v : Value} : (i, v) ∈ zAs lv ↔ lv[i]? = some (some v) := by
  unfold zAs
  rw [List.mem_filterMap]
  constructor
  · rintro ⟨⟨o, j⟩, h1, h2⟩
    cases o with
    | none => cases h2
    | some w =>
      cases h2
      exact List.mk_mem_zipIdx_iff_getElem?.mp h1
  · intro h
    exact ⟨(some v, i), List.mk_mem_zipIdx_iff_getElem?.mpr h, rfl⟩
theorem zLs.has {ls : Array Slot} (h : zLs ls lv) : lv_has ls lv.length (zAs lv) := ⟨h.1, h.2.1, fun q hq => (h.2.2 q.1 q.2 (zAs_mem.mp hq)).1⟩
theorem zLs_set {ls ls' : Array Slot} {i : Nat} {v : Value} (h : zLs ls lv) (hv : v.category = 1) (h' : lv_has ls' lv.length ((i, v) :: (zAs lv).filter (fun q => !(q.1 == i) && !(q.1 + 1 == i && q.2.category == 2)))) : zLs ls' (lv.set i (some v)) := by
  refine ⟨by rw [List.length_set]; exact h'.1, h'.2.1, fun j w hj => ?_⟩
  rw [List.getElem?_set] at hj
  by_cases e : i = j
  · subst e
    rw [if_pos rfl] at hj
    split at hj
    · have e2 : v = w := Option.some.inj (Option.some.inj hj)
      subst e2
      exact ⟨h'.2.2 (i, v) List.mem_cons_self, hv⟩
    · cases hj
  · rw [if_neg e] at hj
    have hc := (h.2.2 j w hj).2
    refine ⟨h'.2.2 (j, w) (List.mem_cons_of_mem _ (List.mem_filter.mpr ⟨zAs_mem.mpr hj, ?_⟩)), hc⟩
    have e3 : ¬ j = i := fun q => e q.symm
    simp [e3, hc]
theorem zw_istore_n {j : Fin 4} {i : Nat} {x : Int32} (hd : decode M.2.1 pc = .ok (.istore_n j, 1)) (hj : (j : Nat) = i) (hi : i < lv.length) (k : zW G d M (pc + 1) (lv.set i (some (.int x))) st H Q) : zW G d M pc lv (.int x :: st) H Q :=
  fun p e s m args below meth c locs ls cells slots g0 g1 A h1 h2 h3 h4 h5 => lv_istore_n A.1 A.2.1 hd hj h2.has hi rfl (fun ls' h' => k p e s m args below meth c locs ls' cells slots g0 g1 A (by rw [List.length_set]; exact h1) (zLs_set h2 rfl h') h3 h4 h5)
theorem zw_istore {i : Nat} {x : Int32} (hd : decode M.2.1 pc = .ok (.istore i, 2)) (hi : i < lv.length) (k : zW G d M (pc + 2) (lv.set i (some (.int x))) st H Q) : zW G d M pc lv (.int x :: st) H Q :=
  fun p e s m args below meth c locs ls cells slots g0 g1 A h1 h2 h3 h4 h5 => lv_istore A.1 A.2.1 hd h2.has hi rfl (fun ls' h' => k p e s m args below meth c locs ls' cells slots g0 g1 A (by rw [List.length_set]; exact h1) (zLs_set h2 rfl h') h3 h4 h5)
theorem zw_astore_n {j : Fin 4} {i : Nat} {v : Value} (hd : decode M.2.1 pc = .ok (.astore_n j, 1)) (hj : (j : Nat) = i) (hi : i < lv.length) (hv : zRf v) (k : zW G d M (pc + 1) (lv.set i (some v)) st H Q) : zW G d M pc lv (v :: st) H Q := by
  intro p e s m args below meth c locs ls cells slots g0 g1 A h1 h2 h3 h4 h5
  rcases hv with rfl | ⟨a, rfl⟩
  · exact lv_astore_nN A.1 A.2.1 hd hj h2.has hi rfl (fun ls' h' => k p e s m args below meth c locs ls' cells slots g0 g1 A (by rw [List.length_set]; exact h1) (zLs_set h2 rfl h') h3 h4 h5)
  · exact lv_astore_n A.1 A.2.1 hd hj h2.has hi rfl (fun ls' h' => k p e s m args below meth c locs ls' cells slots g0 g1 A (by rw [List.length_set]; exact h1) (zLs_set h2 rfl h') h3 h4 h5)
theorem zw_astore {i : Nat} {v : Value} (hd : decode M.2.1 pc = .ok (.astore i, 2)) (hi : i < lv.length) (hv : zRf v) (k : zW G d M (pc + 2) (lv.set i (some v)) st H Q) : zW G d M pc lv (v :: st) H Q := by
  intro p e s m args below meth c locs ls cells slots g0 g1 A h1 h2 h3 h4 h5
  rcases hv with rfl | ⟨a, rfl⟩
  · exact lv_astoreN A.1 A.2.1 hd h2.has hi rfl (fun ls' h' => k p e s m args below meth c locs ls' cells slots g0 g1 A (by rw [List.length_set]; exact h1) (zLs_set h2 rfl h') h3 h4 h5)
  · exact lv_astore A.1 A.2.1 hd h2.has hi rfl (fun ls' h' => k p e s m args below meth c locs ls' cells slots g0 g1 A (by rw [List.length_set]; exact h1) (zLs_set h2 rfl h') h3 h4 h5)
theorem zw_iinc {i : Nat} {n : Int} {x : Int32} (v : Int32) (hd : decode M.2.1 pc = .ok (.iinc i n, 3)) (hl : lv[i]? = some (some (.int x))) (hv : x + Int32.ofInt n = v) (k : zW G d M (pc + 3) (lv.set i (some (.int v))) st H Q) : zW G d M pc lv st H Q := by
  intro p e s m args below meth c locs ls cells slots g0 g1 A h1 h2 h3 h4 h5
  obtain ⟨j, hj⟩ := List.getElem?_of_mem (zAs_mem.mpr hl)
  exact lv_iinc A.1 A.2.1 hd h2.has (k := j) hj hv (List.getElem?_eq_some_iff.mp hl).1 rfl (fun ls' h' => k p e s m args below meth c locs ls' cells slots g0 g1 A (by rw [List.length_set]; exact h1) (zLs_set h2 rfl h') h3 h4 h5)
theorem zw_iadd {x y : Int32} (hd : decode M.2.1 pc = .ok (.iadd, 1)) (k : zW G d M (pc + 1) lv (.int (x + y) :: st) H Q) : zW G d M pc lv (.int y :: .int x :: st) H Q :=
  fun p e s m args below meth c locs ls cells slots g0 g1 A h1 h2 h3 h4 h5 => lv_iadd A.1 A.2.1 hd (k p e s m args below meth c locs ls cells slots g0 g1 A h1 h2 h3 h4 h5)
theorem zw_isub {x y : Int32} (hd : decode M.2.1 pc = .ok (.isub, 1)) (k : zW G d M (pc + 1) lv (.int (x - y) :: st) H Q) : zW G d M pc lv (.int y :: .int x :: st) H Q :=
  fun p e s m args below meth c locs ls cells slots g0 g1 A h1 h2 h3 h4 h5 => lv_isub A.1 A.2.1 hd (k p e s m args below meth c locs ls cells slots g0 g1 A h1 h2 h3 h4 h5)
theorem zw_imul {x y : Int32} (hd : decode M.2.1 pc = .ok (.imul, 1)) (k : zW G d M (pc + 1) lv (.int (x * y) :: st) H Q) : zW G d M pc lv (.int y :: .int x :: st) H Q :=
  fun p e s m args below meth c locs ls cells slots g0 g1 A h1 h2 h3 h4 h5 => lv_imul A.1 A.2.1 hd (k p e s m args below meth c locs ls cells slots g0 g1 A h1 h2 h3 h4 h5)
theorem zw_iand {x y : Int32} (hd : decode M.2.1 pc = .ok (.iand, 1)) (k : zW G d M (pc + 1) lv (.int (x &&& y) :: st) H Q) : zW G d M pc lv (.int y :: .int x :: st) H Q :=
  fun p e s m args below meth c locs ls cells slots g0 g1 A h1 h2 h3 h4 h5 => lv_iand A.1 A.2.1 hd (k p e s m args below meth c locs ls cells slots g0 g1 A h1 h2 h3 h4 h5)
theorem zw_ior {x y : Int32} (hd : decode M.2.1 pc = .ok (.ior, 1)) (k : zW G d M (pc + 1) lv (.int (x ||| y) :: st) H Q) : zW G d M pc lv (.int y :: .int x :: st) H Q :=
  fun p e s m args below meth c locs ls cells slots g0 g1 A h1 h2 h3 h4 h5 => lv_ior A.1 A.2.1 hd (k p e s m args below meth c locs ls cells slots g0 g1 A h1 h2 h3 h4 h5)
theorem zw_ixor {x y : Int32} (hd : decode M.2.1 pc = .ok (.ixor, 1)) (k : zW G d M (pc + 1) lv (.int (x ^^^ y) :: st) H Q) : zW G d M pc lv (.int y :: .int x :: st) H Q :=
  fun p e s m args below meth c locs ls cells slots g0 g1 A h1 h2 h3 h4 h5 => lv_ixor A.1 A.2.1 hd (k p e s m args below meth c locs ls cells slots g0 g1 A h1 h2 h3 h4 h5)
theorem zw_ineg {x : Int32} (hd : decode M.2.1 pc = .ok (.ineg, 1)) (k : zW G d M (pc + 1) lv (.int (-x) :: st) H Q) : zW G d M pc lv (.int x :: st) H Q :=
  fun p e s m args below meth c locs ls cells slots g0 g1 A h1 h2 h3 h4 h5 => lv_ineg A.1 A.2.1 hd (k p e s m args below meth c locs ls cells slots g0 g1 A h1 h2 h3 h4 h5)
theorem zw_ishl {x y : Int32} (hd : decode M.2.1 pc = .ok (.ishl, 1)) (k : zW G d M (pc + 1) lv (.int (x <<< (y &&& 31)) :: st) H Q) : zW G d M pc lv (.int y :: .int x :: st) H Q :=
  fun p e s m args below meth c locs ls cells slots g0 g1 A h1 h2 h3 h4 h5 => lv_ishl A.1 A.2.1 hd (k p e s m args below meth c locs ls cells slots g0 g1 A h1 h2 h3 h4 h5)
theorem zw_ishr {x y : Int32} (hd : decode M.2.1 pc = .ok (.ishr, 1)) (k : zW G d M (pc + 1) lv (.int (x >>> (y &&& 31)) :: st) H Q) : zW G d M pc lv (.int y :: .int x :: st) H Q :=
  fun p e s m args below meth c locs ls cells slots g0 g1 A h1 h2 h3 h4 h5 => lv_ishr A.1 A.2.1 hd (k p e s m args below meth c locs ls cells slots g0 g1 A h1 h2 h3 h4 h5)
theorem zw_iushr {x y : Int32} (hd : decode M.2.1 pc = .ok (.iushr, 1)) (k : zW G d M (pc + 1) lv (.int (x.toUInt32 >>> (y.toUInt32 &&& Int32.toUInt32 31)).toInt32 :: st) H Q) : zW G d M pc lv (.int y :: .int x :: st) H Q :=
  fun p e s m args below meth c locs ls cells slots g0 g1 A h1 h2 h3 h4 h5 => lv_iushr A.1 A.2.1 hd rfl (k p e s m args below meth c locs ls cells slots g0 g1 A h1 h2 h3 h4 h5)
theorem zw_i2b {x : Int32} (hd : decode M.2.1 pc = .ok (.i2b, 1)) (k : zW G d M (pc + 1) lv (.int x.toInt8.toInt32 :: st) H Q) : zW G d M pc lv (.int x :: st) H Q :=
  fun p e s m args below meth c locs ls cells slots g0 g1 A h1 h2 h3 h4 h5 => lv_i2b A.1 A.2.1 hd rfl (k p e s m args below meth c locs ls cells slots g0 g1 A h1 h2 h3 h4 h5)
theorem zw_i2c {x : Int32} (hd : decode M.2.1 pc = .ok (.i2c, 1)) (k : zW G d M (pc + 1) lv (.int (x.toUInt32 % 65536).toInt32 :: st) H Q) : zW G d M pc lv (.int x :: st) H Q :=
  fun p e s m args below meth c locs ls cells slots g0 g1 A h1 h2 h3 h4 h5 => lv_i2c A.1 A.2.1 hd rfl (k p e s m args below meth c locs ls cells slots g0 g1 A h1 h2 h3 h4 h5)
theorem zw_dup {v : Value} (hd : decode M.2.1 pc = .ok (.dup, 1)) (hv : v.category = 1) (k : zW G d M (pc + 1) lv (v :: v :: st) H Q) : zW G d M pc lv (v :: st) H Q :=
  fun p e s m args below meth c locs ls cells slots g0 g1 A h1 h2 h3 h4 h5 => lv_dup A.1 A.2.1 hd hv (k p e s m args below meth c locs ls cells slots g0 g1 A h1 h2 h3 h4 h5)
theorem zw_pop {v : Value} (hd : decode M.2.1 pc = .ok (.pop, 1)) (hv : v.category = 1) (k : zW G d M (pc + 1) lv st H Q) : zW G d M pc lv (v :: st) H Q :=
  fun p e s m args below meth c locs ls cells slots g0 g1 A h1 h2 h3 h4 h5 => lv_pop A.1 A.2.1 hd hv (k p e s m args below meth c locs ls cells slots g0 g1 A h1 h2 h3 h4 h5)
theorem zw_dup_x1 {v w : Value} (hd : decode M.2.1 pc = .ok (.dup_x1, 1)) (hv : v.category = 1) (hw : w.category = 1) (k : zW G d M (pc + 1) lv (v :: w :: v :: st) H Q) : zW G d M pc lv (v :: w :: st) H Q :=
  fun p e s m args below meth c locs ls cells slots g0 g1 A h1 h2 h3 h4 h5 => lv_dup_x1 A.1 A.2.1 hd hv hw (k p e s m args below meth c locs ls cells slots g0 g1 A h1 h2 h3 h4 h5)
theorem zw_dup_x2 {v w u : Value} (hd : decode M.2.1 pc = .ok (.dup_x2, 1)) (hv : v.category = 1) (hw : w.category = 1) (hu : u.category = 1) (k : zW G d M (pc + 1) lv (v :: w :: u :: v :: st) H Q) : zW G d M pc lv (v :: w :: u :: st) H Q :=
  fun p e s m args below meth c locs ls cells slots g0 g1 A h1 h2 h3 h4 h5 => lv_dup_x2 A.1 A.2.1 hd hv hw hu (k p e s m args below meth c locs ls cells slots g0 g1 A h1 h2 h3 h4 h5)
theorem zw_dup2 {v w : Value} (hd : decode M.2.1 pc = .ok (.dup2, 1)) (hv : v.category = 1) (hw : w.category = 1) (k : zW G d M (pc + 1) lv (v :: w :: v :: w :: st) H Q) : zW G d M pc lv (v :: w :: st) H Q :=
  fun p e s m args below meth c locs ls cells slots g0 g1 A h1 h2 h3 h4 h5 => lv_dup2_11 A.1 A.2.1 hd hv hw (k p e s m args below meth c locs ls cells slots g0 g1 A h1 h2 h3 h4 h5)
theorem zw_goto {off : Int} (t : Nat) (hd : decode M.2.1 pc = .ok (.goto off, 3)) (ht : (pc : Int) + off = (t : Int)) (k : zW G d M t lv st H Q) : zW G d M pc lv st H Q :=
  fun p e s m args below meth c locs ls cells slots g0 g1 A h1 h2 h3 h4 h5 => lv_goto A.1 A.2.1 hd ht (k p e s m args below meth c locs ls cells slots g0 g1 A h1 h2 h3 h4 h5)
end ZP
end
section
section ZB
variable {G : zG} {d : Nat} {M : zMd} {pc : Nat} {lv : List (Option Value)} {st : List Value} {H : Heap} {Q : Option Value → Heap → Prop}
theorem zw_if_eq {x : Int32} {off : Int} (t : Nat) (hd : decode M.2.1 pc = .ok (.ifCond .eq off, 3)) (ht : (pc : Int) + off = (t : Int)) (kt : x = 0 → zW G d M t lv st H Q) (kf : ¬ x = 0 → zW G d M (pc + 3) lv st H Q) : zW G d M pc lv (.int x :: st) H Q :=
  fun p e s m args below meth c locs ls cells slots g0 g1 A h1 h2 h3 h4 h5 => lv_if_eq A.1 A.2.1 hd ht (fun h => kt h p e s m args below meth c locs ls cells slots g0 g1 A h1 h2 h3 h4 h5) (fun h => kf h p e s m args below meth c locs ls cells slots g0 g1 A h1 h2 h3 h4 h5)
theorem zw_if_ne {x : Int32} {off : Int} (t : Nat) (hd : decode M.2.1 pc = .ok (.ifCond .ne off, 3)) (ht : (pc : Int) + off = (t : Int)) (kt : ¬ x = 0 → zW G d M t lv st H Q) (kf : x = 0 → zW G d M (pc + 3) lv st H Q) : zW G d M pc lv (.int x :: st) H Q :=
  fun p e s m args below meth c locs ls cells slots g0 g1 A h1 h2 h3 h4 h5 => lv_if_ne A.1 A.2.1 hd ht (fun h => kt h p e s m args below meth c locs ls cells slots g0 g1 A h1 h2 h3 h4 h5) (fun h => kf h p e s m args below meth c locs ls cells slots g0 g1 A h1 h2 h3 h4 h5)
theorem zw_if_lt {x : Int32} {off : Int} (t : Nat) (hd : decode M.2.1 pc = .ok (.ifCond .lt off, 3)) (ht : (pc : Int) + off = (t : Int)) (kt : x < 0 → zW G d M t lv st H Q) (kf : ¬ x < 0 → zW G d M (pc + 3) lv st H Q) : zW G d M pc lv (.int x :: st) H Q :=
  fun p e s m args below meth c locs ls cells slots g0 g1 A h1 h2 h3 h4 h5 => lv_if_lt A.1 A.2.1 hd ht (fun h => kt h p e s m args below meth c locs ls cells slots g0 g1 A h1 h2 h3 h4 h5) (fun h => kf h p e s m args below meth c locs ls cells slots g0 g1 A h1 h2 h3 h4 h5)
theorem zw_if_ge {x : Int32} {off : Int} (t : Nat) (hd : decode M.2.1 pc = .ok (.ifCond .ge off, 3)) (ht : (pc : Int) + off = (t : Int)) (kt : 0 ≤ x → zW G d M t lv st H Q) (kf : ¬ 0 ≤ x → zW G d M (pc + 3) lv st H Q) : zW G d M pc lv (.int x :: st) H Q :=
  fun p e s m args below meth c locs ls cells slots g0 g1 A h1 h2 h3 h4 h5 => lv_if_ge A.1 A.2.1 hd ht (fun h => kt h p e s m args below meth c locs ls cells slots g0 g1 A h1 h2 h3 h4 h5) (fun h => kf h p e s m args below meth c locs ls cells slots g0 g1 A h1 h2 h3 h4 h5)
theorem zw_if_gt {x : Int32} {off : Int} (t : Nat) (hd : decode M.2.1 pc = .ok (.ifCond .gt off, 3)) (ht : (pc : Int) + off = (t : Int)) (kt : 0 < x → zW G d M t lv st H Q) (kf : ¬ 0 < x → zW G d M (pc + 3) lv st H Q) : zW G d M pc lv (.int x :: st) H Q :=
  fun p e s m args below meth c locs ls cells slots g0 g1 A h1 h2 h3 h4 h5 => lv_if_gt A.1 A.2.1 hd ht (fun h => kt h p e s m args below meth c locs ls cells slots g0 g1 A h1 h2 h3 h4 h5) (fun h => kf h p e s m args below meth c locs ls cells slots g0 g1 A h1 h2 h3 h4 h5)
theorem zw_if_le {x : Int32} {off : Int} (t : Nat) (hd : decode M.2.1 pc = .ok (.ifCond .le off, 3)) (ht : (pc : Int) + off = (t : Int)) (kt : x ≤ 0 → zW G d M t lv st H Q) (kf : ¬ x ≤ 0 → zW G d M (pc + 3) lv st H Q) : zW G d M pc lv (.int x :: st) H Q :=
  fun p e s m args below meth c locs ls cells slots g0 g1 A h1 h2 h3 h4 h5 => lv_if_le A.1 A.2.1 hd ht (fun h => kt h p e s m args below meth c locs ls cells slots g0 g1 A h1 h2 h3 h4 h5) (fun h => kf h p e s m args below meth c locs ls cells slots g0 g1 A h1 h2 h3 h4 h5)
theorem zw_icmp_eq {x y : Int32} {off : Int} (t : Nat) (hd : decode M.2.1 pc = .ok (.if_icmp .eq off, 3)) (ht : (pc : Int) + off = (t : Int)) (kt : x = y → zW G d M t lv st H Q) (kf : ¬ x = y → zW G d M (pc + 3) lv st H Q) : zW G d M pc lv (.int y :: .int x :: st) H Q :=
  fun p e s m args below meth c locs ls cells slots g0 g1 A h1 h2 h3 h4 h5 => lv_icmp_eq A.1 A.2.1 hd ht (fun h => kt h p e s m args below meth c locs ls cells slots g0 g1 A h1 h2 h3 h4 h5) (fun h => kf h p e s m args below meth c locs ls cells slots g0 g1 A h1 h2 h3 h4 h5)
theorem zw_icmp_ne {x y : Int32} {off : Int} (t : Nat) (hd : decode M.2.1 pc = .ok (.if_icmp .ne off, 3)) (ht : (pc : Int) + off = (t : Int)) (kt : ¬ x = y → zW G d M t lv st H Q) (kf : x = y → zW G d M (pc + 3) lv st H Q) : zW G d M pc lv (.int y :: .int x :: st) H Q :=
  fun p e s m args below meth c locs ls cells slots g0 g1 A h1 h2 h3 h4 h5 => lv_icmp_ne A.1 A.2.1 hd ht (fun h => kt h p e s m args below meth c locs ls cells slots g0 g1 A h1 h2 h3 h4 h5) (fun h => kf h p e s m args below meth c locs ls cells slots g0 g1 A h1 h2 h3 h4 h5)
theorem zw_icmp_lt {x y : Int32} {off : Int} (t : Nat) (hd : decode M.2.1 pc = .ok (.if_icmp .lt off, 3)) (ht : (pc : Int) + off = (t : Int)) (kt : x < y → zW G d M t lv st H Q) (kf : ¬ x < y → zW G d M (pc + 3) lv st H Q) : zW G d M pc lv (.int y :: .int x :: st) H Q :=
  fun p e s m args below meth c locs ls cells slots g0 g1 A h1 h2 h3 h4 h5 => lv_icmp_lt A.1 A.2.1 hd ht (fun h => kt h p e s m args below meth c locs ls cells slots g0 g1 A h1 h2 h3 h4 h5) (fun h => kf h p e s m args below meth c locs ls cells slots g0 g1 A h1 h2 h3 h4 h5)
theorem zw_icmp_ge {x y : Int32} {off : Int} (t : Nat) (hd : decode M.2.1 pc = .ok (.if_icmp .ge off, 3)) (ht : (pc : Int) + off = (t : Int)) (kt : y ≤ x → zW G d M t lv st H Q) (kf : ¬ y ≤ x → zW G d M (pc + 3) lv st H Q) : zW G d M pc lv (.int y :: .int x :: st) H Q :=
  fun p e s m args below meth c locs ls cells slots g0 g1 A h1 h2 h3 h4 h5 => lv_icmp_ge A.1 A.2.1 hd ht (fun h => kt h p e s m args below meth c locs ls cells slots g0 g1 A h1 h2 h3 h4 h5) (fun h => kf h p e s m args below meth c locs ls cells slots g0 g1 A h1 h2 h3 h4 h5)
theorem zw_icmp_gt {x y : Int32} {off : Int} (t : Nat) (hd : decode M.2.1 pc = .ok (.if_icmp .gt off, 3)) (ht : (pc : Int) + off = (t : Int)) (kt : y < x → zW G d M t lv st H Q) (kf : ¬ y < x → zW G d M (pc + 3) lv st H Q) : zW G d M pc lv (.int y :: .int x :: st) H Q :=
  fun p e s m args below meth c locs ls cells slots g0 g1 A h1 h2 h3 h4 h5 => lv_icmp_gt A.1 A.2.1 hd ht (fun h => kt h p e s m args below meth c locs ls cells slots g0 g1 A h1 h2 h3 h4 h5) (fun h => kf h p e s m args below meth c locs ls cells slots g0 g1 A h1 h2 h3 h4 h5)
theorem zw_icmp_le {x y : Int32} {off : Int} (t : Nat) (hd : decode M.2.1 pc = .ok (.if_icmp .le off, 3)) (ht : (pc : Int) + off = (t : Int)) (kt : x ≤ y → zW G d M t lv st H Q) (kf : ¬ x ≤ y → zW G d M (pc + 3) lv st H Q) : zW G d M pc lv (.int y :: .int x :: st) H Q :=
  fun p e s m args below meth c locs ls cells slots g0 g1 A h1 h2 h3 h4 h5 => lv_icmp_le A.1 A.2.1 hd ht (fun h => kt h p e s m args below meth c locs ls cells slots g0 g1 A h1 h2 h3 h4 h5) (fun h => kf h p e s m args below meth c locs ls cells slots g0 g1 A h1 h2 h3 h4 h5)
theorem zw_acmp_eq {rx ry : Option Nat} {off : Int} (t : Nat) (hd : decode M.2.1 pc = .ok (.if_acmp .eq off, 3)) (ht : (pc : Int) + off = (t : Int)) (kt : rx = ry → zW G d M t lv st H Q) (kf : ¬ rx = ry → zW G d M (pc + 3) lv st H Q) : zW G d M pc lv (va_rf ry :: va_rf rx :: st) H Q :=
  fun p e s m args below meth c locs ls cells slots g0 g1 A h1 h2 h3 h4 h5 => lv_acmp_eq A.1 A.2.1 hd ht (fun h => kt h p e s m args below meth c locs ls cells slots g0 g1 A h1 h2 h3 h4 h5) (fun h => kf h p e s m args below meth c locs ls cells slots g0 g1 A h1 h2 h3 h4 h5)
theorem zw_acmp_ne {rx ry : Option Nat} {off : Int} (t : Nat) (hd : decode M.2.1 pc = .ok (.if_acmp .ne off, 3)) (ht : (pc : Int) + off = (t : Int)) (kt : ¬ rx = ry → zW G d M t lv st H Q) (kf : rx = ry → zW G d M (pc + 3) lv st H Q) : zW G d M pc lv (va_rf ry :: va_rf rx :: st) H Q :=
  fun p e s m args below meth c locs ls cells slots g0 g1 A h1 h2 h3 h4 h5 => lv_acmp_ne A.1 A.2.1 hd ht (fun h => kt h p e s m args below meth c locs ls cells slots g0 g1 A h1 h2 h3 h4 h5) (fun h => kf h p e s m args below meth c locs ls cells slots g0 g1 A h1 h2 h3 h4 h5)
theorem zw_ifnull {v : Value} {off : Int} (t : Nat) (hd : decode M.2.1 pc = .ok (.ifnull off, 3)) (ht : (pc : Int) + off = (t : Int)) (hv : zRf v) (kt : v = .null → zW G d M t lv st H Q) (kf : ∀ a : Nat, v = .ref a → zW G d M (pc + 3) lv st H Q) : zW G d M pc lv (v :: st) H Q := by
  intro p e s m args below meth c locs ls cells slots g0 g1 A h1 h2 h3 h4 h5
  rcases hv with rfl | ⟨a, rfl⟩
  · exact lv_ifnullN A.1 A.2.1 hd ht (kt rfl p e s m args below meth c locs ls cells slots g0 g1 A h1 h2 h3 h4 h5)
  · exact lv_ifnull A.1 A.2.1 hd (kf a rfl p e s m args below meth c locs ls cells slots g0 g1 A h1 h2 h3 h4 h5)
theorem zw_ifnonnull {v : Value} {off : Int} (t : Nat) (hd : decode M.2.1 pc = .ok (.ifnonnull off, 3)) (ht : (pc : Int) + off = (t : Int)) (hv : zRf v) (kt : ∀ a : Nat, v = .ref a → zW G d M t lv st H Q) (kf : v = .null → zW G d M (pc + 3) lv st H Q) : zW G d M pc lv (v :: st) H Q := by
  intro p e s m args below meth c locs ls cells slots g0 g1 A h1 h2 h3 h4 h5
  rcases hv with rfl | ⟨a, rfl⟩
  · exact lv_ifnonnullN A.1 A.2.1 hd (kf rfl p e s m args below meth c locs ls cells slots g0 g1 A h1 h2 h3 h4 h5)
  · exact lv_ifnonnull A.1 A.2.1 hd ht (kt a rfl p e s m args below meth c locs ls cells slots g0 g1 A h1 h2 h3 h4 h5)
theorem zw_tableOut {dflt lo hi : Int} {offs : Array Int} {len : Nat} {x : Int32} (t : Nat) (hd : decode M.2.1 pc = .ok (.tableswitch dflt lo hi offs, len)) (h : x.toInt < lo ∨ hi < x.toInt) (ht : (pc : Int) + dflt = (t : Int)) (k : zW G d M t lv st H Q) : zW G d M pc lv (.int x :: st) H Q :=
  fun p e s m args below meth c locs ls cells slots g0 g1 A h1 h2 h3 h4 h5 => lv_tableOut A.1 A.2.1 hd h ht (k p e s m args below meth c locs ls cells slots g0 g1 A h1 h2 h3 h4 h5)
theorem zw_tableIn {dflt lo hi : Int} {offs : Array Int} {len : Nat} {x : Int32} {off : Int} (t : Nat) (hd : decode M.2.1 pc = .ok (.tableswitch dflt lo hi offs, len)) (b1 : ¬ x.toInt < lo) (b2 : ¬ hi < x.toInt) (ho : offs[(x.toInt - lo).toNat]? = some off) (ht : (pc : Int) + off = (t : Int)) (k : zW G d M t lv st H Q) : zW G d M pc lv (.int x :: st) H Q :=
  fun p e s m args below meth c locs ls cells slots g0 g1 A h1 h2 h3 h4 h5 => lv_tableIn A.1 A.2.1 hd b1 b2 ho ht (k p e s m args below meth c locs ls cells slots g0 g1 A h1 h2 h3 h4 h5)
end ZB
end
section
theorem zLay_good {C : String} {T : u_T} {N : Nat} {w : Cond} (h : w ∈ u_ws C T N) : (w.onTables && w.keeps) = true := by
  unfold u_ws at h
  obtain ⟨k, -, rfl⟩ := List.mem_map.mp h
  unfold u_lay
  split <;> rfl
/-- a Fieldref of the pool: field k of class ci -/
def zFl (own : String) (idx ci k : Nat) : Prop := ∃ (C : String) (T : u_T) (N : Nat) (ref : String), classes[ci]? = some (C, T, N) ∧ k < N ∧ (∀ w ∈ u_ws C T N, w ∈ lw_tbl) ∧ (Cond.fieldLink own idx ref (T k).2.1 (T k).2.2.1 ∈ lw_tbl ∨ ∃ host : String, Cond.fieldLinkNest own idx ref (T k).2.1 (T k).2.2.1 host ∈ lw_tbl) ∧ (ref = (T k).1 ∨ Cond.sameField ref (T k).1 (T k).2.1 (T k).2.2.1 ∈ lw_tbl)
/-- ... which may be written by the method, a value of the type ty -/
def zPf (M : zMd) (idx ci k : Nat) (ty : FieldType) : Prop := zFl M.1.cls idx ci k ∧ ∃ (C : String) (T : u_T) (N : Nat) (ty0 : Nat → FieldType), classes[ci]? = some (C, T, N) ∧ (∀ j, j < N → parseFieldDescriptor (T j).2.2.1 = some (ty0 j)) ∧ (∀ a, a < N → ∀ b, b < N → a ≠ b → (T a).2.1 ≠ (T b).2.1) ∧ ty0 k = ty ∧ ((T k).2.2.2 = false ∨ ((T k).2.2.2 = true ∧ M.1.name = "<init>" ∧ (T k).1 = M.1.cls))
def zN (ci : Nat) : Nat := match classes[ci]? with
  | some q => q.2.2
  | none => 0
/-- a class entry of the pool, of a class whose objects have n slots and begin with the fields fs -/
def zNf (M : zMd) (idx ci n : Nat) (fs : List Value) : Prop := ∃ (C : String) (T : u_T) (N : Nat) (ty0 : Nat → FieldType), classes[ci]? = some (C, T, N) ∧ (∀ w ∈ u_ws C T N, w ∈ lw_tbl) ∧ (∀ j, j < N → parseFieldDescriptor (T j).2.2.1 = some (ty0 j)) ∧ Cond.classLink M.1.cls idx C ∈ lw_tbl ∧ Cond.instantiable C n ∈ lw_tbl ∧ Cond.initialized C ∈ lw_tbl ∧ fs.length ≤ N ∧ ∀ j, j < fs.length → fs[j]? = some (defaultValue (ty0 j))
section ZH
variable {G : zG} {d : Nat} {M : zMd} {pc : Nat} {lv : List (Option Value)} {st : List Value} {H : Heap} {Q : Option Value → Heap → Prop}
theorem zw_getf {idx ci k a : Nat} {v : Value} (hd : decode M.2.1 pc = .ok (.getfield idx, 3)) (hF : zFl M.1.cls idx ci k) (hf : zFd G H a ci k v) (kk : zW G d M (pc + 3) lv (v :: st) H Q) : zW G d M pc lv (.ref a :: st) H Q := by
  intro p e s m args below meth c locs ls cells slots g0 g1 A h1 h2 h3 h4 h5
  obtain ⟨C, T, N, ref, hc, hk, hin, hlk, hsm⟩ := hF
  obtain ⟨cell, q1, q2, q3⟩ := hf
  have hts : ∀ w ∈ u_ws C T N, w.before args s = true := fun w hw => zWd g0 g1 (hin w hw) (zLay_good hw)
  obtain ⟨hS, hfc, kC, hkC, hkind⟩ := (zK_at g0 g1).1 ci _ hc
  obtain ⟨cf, kf, fi, f, hi, hsl⟩ := hS k hk
  have hi' : s.fieldFound? ref (T k).2.1 (T k).2.2.1 = some (cf, kf, fi, f) := by
    rcases hsm with rfl | h
    · exact hi
    · exact u_same (args := args) (zWd g0 g1 h rfl) _ hi
  have hst := (u_facts hfc hkC (u_lays hts (fun w h => h) hk) hi).1
  rcases hlk with hlk | ⟨host, hlk⟩
  · exact W.getf A.1 A.2.1 A.2.2.2.2.2.1 (zWd g0 g1 hlk rfl) hi' hst q1 q2 (by rw [hsl]; exact q3) rfl rfl hd (kk p e s m args below meth c locs ls cells slots g0 g1 A h1 h2 h3 h4 h5)
  · exact va_Wgetf A.1 A.2.1 A.2.2.2.2.2.1 (va_Nw.use rfl (va_Nw.warmF g1 (va_Nw.of rfl (g0.1 _ hlk)))) hi' hst q1 q2 (by rw [hsl]; exact q3) rfl rfl hd (kk p e s m args below meth c locs ls cells slots g0 g1 A h1 h2 h3 h4 h5)
theorem zObj_put {cell cell' : Cell} {H1 : Heap} {a ci k : Nat} {fs : List Value} {v : Value} (hap : ∀ x y, x < zN ci → y < zN ci → x ≠ y → (zD G).2 ci x ≠ (zD G).2 ci y) (hl : fs.length ≤ zN ci) (hk : k < fs.length) (q2 : cell.cls = (zD G).1 ci) (q3 : cell.vm = .none) (q4 : ∀ j : Nat, j < fs.length → cell.slots[(zD G).2 ci j]? = fs[j]?) (e1 : H1[a]? = some cell') (e2 : cell' = cell.setSlot ((zD G).2 ci k) v) : zObj G H1 a ci (fs.set k v) := by
  subst e2
  refine ⟨_, e1, q2, q3, fun j hj => ?_⟩
  rw [List.length_set] at hj
  have hsz : (zD G).2 ci k < cell.slots.size := by
    have := q4 k hk
    rw [List.getElem?_eq_getElem hk] at this
    exact (Array.getElem?_eq_some_iff.mp this).1
  by_cases e : j = k
  · subst e
    rw [List.getElem?_set_self hk]
    exact Cell.slots_setSlot_self v hsz
  · rw [slot_ne _ _ (hap k j (by omega) (by omega) (fun q => e q.symm)), List.getElem?_set_ne (fun q => e q.symm)]
    exact q4 j hj
theorem zw_putf {idx ci k a : Nat} {v : Value} {ty : FieldType} {fs : List Value} (hd : decode M.2.1 pc = .ok (.putfield idx, 3)) (hF : zPf M idx ci k ty) (ho : zObj G H a ci fs) (hl : fs.length ≤ zN ci) (hk : k < fs.length) (ha : zFr G a) (hn : narrow ty v = v) (hfit : fits ty v = true) (kk : ∀ H1 : Heap, zObj G H1 a ci (fs.set k v) → zUp a H H1 → zW G d M (pc + 3) lv st H1 Q) : zW G d M pc lv (v :: .ref a :: st) H Q := by
  intro p e s m args below meth c locs ls cells slots g0 g1 A h1 h2 h3 h4 h5
  obtain ⟨⟨C, T, N, ref, hc, hkN, hin, hlk, hsm⟩, C2, T2, N2, ty0, hc2, hty, hnm, hyk, hfin⟩ := hF
  have hcc := hc.symm.trans hc2
  cases hcc
  obtain ⟨cell, q1, q2, q3, q4⟩ := ho
  have hzN : zN ci = N := by unfold zN; rw [hc]
  have hts : ∀ w ∈ u_ws C T N, w.before args s = true := fun w hw => zWd g0 g1 (hin w hw) (zLay_good hw)
  have hK := zK_at g0 g1
  have hap := va_apart (own := C) hts (fun w h => h) ty0 hty hnm hK hc
  obtain ⟨hS, hfc, kC, hkC, hkind⟩ := hK.1 ci _ hc
  obtain ⟨cf, kf, fi, f, hi, hsl⟩ := hS k hkN
  have hi' : s.fieldFound? ref (T k).2.1 (T k).2.2.1 = some (cf, kf, fi, f) := by
    rcases hsm with rfl | h
    · exact hi
    · exact u_same (args := args) (zWd g0 g1 h rfl) _ hi
  have hst := (u_facts hfc hkC (u_lays hts (fun w h => h) hkN) hi).1
  have hdty : parseFieldDescriptor (T k).2.2.1 = some ty := by rw [hty k hkN, hyk]
  have hfits := u_fits hfc hkC hkind (u_lays hts (fun w h => h) hkN) hi hdty hn hfit
  have hslot : f.slot < cell.slots.size := by
    have := q4 k hk
    rw [List.getElem?_eq_getElem hk] at this
    rw [hsl]
    exact (Array.getElem?_eq_some_iff.mp this).1
  have go : ∀ H' : Heap, H'[a]? = some (cell.setSlot f.slot v) → H'.size = H.size → (∀ q, q ≠ a → H'[q]? = H[q]?) → W p (zl G) e (zR G d s.heap) s m args below meth c H' (locs ++ [⟨a, f.slot⟩]) cells slots (MQ below (zQ G Q) args s (zCp G - s.heap.size) (zSp G - zT s.heap) (zFr G)) (F0 m (pc + 3) ls st) := by
    intro H' e1 e2 e3
    have hu : zUp a H H' := zUp_of q1 e1 (by simp [Cell.setSlot]) e2 e3
    refine kk H' (zObj_put (G := G) (by rw [hzN]; exact hap) hl hk q2 q3 q4 e1 (by rw [hsl])) hu p e s m args below meth c _ ls cells slots g0 g1 A h1 h2 (fun q hq => ?_) h4 (hu.ok ha h5)
    rcases List.mem_append.mp hq with h | h
    · exact h3 q h
    · rw [List.mem_singleton.mp h]
      exact ha
  rcases hfin with hfin | ⟨hfin, hinit, hdecl⟩
  · have hlay := hts _ (u_in_lay (C := C) (T := T) hkN)
    unfold u_lay at hlay
    rw [if_neg (by rw [hfin]; decide)] at hlay
    have h6 := u_store hfc hkC hkind hlay hi hdty hn hfit
    rcases hlk with hlk | ⟨host, hlk⟩
    · exact W.putK A.1 A.2.1 (f := f) ⟨A.2.2.2.2.2.1, zWd g0 g1 hlk rfl, ⟨_, _, _, hi'⟩, hst⟩ (by rw [q2]; exact h6) q1 q3 hslot rfl rfl hd go
    · exact va_WputK A.1 A.2.1 A.2.2.2.2.2.1 (va_Nw.use rfl (va_Nw.warmF g1 (va_Nw.of rfl (g0.1 _ hlk)))) hi' hst (by rw [q2]; exact h6) q1 q3 hslot rfl rfl hd go
  · have hlay := hts _ (u_in_lay (C := C) (T := T) hkN)
    unfold u_lay at hlay
    rw [if_pos hfin] at hlay
    have hcf : m.cls = cf := by
      obtain ⟨_, _, c', _, _, _, -, -, hf', -, -, -, hown2, -⟩ := Cond.laysFinal_spec hlay
      have e1 : c' = cf := by have := hi.symm.trans hf'; simp at this; exact this.1.symm
      rw [hdecl] at hown2
      rw [← e1]; exact Option.some.inj (A.2.2.2.2.2.1.symm.trans hown2)
    rcases hlk with hlk | ⟨host, hlk⟩
    · exact W.putFinK A.1 A.2.1 A.2.2.2.2.2.1 (zWd g0 g1 hlk rfl) hi' hst hcf (A.2.2.2.2.2.2.trans hinit) (by rw [q2]; exact hfits) q1 q3 hslot rfl rfl hd go
    · refine va_Wputf A.1 A.2.1 A.2.2.2.2.2.1 (va_Nw.use rfl (va_Nw.warmF g1 (va_Nw.of rfl (g0.1 _ hlk)))) hi' hst (Or.inr ⟨hcf, A.2.2.2.2.2.2.trans hinit⟩) q1 (by rw [q3]; intro h; cases h) hslot hfits.1 (by rw [q2, q3]; exact hfits.2) rfl rfl hd ?_
      have hlt : a < H.size := (Array.getElem?_eq_some_iff.mp q1).1
      exact go _ (by simp [Array.getElem?_setIfInBounds, hlt]) (by simp) (fun q hq => by simp [Array.getElem?_setIfInBounds, Ne.symm hq])
theorem zw_new {idx ci n : Nat} {fs : List Value} (hd : decode M.2.1 pc = .ok (.new idx, 3)) (hN : zNf M idx ci n fs) (hc1 : H.size + 1 ≤ zCp G) (hs1 : zT H + n ≤ zSp G) (kk : ∀ H1 : Heap, zObj G H1 H.size ci fs → zNw n H H1 → zW G d M (pc + 3) lv (.ref H.size :: st) H1 Q) : zW G d M pc lv st H Q := by
  intro p e s m args below meth c locs ls cells slots g0 g1 A h1 h2 h3 h4 h5
  obtain ⟨C, T, N, ty0, hc, hin, hty, hcl, hins, hini, hl, hfs⟩ := hN
  have hts : ∀ w ∈ u_ws C T N, w.before args s = true := fun w hw => zWd g0 g1 (hin w hw) (zLay_good hw)
  have hKn := (zK_at g0 g1).1 ci _ hc
  refine zw_norm fun b1 b2 => ?_
  have hsl := h5.2.2
  refine W.newc A.1 A.2.1 A.2.2.2.2.2.1 (zWd g0 g1 hcl rfl) (zWd g0 g1 hins rfl) (zWd g0 g1 hini rfl) rfl hd (by show _ ≤ zCp G - s.heap.size; omega) (by show _ ≤ zSp G - zT s.heap; omega) fun cC kC f1 f2 f3 f4 => ?_
  have hcC : (zD G).1 ci = cC := Option.some.inj (hKn.2.1.symm.trans f1)
  have e0 : ({ cls := cC, slots := kC.instanceTypes.map defaultValue, vm := .none } : Cell) = blank cC kC := rfl
  rw [e0]
  have hnw : zNw n H (H.push (blank cC kC)) := by
    have := zNw_push H (blank cC kC)
    rw [show (blank cC kC).slots.size = n by simp [blank, f4]] at this
    exact this
  have hb : (H.push (blank cC kC))[H.size]? = some (blank cC kC) := by simp
  subst hcC
  obtain ⟨cell, r1, r2, r3, r4⟩ := u_born (o := H.size) ty0 hts (fun w h => h) hKn f2 hb hty
  refine kk _ ⟨cell, r1, r2, r3, fun j hj => ?_⟩ hnw p e s m args below meth c locs ls _ _ g0 g1 A h1 h2 h3 h4 (hnw.ok hc1 hs1 h5)
  rw [r4 j (by omega), hfs j hj]
theorem zw_alen {a n : Nat} {ty : FieldType} {f : Nat → Value} (hd : decode M.2.1 pc = .ok (.arraylength, 1)) (hA : zArr G H a ty n f) (kk : zW G d M (pc + 1) lv (.int (nI n) :: st) H Q) : zW G d M pc lv (.ref a :: st) H Q := by
  intro p e s m args below meth c locs ls cells slots g0 g1 A h1 h2 h3 h4 h5
  obtain ⟨cell, q1, q2, q3, q4, q5, q6⟩ := hA
  exact W.alen (n := nI n) A.1 A.2.1 q1 (State.isArrayOf_alike g1.alike q2) (by rw [q4]; rfl) rfl rfl hd (kk p e s m args below meth c locs ls cells slots g0 g1 A h1 h2 h3 h4 h5)
theorem zw_iald {a n : Nat} {f : Nat → Value} {i : Int32} (hd : decode M.2.1 pc = .ok (.iaload, 1)) (hA : zArr G H a .int n f) (hi : vp_in i n) (kk : zW G d M (pc + 1) lv (f i.toNatClampNeg :: st) H Q) : zW G d M pc lv (.int i :: .ref a :: st) H Q := by
  intro p e s m args below meth c locs ls cells slots g0 g1 A h1 h2 h3 h4 h5
  obtain ⟨cell, q1, q2, q3, q4, q5, q6⟩ := hA
  have hlt : i.toNatClampNeg < n := Nat.not_le.mp fun q => hi (Or.inr q)
  exact W.iald A.1 A.2.1 q1 (State.isArrayOf_alike g1.alike q2) q3 (by rw [q4]; exact hi) (q5 _ hlt) rfl rfl hd (kk p e s m args below meth c locs ls cells slots g0 g1 A h1 h2 h3 h4 h5)
theorem zw_bald {a n : Nat} {f : Nat → Value} {i : Int32} (hd : decode M.2.1 pc = .ok (.baload, 1)) (hA : zArr G H a .byte n f) (hi : vp_in i n) (kk : zW G d M (pc + 1) lv (f i.toNatClampNeg :: st) H Q) : zW G d M pc lv (.int i :: .ref a :: st) H Q := by
  intro p e s m args below meth c locs ls cells slots g0 g1 A h1 h2 h3 h4 h5
  obtain ⟨cell, q1, q2, q3, q4, q5, q6⟩ := hA
  have hlt : i.toNatClampNeg < n := Nat.not_le.mp fun q => hi (Or.inr q)
  exact W.bald A.1 A.2.1 q1 (State.isArrayOf_alike g1.alike q2) q3 (by rw [q4]; exact hi) (q5 _ hlt) rfl rfl hd (kk p e s m args below meth c locs ls cells slots g0 g1 A h1 h2 h3 h4 h5)
theorem zw_zald {a n : Nat} {f : Nat → Value} {i : Int32} (hd : decode M.2.1 pc = .ok (.baload, 1)) (hA : zArr G H a .boolean n f) (hi : vp_in i n) (kk : zW G d M (pc + 1) lv (f i.toNatClampNeg :: st) H Q) : zW G d M pc lv (.int i :: .ref a :: st) H Q := by
  intro p e s m args below meth c locs ls cells slots g0 g1 A h1 h2 h3 h4 h5
  obtain ⟨cell, q1, q2, q3, q4, q5, q6⟩ := hA
  have hlt : i.toNatClampNeg < n := Nat.not_le.mp fun q => hi (Or.inr q)
  exact W.zald A.1 A.2.1 q1 (State.isArrayOf_alike g1.alike q2) q3 (by rw [q4]; exact hi) (q5 _ hlt) rfl rfl hd (kk p e s m args below meth c locs ls cells slots g0 g1 A h1 h2 h3 h4 h5)
theorem zw_aald {a n : Nat} {ty : FieldType} {f : Nat → Value} {i : Int32} (hd : decode M.2.1 pc = .ok (.aaload, 1)) (hr : ty.isReference = true) (hA : zArr G H a ty n f) (hi : vp_in i n) (kk : zW G d M (pc + 1) lv (f i.toNatClampNeg :: st) H Q) : zW G d M pc lv (.int i :: .ref a :: st) H Q := by
  intro p e s m args below meth c locs ls cells slots g0 g1 A h1 h2 h3 h4 h5
  obtain ⟨cell, q1, q2, q3, q4, q5, q6⟩ := hA
  have hlt : i.toNatClampNeg < n := Nat.not_le.mp fun q => hi (Or.inr q)
  exact W.aald A.1 A.2.1 q1 (State.isArrayOf_alike g1.alike q2) hr q3 (by rw [q4]; exact hi) (q5 _ hlt) rfl rfl hd (kk p e s m args below meth c locs ls cells slots g0 g1 A h1 h2 h3 h4 h5)
theorem zArr_set {a n i : Nat} {ty : FieldType} {f : Nat → Value} {H1 : Heap} {cell : Cell} {v : Value} (q2 : (zS G).isArrayOf cell ty) (q3 : cell.vm ≠ .unknown) (q4 : cell.slots.size = n) (q5 : ∀ j : Nat, j < n → cell.slots[j]? = some (f j)) (q6 : zFr G a → va_RA (zS G) cell.cls ty) (e1 : H1[a]? = some (cell.setSlot i v)) : zArr G H1 a ty n (updV f i v) := by
  refine ⟨_, e1, q2, q3, by simp [Cell.setSlot, q4], fun j hj => ?_, q6⟩
  by_cases e : j = i
  · subst e
    rw [show updV f j v j = v by simp [updV]]
    exact Cell.slots_setSlot_self v (by omega)
  · rw [slot_ne _ _ (fun q => e q.symm), q5 j hj]
    simp [updV, e]
theorem zw_iast {a n : Nat} {f : Nat → Value} {i x : Int32} (hd : decode M.2.1 pc = .ok (.iastore, 1)) (hA : zArr G H a .int n f) (hi : vp_in i n) (ha : zFr G a) (kk : ∀ H1 : Heap, zArr G H1 a .int n (updV f i.toNatClampNeg (.int x)) → zUp a H H1 → zW G d M (pc + 1) lv st H1 Q) : zW G d M pc lv (.int x :: .int i :: .ref a :: st) H Q := by
  intro p e s m args below meth c locs ls cells slots g0 g1 A h1 h2 h3 h4 h5
  obtain ⟨cell, q1, q2, q3, q4, q5, q6⟩ := hA
  refine W.iast A.1 A.2.1 q1 (State.isArrayOf_alike g1.alike q2) q3 (by rw [q4]; exact hi) rfl rfl hd fun H' e1 e2 e3 => ?_
  have hu : zUp a H H' := zUp_of q1 e1 (by simp [Cell.setSlot]) e2 e3
  refine kk H' (zArr_set q2 q3 q4 q5 q6 e1) hu p e s m args below meth c _ ls cells slots g0 g1 A h1 h2 (fun q hq => ?_) h4 (hu.ok ha h5)
  rcases List.mem_append.mp hq with h | h
  · exact h3 q h
  · rw [List.mem_singleton.mp h]
    exact ha
theorem zw_bast {a n : Nat} {f : Nat → Value} {i x : Int32} (hd : decode M.2.1 pc = .ok (.bastore, 1)) (hA : zArr G H a .byte n f) (hi : vp_in i n) (ha : zFr G a) (kk : ∀ H1 : Heap, zArr G H1 a .byte n (updV f i.toNatClampNeg (.int x.toInt8.toInt32)) → zUp a H H1 → zW G d M (pc + 1) lv st H1 Q) : zW G d M pc lv (.int x :: .int i :: .ref a :: st) H Q := by
  intro p e s m args below meth c locs ls cells slots g0 g1 A h1 h2 h3 h4 h5
  obtain ⟨cell, q1, q2, q3, q4, q5, q6⟩ := hA
  refine W.bast A.1 A.2.1 q1 (State.isArrayOf_alike g1.alike q2) q3 (by rw [q4]; exact hi) rfl rfl hd fun H' e1 e2 e3 => ?_
  rw [narrow_byte] at e1
  have hu : zUp a H H' := zUp_of q1 e1 (by simp [Cell.setSlot]) e2 e3
  refine kk H' (zArr_set q2 q3 q4 q5 q6 e1) hu p e s m args below meth c _ ls cells slots g0 g1 A h1 h2 (fun q hq => ?_) h4 (hu.ok ha h5)
  rcases List.mem_append.mp hq with h | h
  · exact h3 q h
  · rw [List.mem_singleton.mp h]
    exact ha
theorem zw_zast {a n : Nat} {f : Nat → Value} {i x : Int32} (hd : decode M.2.1 pc = .ok (.bastore, 1)) (hA : zArr G H a .boolean n f) (hi : vp_in i n) (ha : zFr G a) (kk : ∀ H1 : Heap, zArr G H1 a .boolean n (updV f i.toNatClampNeg (narrow .boolean (.int x))) → zUp a H H1 → zW G d M (pc + 1) lv st H1 Q) : zW G d M pc lv (.int x :: .int i :: .ref a :: st) H Q := by
  intro p e s m args below meth c locs ls cells slots g0 g1 A h1 h2 h3 h4 h5
  obtain ⟨cell, q1, q2, q3, q4, q5, q6⟩ := hA
  refine W.zast A.1 A.2.1 q1 (State.isArrayOf_alike g1.alike q2) q3 (by rw [q4]; exact hi) rfl rfl hd fun H' e1 e2 e3 => ?_
  have hu : zUp a H H' := zUp_of q1 e1 (by simp [Cell.setSlot]) e2 e3
  refine kk H' (zArr_set q2 q3 q4 q5 q6 e1) hu p e s m args below meth c _ ls cells slots g0 g1 A h1 h2 (fun q hq => ?_) h4 (hu.ok ha h5)
  rcases List.mem_append.mp hq with h | h
  · exact h3 q h
  · rw [List.mem_singleton.mp h]
    exact ha
/-- new arrays of numbers -/
theorem zw_newa {aty : ArrayType} {n : Int32} {N : Nat} (ty : FieldType) (hd : decode M.2.1 pc = .ok (.newarray aty, 2)) (hty : newarray.typeOf aty = ty) (hw : Cond.arrayClass ty ∈ lw_tbl) (hn : ¬ n < 0) (hN : n.toNatClampNeg = N) (hb : N * componentBytes ty ≤ 536870912) (hc1 : H.size + 1 ≤ zCp G) (hs1 : zT H + N ≤ zSp G) (kk : ∀ H1 : Heap, zArr G H1 H.size ty N (fun _ => defaultValue ty) → zNw N H H1 → zW G d M (pc + 2) lv (.ref H.size :: st) H1 Q) : zW G d M pc lv (.int n :: st) H Q := by
  intro p e s m args below meth c locs ls cells slots g0 g1 A h1 h2 h3 h4 h5
  subst hty
  subst hN
  refine zw_norm fun b1 b2 => ?_
  have hsl := h5.2.2
  refine W.newa A.1 A.2.1 (word_at g1 (Or.inr ⟨_, rfl⟩) (g0.1 _ hw)) rfl hd rfl hn hb (by show _ ≤ zCp G - s.heap.size; omega) (by show _ ≤ zSp G - zT s.heap; omega) fun cA kA comp f1 f2 f3 => ?_
  have hnw : zNw n.toNatClampNeg H (H.push ({ cls := cA, slots := Array.replicate n.toNatClampNeg (defaultValue (newarray.typeOf aty)), vm := .none } : Cell)) := by
    have := zNw_push H ({ cls := cA, slots := Array.replicate n.toNatClampNeg (defaultValue (newarray.typeOf aty)), vm := .none } : Cell)
    rw [show (({ cls := cA, slots := Array.replicate n.toNatClampNeg (defaultValue (newarray.typeOf aty)), vm := .none } : Cell).slots.size) = n.toNatClampNeg by simp] at this
    exact this
  obtain ⟨k0, hk0, he⟩ := g1.alike.symm.2.2 _ _ f2
  refine kk _ ⟨_, Array.getElem?_push_size, ⟨(fun k h => (by cases h)), k0, hk0, comp, (by rw [he]; exact f3)⟩, (fun h => (by cases h)), (by simp), (fun j hj => (by simp [hj])), (fun _ => (show va_RA s cA (newarray.typeOf aty) by cases aty <;> exact f1).moved g1.alike.symm)⟩ hnw p e s m args below meth c locs ls _ _ g0 g1 A h1 h2 h3 h4 (hnw.ok hc1 hs1 h5)
theorem zw_ldcS {own tx : String} {idx a : Nat} (hd : decode M.2.1 pc = .ok (.ldc idx, 2)) (ho : M.1.cls = own) (hZ : vk_R own idx tx a (zS G)) (kk : zW G d M (pc + 2) lv (.ref a :: st) H Q) : zW G d M pc lv st H Q := by
  subst ho
  exact fun p e s m args below meth c locs ls cells slots g0 g1 A h1 h2 h3 h4 h5 => va_ldcS A.1 A.2.1 A.2.2.2.2.2.1 (hZ.warm g1) hd (kk p e s m args below meth c locs ls cells slots g0 g1 A h1 h2 h3 h4 h5)
theorem zw_ldc {idx : Nat} {v : Int32} (hd : decode M.2.1 pc = .ok (.ldc idx, 2)) (hw : Cond.constant M.1.cls idx v ∈ lw_tbl) (kk : zW G d M (pc + 2) lv (.int v :: st) H Q) : zW G d M pc lv st H Q :=
  fun p e s m args below meth c locs ls cells slots g0 g1 A h1 h2 h3 h4 h5 => lv_ldc A.1 A.2.1 A.2.2.2.2.2.1 (zWd g0 g1 hw rfl) hd (kk p e s m args below meth c locs ls cells slots g0 g1 A h1 h2 h3 h4 h5)
/-- a static that nobody writes -/
theorem zw_gets {C n ds ref : String} {v : Value} {idx : Nat} (hd : decode M.2.1 pc = .ok (.getstatic idx, 3)) (hZ : va_Z C n ds v (zFr G) (zS G) (zS G).heap) (hw : Cond.fieldLink M.1.cls idx ref n ds ∈ lw_tbl) (hsm : ref = C ∨ Cond.sameField ref C n ds ∈ lw_tbl) (kk : zW G d M (pc + 3) lv (v :: st) H Q) : zW G d M pc lv st H Q := by
  intro p e s m args below meth c locs ls cells slots g0 g1 A h1 h2 h3 h4 h5
  have hZ' : va_Z C n ds v (zFr G) s H := (hZ.moved g1.alike).kept (fun a ha _ => h5.2.1 a ha)
  obtain ⟨cf, kf, fi, f, a, cell, r1, r2, r3, r4, r5, r6, r7, r8⟩ := hZ'
  refine W.gets A.1 A.2.1 A.2.2.2.2.2.1 (zWd g0 g1 hw rfl) (cf := cf) (i := fi) (k := kf) (f := f) ?_ r2 r3 r4 r5 (fun e => by rw [e] at r6; cases r6) r7 rfl hd (kk p e s m args below meth c locs ls cells slots g0 g1 A h1 h2 h3 h4 h5)
  rcases hsm with rfl | h
  · exact r1
  · exact u_same (args := args) (zWd g0 g1 h rfl) _ r1
theorem zw_castN {idx : Nat} (hd : decode M.2.1 pc = .ok (.checkcast idx, 3)) (kk : zW G d M (pc + 3) lv (.null :: st) H Q) : zW G d M pc lv (.null :: st) H Q :=
  fun p e s m args below meth c locs ls cells slots g0 g1 A h1 h2 h3 h4 h5 => lv_castN A.1 A.2.1 hd (kk p e s m args below meth c locs ls cells slots g0 g1 A h1 h2 h3 h4 h5)
theorem zIs.recv {s : State} {a ci N : Nat} {C : String} {T : u_T} (h : zIs G H a ci) (g0 : zGo G) (g1 : zEnv G s) (hc : classes[ci]? = some (C, T, N)) : ∃ cell : Cell, H[a]? = some cell ∧ cell.vm.isStatics = false ∧ s.vm.findClass C = some cell.cls := by
  obtain ⟨cell, q1, q2, q3⟩ := h
  exact ⟨cell, q1, q2, by rw [q3]; exact ((zK_at g0 g1).1 ci _ hc).2.1⟩
/-- checkcast, instanceof of an object of that very class -/
theorem zw_cast {idx ci a N : Nat} {C : String} {T : u_T} (hd : decode M.2.1 pc = .ok (.checkcast idx, 3)) (hc : classes[ci]? = some (C, T, N)) (hw : Cond.classLink M.1.cls idx C ∈ lw_tbl) (ho : zIs G H a ci) (kk : zW G d M (pc + 3) lv (.ref a :: st) H Q) : zW G d M pc lv (.ref a :: st) H Q :=
  fun p e s m args below meth c locs ls cells slots g0 g1 A h1 h2 h3 h4 h5 => va_castS A.1 A.2.1 A.2.2.2.2.2.1 (zWd g0 g1 hw rfl) ((zK_at g0 g1).1 ci _ hc).2 (ho.recv g0 g1 hc) hd (kk p e s m args below meth c locs ls cells slots g0 g1 A h1 h2 h3 h4 h5)
theorem zw_inst {idx ci a N : Nat} {C : String} {T : u_T} (hd : decode M.2.1 pc = .ok (.instanceof idx, 3)) (hc : classes[ci]? = some (C, T, N)) (hw : Cond.classLink M.1.cls idx C ∈ lw_tbl) (ho : zIs G H a ci) (kk : zW G d M (pc + 3) lv (.int 1 :: st) H Q) : zW G d M pc lv (.ref a :: st) H Q :=
  fun p e s m args below meth c locs ls cells slots g0 g1 A h1 h2 h3 h4 h5 => va_instS A.1 A.2.1 A.2.2.2.2.2.1 (zWd g0 g1 hw rfl) ((zK_at g0 g1).1 ci _ hc).2 (ho.recv g0 g1 hc) hd (kk p e s m args below meth c locs ls cells slots g0 g1 A h1 h2 h3 h4 h5)
/-- ends -/
theorem zw_iret {v : Int32} (hd : decode M.2.1 pc = .ok (.ireturn, 1)) (ty : FieldType) (hr : M.2.2.2 = some ty) (hn : narrow ty (.int v) = .int v) (hq : Q (some (.int v)) H) : zW G d M pc lv [.int v] H Q := by
  intro p e s m args below meth c locs ls cells slots g0 g1 A h1 h2 h3 h4 h5
  refine zw_norm fun b1 b2 => W.widen (k := zCp G - s.heap.size) (n := zSp G - zT s.heap) (by have := h5.2.2.1; omega) (by have := h5.2.2.2; omega) ?_
  exact W.zret A.1 A.2.1 (A.2.2.2.1.trans hr) hn (fun t ht _ => ⟨_, rfl, by rw [ht]; exact hq, by rw [ht]; exact h5, by rw [ht]; exact b1, by rw [ht]; exact b2⟩) h3 hd A.2.2.2.2.1
theorem zw_vret (hd : decode M.2.1 pc = .ok (.return_, 1)) (hr : M.2.2.2 = none) (hq : Q none H) : zW G d M pc lv [] H Q := by
  intro p e s m args below meth c locs ls cells slots g0 g1 A h1 h2 h3 h4 h5
  refine zw_norm fun b1 b2 => W.widen (k := zCp G - s.heap.size) (n := zSp G - zT s.heap) (by have := h5.2.2.1; omega) (by have := h5.2.2.2; omega) ?_
  exact W.vret A.1 A.2.1 (A.2.2.2.1.trans hr) (fun t ht _ => ⟨_, rfl, by rw [ht]; exact hq, by rw [ht]; exact h5, by rw [ht]; exact b1, by rw [ht]; exact b2⟩) h3 hd A.2.2.2.2.1
theorem zw_aret {v : Value} (hd : decode M.2.1 pc = .ok (.areturn, 1)) (ty : FieldType) (hr : M.2.2.2 = some ty) (hty : (∃ n, ty = .object n) ∨ ∃ t, ty = .array t) (hv : zRf v) (hq : Q (some v) H) : zW G d M pc lv [v] H Q := by
  intro p e s m args below meth c locs ls cells slots g0 g1 A h1 h2 h3 h4 h5
  refine zw_norm fun b1 b2 => W.widen (k := zCp G - s.heap.size) (n := zSp G - zT s.heap) (by have := h5.2.2.1; omega) (by have := h5.2.2.2; omega) ?_
  exact W.aret A.1 A.2.1 (A.2.2.2.1.trans hr) hty hv (fun t ht _ => ⟨_, rfl, by rw [ht]; exact hq, by rw [ht]; exact h5, by rw [ht]; exact b1, by rw [ht]; exact b2⟩) h3 hd A.2.2.2.2.1
end ZH
end
section
theorem zEnv_calling {G : zG} {U : State} {g : JFrame} {mk : MethodId} {a : Array Value} (h : zEnv G U) : zEnv G (U.calling g mk a) := h
theorem zBlind {G : zG} {av : List Value} {H : Heap} : FrameBlind (va_Pc av (fun U => U.heap = H ∧ zEnv G U)) := fun _ _ _ _ q => ⟨q.1, q.2.1, q.2.2⟩
theorem zCat_le (l : List Value) : (l.map fun v => v.category).sum ≤ 2 * l.length := by
  induction l with
  | nil => simp
  | cons v l ih =>
    have := lv_cat v
    simp only [List.map_cons, List.sum_cons, List.length_cons]
    omega
/-- the callee's own word, at the caller's -/
theorem zWs {G : zG} {s : State} {M : zMd} (g0 : zGo G) (g1 : zEnv G s) (hw : Cond.code M.1 M.2.1 M.2.2.1 M.2.2.2 ∈ lw_tbl) : ∀ w ∈ [Cond.code M.1 M.2.1 M.2.2.1 M.2.2.2], ∀ (a' : Array Value) (U : State), s.WarmedH U.vm → w.before a' U = true := by
  intro w h a' U hW
  rw [List.mem_singleton.mp h]
  exact zWd g0 (State.WarmedH.trans g1 hW) hw rfl
theorem zSelP {y : MethodName} {s : State} {args : Array Value} {C : String} {cC : ClassId} (hy : y.cls ≠ "java/lang/invoke/MethodHandle" ∧ y.cls ≠ "java/lang/invoke/VarHandle") (hfc : s.vm.findClass C = some cC) (hpriv : (Cond.privateMethod y).before args s = true) (hinst : (Cond.instanceMethod y).before args s = true) (hsame : (Cond.sameMethod y.cls y.cls y.name y.desc).before args s = true) : (Cond.selects C y y).before args s = true := by
  obtain ⟨cn, ck, r1, hcn, hck, hni, hf, hn1⟩ := Cond.sameMethod_found hsame
  obtain ⟨mk, methM, hnamed, hmethM, -, -⟩ := Cond.instanceMethod_spec hinst
  have hfound : s.methodFound? y.cls y.name y.desc = some mk := State.methodFound?_of_named hnamed hy
  have hcls : mk.cls = cn := Option.some.inj ((findClass_of_methodNamed hnamed).symm.trans hcn)
  have hsel : selectMethod {} s.vm cC mk = .method mk := selectMethod_private hmethM (Cond.privateMethod_at hpriv mk methM hnamed hmethM)
  simp only [Cond.before, Cond.holds, Cond.value, hfc, hfound, hnamed, hsel, hcls, hck]
  simp; exact hni
section ZC
variable {G : zG} {d : Nat} {M M2 : zMd} {pc : Nat} {lv : List (Option Value)} {st : List Value} {H : Heap} {Q Q2 : Option Value → Heap → Prop}
theorem zLs_entry {av : List Value} {n : Nat} (hav : ∀ v ∈ av, v.category = 1) (hl : av.length ≤ n) : zLs ((lg_sl av ++ List.replicate (n - (lg_sl av).length) Slot.unset).toArray) (av.map some ++ List.replicate (n - av.length) none) := by
  have e : lg_sl av = av.map Slot.val := by
    clear hl
    induction av with
    | nil => rfl
    | cons v l ih =>
      have h1 := hav v List.mem_cons_self
      have h2 := ih (fun w h => hav w (List.mem_cons_of_mem _ h))
      unfold lg_sl at h2 ⊢
      rw [List.flatMap_cons, h2, if_neg (by omega)]
      rfl
  have hle : (lg_sl av).length = av.length := by rw [e, List.length_map]
  have h := lv_entry av (n := n) (by omega)
  refine ⟨by rw [h.1]; simp; omega, h.2.1, fun i v hi => ?_⟩
  have hi2 : i < av.length ∧ av[i]? = some v := by
    by_cases c : i < av.length
    · rw [List.getElem?_append_left (by simpa using c), List.getElem?_map] at hi
      refine ⟨c, ?_⟩
      cases hz : av[i]? with
      | none => rw [hz] at hi; cases hi
      | some w => rw [hz] at hi; cases hi; rfl
    · rw [List.getElem?_append_right (by simp; omega), List.getElem?_replicate] at hi
      split at hi <;> cases hi
  refine ⟨?_, hav v (List.mem_of_getElem? hi2.2)⟩
  rw [List.getElem?_toArray, List.getElem?_append_left (by omega), e, List.getElem?_map, hi2.2]
  rfl
/-- a contract out of the walk from its entry -/
theorem zC_of {av : List Value} (hp : plainFor M.1 = true) (hG : zGo G) (hav : ∀ v ∈ av, v.category = 1) (hl : av.length ≤ M.2.2.1) (k : zOk G H → zW G d M 0 (av.map some ++ List.replicate (M.2.2.1 - av.length) none) [] H Q) : zC G d M av H Q := by
  intro ho
  refine va_MetF (cc := M.2.1) (maxL := M.2.2.1) (ret := M.2.2.2) hp rfl ?_
  intro p e s m args below meth c s₁ B hml hv
  obtain ⟨rfl, rfl, hE⟩ := hv
  rw [lg_entry_eq]
  exact k ho p e s m _ below meth c [] _ 0 0 hG hE ⟨B.exec, B.bytes, hml, B.returns, B.notSynchronized, findClass_of_methodNamed B.named, (name_of_methodNamed B.named B.method).1⟩ (by simp; omega) (zLs_entry hav hl) (fun q h => by cases h) ho ho
theorem zC_mono {av : List Value} (h : zC G d M av H Q2) (hq : ∀ v H1, Q2 v H1 → Q v H1) : zC G d M av H Q := by
  intro ho p e ha hc hk s m args below hf happ hP hK
  obtain ⟨n, o, r1, r2, r3, ⟨⟨v, q1, q2, q3⟩, q4⟩⟩ := h ho p e ha hc hk s m args below hf happ hP hK
  exact ⟨n, o, r1, r2, r3, ⟨v, q1, hq v _ q2, q3⟩, q4⟩
/-- behind a call -/
theorem zw_after {rest : List Value} {p : Program} {e : Env} {s : State} {m : MethodId} {args : Array Value} {below : List Frame} {meth : Method} {c : Code} {locs : List Loc} {ls : Array Slot} {cells slots mc ms : Nat} {a : Array Value}
    (hr : va_Run p (zl G) e (zR G d s.heap) s m args below meth c H locs cells slots mc ms (F0 m pc ls st) rest (zQ G Q2 a) (zFr G)) (kk : ∀ v H1, Q2 v H1 → zOk G H1 → H.size ≤ H1.size → zT H ≤ zT H1 → zW G d M (pc + 3) lv (v.toList ++ rest) H1 Q)
    (g0 : zGo G) (g1 : zEnv G s) (A : zAt M p s m meth c) (h1 : lv.length = M.2.2.1) (h2 : zLs ls lv) (h3 : ∀ q ∈ locs, zFr G q.base) (h4 : zOk G s.heap) :
    W p (zl G) e (zR G d s.heap) s m args below meth c H locs cells slots (MQ below (zQ G Q) args s (zCp G - s.heap.size) (zSp G - zT s.heap) (zFr G)) (F0 m pc ls st) := by
  intro T hT X
  obtain ⟨v, st₀, t, T', L, e0, X', hL, e1, e2, ⟨v', hv, hq, hok, z1, z2⟩, go⟩ := hr T hT X
  cases hv
  rw [e0] at z1 z2
  have hlocs : ∀ q ∈ locs ++ L, zFr G q.base := fun q hq => by
    rcases List.mem_append.mp hq with h | h
    · exact h3 q h
    · exact hL q h
  obtain ⟨t2, a1, b1⟩ := kk v T'.heap (by rw [e1]; exact hq) (by rw [e1]; exact hok) (by rw [e1]; exact z1) (by rw [e1]; exact z2) p e s m args below meth c (locs ++ L) ls _ _ g0 g1 A h1 h2 hlocs h4 (by rw [e1]; exact hok) T' rfl X'
  exact ⟨t2, go t2 a1, b1⟩
/-- what all calls ask of the callee -/
def zCl (M2 : zMd) (n : Nat) : Prop := Cond.code M2.1 M2.2.1 M2.2.2.1 M2.2.2.2 ∈ lw_tbl ∧ Cond.initialized M2.1.cls ∈ lw_tbl ∧ (M2.1.cls ≠ "java/lang/invoke/MethodHandle" ∧ M2.1.cls ≠ "java/lang/invoke/VarHandle") ∧ (parseMethodDescriptor M2.1.desc).map (fun d => d.parameters.length) = some n ∧ M2.2.2.1 ≤ 22
def zLkS (own : String) (idx : Nat) (M2 : zMd) (n : Nat) : Prop := zCl M2 n ∧ Cond.static M2.1 ∈ lw_tbl ∧ (Cond.methodLink own idx M2.1 ∈ lw_tbl ∨ ∃ host : String, Cond.methodLinkNest own idx M2.1 host ∈ lw_tbl)
def zLkI (own : String) (idx : Nat) (M2 : zMd) (n : Nat) : Prop := zCl M2 n ∧ M2.2.2.2 = none ∧ M2.1.name = "<init>" ∧ Cond.instanceMethod M2.1 ∈ lw_tbl ∧ (Cond.methodLink own idx M2.1 ∈ lw_tbl ∨ ∃ host : String, Cond.methodLinkNest own idx M2.1 host ∈ lw_tbl)
/-- a virtual call: the receiver's class ci selects M2, which is what the pool names -/
def zLkV (own : String) (idx ci : Nat) (M2 : zMd) (n : Nat) : Prop := zCl M2 n ∧ (∃ (C : String) (T : u_T) (N : Nat), classes[ci]? = some (C, T, N) ∧ (Cond.selects C M2.1 M2.1 ∈ lw_tbl ∨ (Cond.privateMethod M2.1 ∈ lw_tbl ∧ Cond.sameMethod M2.1.cls M2.1.cls M2.1.name M2.1.desc ∈ lw_tbl))) ∧ Cond.instanceMethod M2.1 ∈ lw_tbl ∧ (Cond.methodLink own idx M2.1 ∈ lw_tbl ∨ ∃ host : String, Cond.methodLinkNest own idx M2.1 host ∈ lw_tbl)
/-- ... or what the pool names through a class that inherits it (x), found in its class 'owner' -/
def zLkU (own : String) (idx ci : Nat) (M2 : zMd) (n : Nat) : Prop := zCl M2 n ∧ (∃ (C : String) (T : u_T) (N : Nat) (x : MethodName) (owner : String), classes[ci]? = some (C, T, N) ∧ Cond.selects C x M2.1 ∈ lw_tbl ∧ Cond.methodLink own idx x ∈ lw_tbl ∧ Cond.sameMethod x.cls owner x.name x.desc ∈ lw_tbl ∧ M2.1 = ⟨owner, x.name, x.desc⟩ ∧ (parseMethodDescriptor x.desc).map (fun d => d.parameters.length) = some n) ∧ Cond.instanceMethod M2.1 ∈ lw_tbl
def zLkSU (own : String) (idx ci : Nat) (M2 : zMd) (n : Nat) : Prop := zCl M2 n ∧ (∃ (C : String) (T : u_T) (N : Nat), classes[ci]? = some (C, T, N)) ∧ Cond.methodLink own idx M2.1 ∈ lw_tbl ∧ Cond.sameMethod M2.1.cls M2.1.cls M2.1.name M2.1.desc ∈ lw_tbl ∧ Cond.superclass own M2.1.cls ∈ lw_tbl ∧ Cond.instanceMethod M2.1 ∈ lw_tbl ∧ M2.1.name ≠ "<init>"
theorem zLen {y : MethodName} {n : Nat} (h : (parseMethodDescriptor y.desc).map (fun d => d.parameters.length) = some n) : ∀ sig, parseMethodDescriptor y.desc = some sig → n = sig.parameters.length := fun sig hs => by
  rw [hs] at h
  exact (Option.some.inj h).symm
theorem zRoom {G : zG} {d n : Nat} {H H0 : Heap} (hd : 1 ≤ d) (hn : n ≤ 22) : (zR G (d - 1) H).frames + 1 ≤ (zR G d H0).frames ∧ 8 + (n + 11) + (zR G (d - 1) H).locals ≤ (zR G d H0).locals := by
  show d - 1 + 1 ≤ d ∧ 8 + (n + 11) + 41 * (d - 1) ≤ 41 * d
  omega
theorem zRoom2 {G : zG} {H0 H : Heap} (h5 : zOk G H) (b1 : H0.size ≤ H.size) (b2 : zT H0 ≤ zT H) : H.size - H0.size + (zCp G - H.size) ≤ (zR G d H0).cells ∧ zT H - zT H0 + (zSp G - zT H) ≤ (zR G d H0).slots := by
  have e1 := h5.2.2.1
  have e2 := h5.2.2.2
  show _ ≤ zCp G - H0.size ∧ _ ≤ zSp G - zT H0
  omega
theorem zLvR {m : MethodId} {ls : Array Slot} {rest : List Value} (h : rest.length ≤ 4) : 2 * (F0 m pc ls st).monitorRoom + (rest.map fun v => v.category).sum ≤ 8 := by
  have h1 := zCat_le rest
  have h2 : (F0 m pc ls st).monitorRoom = 0 := rfl
  omega
theorem zw_callS {idx n : Nat} (As rest : List Value) (hd : decode M.2.1 pc = .ok (.invokestatic idx, 3)) (hd1 : 1 ≤ d) (hL : zLkS M.1.cls idx M2 n) (hst : st = As.reverse ++ rest) (hn : As.length = n) (hr : rest.length ≤ 4) (hc : zC G (d - 1) M2 As H Q2) (kk : ∀ v H1, Q2 v H1 → zOk G H1 → H.size ≤ H1.size → zT H ≤ zT H1 → zW G d M (pc + 3) lv (v.toList ++ rest) H1 Q) : zW G d M pc lv st H Q := by
  intro p e s m args below meth c locs ls cells slots g0 g1 A h1 h2 h3 h4 h5
  obtain ⟨⟨k1, k2, k3, k4, k5⟩, k6, k7⟩ := hL
  refine zw_norm fun b1 b2 => zw_after (mc := zCp G - H.size) (ms := zSp G - zT H) (a := As.toArray) ?_ kk g0 g1 A h1 h2 h3 h4
  have hP : PreS s H (va_Pc As (fun U => U.heap = H ∧ zEnv G U)) As := ⟨zBlind, fun U hU hW => ⟨rfl, hU, State.WarmedH.trans g1 hW⟩⟩
  rcases k7 with k7 | ⟨host, k7⟩
  · exact va_runS (cc := M.2.1) (nL := M.2.2.1) (Ts := []) ⟨A.1, A.2.1, A.2.2.1, A.2.2.2.2.2.1, fun w h => by cases h⟩ (hc h5) ⟨⟨rfl, rfl, (zRoom hd1 k5).1, (zRoom hd1 k5).2, zWs g0 g1 k1, List.mem_singleton.mpr rfl, zWd g0 g1 k1 rfl, zWd g0 g1 k2 rfl, k3, zLen k4, zWd g0 g1 k7 rfl⟩, zWd g0 g1 k6 rfl⟩ hP rfl hn (h2.1.trans h1) hst (zLvR hr) hd (zRoom2 h5 b1 b2)
  · exact va_runSN (cc := M.2.1) (nL := M.2.2.1) (Ts := []) ⟨A.1, A.2.1, A.2.2.1, A.2.2.2.2.2.1, fun w h => by cases h⟩ (hc h5) ⟨⟨⟨rfl, rfl, (zRoom hd1 k5).1, (zRoom hd1 k5).2, zWs g0 g1 k1, List.mem_singleton.mpr rfl⟩, zWd g0 g1 k1 rfl, zWd g0 g1 k2 rfl, k3, zLen k4, va_Nw.use rfl (va_Nw.warmM g1 (va_Nw.of rfl (g0.1 _ k7)))⟩, zWd g0 g1 k6 rfl, trivial⟩ hP rfl hn (h2.1.trans h1) hst (zLvR hr) hd (zRoom2 h5 b1 b2)
theorem zw_callI {idx n b : Nat} (As rest : List Value) (hd : decode M.2.1 pc = .ok (.invokespecial idx, 3)) (hd1 : 1 ≤ d) (hL : zLkI M.1.cls idx M2 n) (hst : st = As.reverse ++ .ref b :: rest) (hn : As.length = n) (hr : rest.length ≤ 4) (hc : zC G (d - 1) M2 (.ref b :: As) H Q2) (kk : ∀ v H1, Q2 v H1 → zOk G H1 → H.size ≤ H1.size → zT H ≤ zT H1 → zW G d M (pc + 3) lv (v.toList ++ rest) H1 Q) : zW G d M pc lv st H Q := by
  intro p e s m args below meth c locs ls cells slots g0 g1 A h1 h2 h3 h4 h5
  obtain ⟨y, by2, nL2, ret⟩ := M2
  obtain ⟨⟨k1, k2, k3, k4, k5⟩, k6, k8, k9, k7⟩ := hL
  simp only at k6
  subst k6
  refine zw_norm fun b1 b2 => zw_after (mc := zCp G - H.size) (ms := zSp G - zT H) (a := (Value.ref b :: As).toArray) ?_ kk g0 g1 A h1 h2 h3 h4
  have hP : PreS s H (va_Pc (.ref b :: As) (fun U => U.heap = H ∧ zEnv G U)) (.ref b :: As) := ⟨zBlind, fun U hU hW => ⟨rfl, hU, State.WarmedH.trans g1 hW⟩⟩
  rcases k7 with k7 | ⟨host, k7⟩
  · exact va_runI (cc := M.2.1) (nL := M.2.2.1) (Ts := []) ⟨A.1, A.2.1, A.2.2.1, A.2.2.2.2.2.1, fun w h => by cases h⟩ (hc h5) ⟨⟨rfl, rfl, (zRoom hd1 k5).1, (zRoom hd1 k5).2, zWs g0 g1 k1, List.mem_singleton.mpr rfl, zWd g0 g1 k1 rfl, zWd g0 g1 k2 rfl, k3, zLen k4, zWd g0 g1 k7 rfl⟩, k8, zWd g0 g1 k9 rfl⟩ hP rfl hn (h2.1.trans h1) hst (zLvR hr) hd (zRoom2 h5 b1 b2)
  · exact va_runIN (cc := M.2.1) (nL := M.2.2.1) (Ts := []) ⟨A.1, A.2.1, A.2.2.1, A.2.2.2.2.2.1, fun w h => by cases h⟩ (hc h5) ⟨⟨⟨rfl, rfl, (zRoom hd1 k5).1, (zRoom hd1 k5).2, zWs g0 g1 k1, List.mem_singleton.mpr rfl⟩, zWd g0 g1 k1 rfl, zWd g0 g1 k2 rfl, k3, zLen k4, va_Nw.use rfl (va_Nw.warmM g1 (va_Nw.of rfl (g0.1 _ k7)))⟩, k8, zWd g0 g1 k9 rfl⟩ hP rfl hn (h2.1.trans h1) hst (zLvR hr) hd (zRoom2 h5 b1 b2)
theorem zw_callV {idx n b ci : Nat} (As rest : List Value) (hd : decode M.2.1 pc = .ok (.invokevirtual idx, 3)) (hd1 : 1 ≤ d) (hL : zLkV M.1.cls idx ci M2 n) (ho : zIs G H b ci) (hst : st = As.reverse ++ .ref b :: rest) (hn : As.length = n) (hr : rest.length ≤ 4) (hc : zC G (d - 1) M2 (.ref b :: As) H Q2) (kk : ∀ v H1, Q2 v H1 → zOk G H1 → H.size ≤ H1.size → zT H ≤ zT H1 → zW G d M (pc + 3) lv (v.toList ++ rest) H1 Q) : zW G d M pc lv st H Q := by
  intro p e s m args below meth c locs ls cells slots g0 g1 A h1 h2 h3 h4 h5
  obtain ⟨⟨k1, k2, k3, k4, k5⟩, ⟨C, T, N, kc, k6⟩, k9, k7⟩ := hL
  have hse : (Cond.selects C M2.1 M2.1).before args s = true := by
    rcases k6 with k6 | ⟨k6, k6'⟩
    · exact zWd g0 g1 k6 rfl
    · exact word_at g1 (Or.inl rfl) (zSelP (args := zAg G) k3 (g0.2.1 ci _ kc).2.1 (g0.1 _ k6) (g0.1 _ k9) (g0.1 _ k6'))
  refine zw_norm fun b1 b2 => zw_after (mc := zCp G - H.size) (ms := zSp G - zT H) (a := (Value.ref b :: As).toArray) ?_ kk g0 g1 A h1 h2 h3 h4
  have hP : PreV s H C b (va_Pc (.ref b :: As) (fun U => U.heap = H ∧ zEnv G U)) As := ⟨zBlind, ho.recv g0 g1 kc, fun U hU hW => ⟨rfl, hU, State.WarmedH.trans g1 hW⟩⟩
  rcases k7 with k7 | ⟨host, k7⟩
  · exact va_runV (cc := M.2.1) (nL := M.2.2.1) (Ts := []) ⟨A.1, A.2.1, A.2.2.1, A.2.2.2.2.2.1, fun w h => by cases h⟩ (hc h5) ⟨⟨rfl, rfl, (zRoom hd1 k5).1, (zRoom hd1 k5).2, zWs g0 g1 k1, List.mem_singleton.mpr rfl, zWd g0 g1 k1 rfl, zWd g0 g1 k2 rfl, k3, zLen k4, zWd g0 g1 k7 rfl⟩, zWd g0 g1 k9 rfl, hse⟩ hP rfl hn (h2.1.trans h1) hst (zLvR hr) hd (zRoom2 h5 b1 b2)
  · exact va_runVN (cc := M.2.1) (nL := M.2.2.1) (Ts := []) ⟨A.1, A.2.1, A.2.2.1, A.2.2.2.2.2.1, fun w h => by cases h⟩ (hc h5) ⟨⟨⟨rfl, rfl, (zRoom hd1 k5).1, (zRoom hd1 k5).2, zWs g0 g1 k1, List.mem_singleton.mpr rfl⟩, zWd g0 g1 k1 rfl, zWd g0 g1 k2 rfl, k3, zLen k4, va_Nw.use rfl (va_Nw.warmM g1 (va_Nw.of rfl (g0.1 _ k7)))⟩, zWd g0 g1 k9 rfl, hse⟩ hP rfl hn (h2.1.trans h1) hst (zLvR hr) hd (zRoom2 h5 b1 b2)
theorem zw_callU {idx n b ci : Nat} (As rest : List Value) (hd : decode M.2.1 pc = .ok (.invokevirtual idx, 3)) (hd1 : 1 ≤ d) (hL : zLkU M.1.cls idx ci M2 n) (ho : zIs G H b ci) (hst : st = As.reverse ++ .ref b :: rest) (hn : As.length = n) (hr : rest.length ≤ 4) (hc : zC G (d - 1) M2 (.ref b :: As) H Q2) (kk : ∀ v H1, Q2 v H1 → zOk G H1 → H.size ≤ H1.size → zT H ≤ zT H1 → zW G d M (pc + 3) lv (v.toList ++ rest) H1 Q) : zW G d M pc lv st H Q := by
  intro p e s m args below meth c locs ls cells slots g0 g1 A h1 h2 h3 h4 h5
  obtain ⟨⟨k1, k2, k3, k4, k5⟩, ⟨C, T, N, x, owner, kc, k6, k7, k8, ky, kx⟩, k9⟩ := hL
  refine zw_norm fun b1 b2 => zw_after (mc := zCp G - H.size) (ms := zSp G - zT H) (a := (Value.ref b :: As).toArray) ?_ kk g0 g1 A h1 h2 h3 h4
  have hP : PreV s H C b (va_Pc (.ref b :: As) (fun U => U.heap = H ∧ zEnv G U)) As := ⟨zBlind, ho.recv g0 g1 kc, fun U hU hW => ⟨rfl, hU, State.WarmedH.trans g1 hW⟩⟩
  have hdecl : va_Decl s ⟨owner, x.name, x.desc⟩ := by rw [← ky]; exact va_Decl.of (args := args) (zWd g0 g1 k9 rfl) (zWd g0 g1 k1 rfl)
  have hown : owner = M2.1.cls := by rw [ky]
  exact va_runU (cc := M.2.1) (nL := M.2.2.1) (Ts := []) ⟨A.1, A.2.1, A.2.2.1, A.2.2.2.2.2.1, fun w h => by cases h⟩ (hc h5) ⟨⟨rfl, rfl, (zRoom hd1 k5).1, (zRoom hd1 k5).2, zWs g0 g1 k1, List.mem_singleton.mpr rfl⟩, zWd g0 g1 k1 rfl, zWd g0 g1 k2 rfl, by rw [hown]; exact k3, zLen kx, zWd g0 g1 k7 rfl, zWd g0 g1 k8 rfl, hdecl, zWd g0 g1 k6 rfl, zWd g0 g1 k9 rfl⟩ hP rfl hn (h2.1.trans h1) hst (zLvR hr) hd (zRoom2 h5 b1 b2)
theorem zw_callSU {idx n b ci : Nat} (As rest : List Value) (hd : decode M.2.1 pc = .ok (.invokespecial idx, 3)) (hd1 : 1 ≤ d) (hL : zLkSU M.1.cls idx ci M2 n) (ho : zIs G H b ci) (hst : st = As.reverse ++ .ref b :: rest) (hn : As.length = n) (hr : rest.length ≤ 4) (hc : zC G (d - 1) M2 (.ref b :: As) H Q2) (kk : ∀ v H1, Q2 v H1 → zOk G H1 → H.size ≤ H1.size → zT H ≤ zT H1 → zW G d M (pc + 3) lv (v.toList ++ rest) H1 Q) : zW G d M pc lv st H Q := by
  intro p e s m args below meth c locs ls cells slots g0 g1 A h1 h2 h3 h4 h5
  obtain ⟨⟨k1, k2, k3, k4, k5⟩, ⟨C, T, N, kc⟩, k6, k7, k8, k9, k10⟩ := hL
  refine zw_norm fun b1 b2 => zw_after (mc := zCp G - H.size) (ms := zSp G - zT H) (a := (Value.ref b :: As).toArray) ?_ kk g0 g1 A h1 h2 h3 h4
  have hP : PreV s H C b (va_Pc (.ref b :: As) (fun U => U.heap = H ∧ zEnv G U)) As := ⟨zBlind, ho.recv g0 g1 kc, fun U hU hW => ⟨rfl, hU, State.WarmedH.trans g1 hW⟩⟩
  exact va_runSU (cc := M.2.1) (nL := M.2.2.1) (Ts := []) ((zK_at g0 g1).1 ci _ kc).2 ⟨A.1, A.2.1, A.2.2.1, A.2.2.2.2.2.1, fun w h => by cases h⟩ (hc h5) ⟨⟨rfl, rfl, (zRoom hd1 k5).1, (zRoom hd1 k5).2, zWs g0 g1 k1, List.mem_singleton.mpr rfl⟩, zWd g0 g1 k6 rfl, zWd g0 g1 k7 rfl, zWd g0 g1 k8 rfl, zWd g0 g1 k9 rfl, zWd g0 g1 k2 rfl, zWd g0 g1 k1 rfl, k10, zLen k4⟩ hP rfl hn (h2.1.trans h1) hst (zLvR hr) hd (zRoom2 h5 b1 b2)
/-- Object() -/
theorem zw_objInit {idx a : Nat} (hd : decode M.2.1 pc = .ok (.invokespecial idx, 3)) (hd1 : 1 ≤ d) (hw : Cond.methodLink M.1.cls idx objectInit ∈ lw_tbl) (hw2 : Cond.instanceMethod objectInit ∈ lw_tbl) (hw3 : Cond.code objectInit ⟨#[0xb1]⟩ 1 none ∈ lw_tbl) (hr : st.length ≤ 4) (kk : zW G d M (pc + 3) lv st H Q) : zW G d M pc lv (.ref a :: st) H Q := by
  intro p e s m args below meth c locs ls cells slots g0 g1 A h1 h2 h3 h4 h5
  refine W.objInit A.1 A.2.1 A.2.2.2.2.2.1 (zWd g0 g1 hw rfl) (zWd g0 g1 hw2 rfl) (zWd g0 g1 hw3 rfl) rfl (by rw [A.2.2.1]; exact h2.1.trans h1) rfl hd hd1 ?_ (kk p e s m args below meth c locs ls cells slots g0 g1 A h1 h2 h3 h4 h5)
  have e1 := zCat_le st
  show 2 * 0 + (st.map fun v => v.category).sum + 12 ≤ 41 * d
  omega
end ZC
end
section
/-- the ends that contracts have -/
def zPv (P : Heap → Prop) : Option Value → Heap → Prop := fun v H => v = none ∧ P H
def zPi (P : Int32 → Heap → Prop) : Option Value → Heap → Prop := fun v H => ∃ r : Int32, v = some (.int r) ∧ P r H
def zPr (P : Value → Heap → Prop) : Option Value → Heap → Prop := fun v H => ∃ r : Value, v = some r ∧ zRf r ∧ P r H
section ZK
variable {G : zG} {d : Nat} {M : zMd} {pc : Nat} {lv : List (Option Value)} {rest : List Value} {H : Heap} {Q : Option Value → Heap → Prop}
theorem zPv_k {P : Heap → Prop} (kk : ∀ H1 : Heap, P H1 → zOk G H1 → H.size ≤ H1.size → zT H ≤ zT H1 → zW G d M pc lv rest H1 Q) : ∀ v H1, zPv P v H1 → zOk G H1 → H.size ≤ H1.size → zT H ≤ zT H1 → zW G d M pc lv (v.toList ++ rest) H1 Q := by
  rintro v H1 ⟨rfl, h⟩ h2 h3 h4
  exact kk H1 h h2 h3 h4
theorem zPi_k {P : Int32 → Heap → Prop} (kk : ∀ (r : Int32) (H1 : Heap), P r H1 → zOk G H1 → H.size ≤ H1.size → zT H ≤ zT H1 → zW G d M pc lv (.int r :: rest) H1 Q) : ∀ v H1, zPi P v H1 → zOk G H1 → H.size ≤ H1.size → zT H ≤ zT H1 → zW G d M pc lv (v.toList ++ rest) H1 Q := by
  rintro v H1 ⟨r, rfl, h⟩ h2 h3 h4
  exact kk r H1 h h2 h3 h4
theorem zPr_k {P : Value → Heap → Prop} (kk : ∀ (r : Value) (H1 : Heap), zRf r → P r H1 → zOk G H1 → H.size ≤ H1.size → zT H ≤ zT H1 → zW G d M pc lv (r :: rest) H1 Q) : ∀ v H1, zPr P v H1 → zOk G H1 → H.size ≤ H1.size → zT H ≤ zT H1 → zW G d M pc lv (v.toList ++ rest) H1 Q := by
  rintro v H1 ⟨r, rfl, hr, h⟩ h2 h3 h4
  exact kk r H1 hr h h2 h3 h4
end ZK
theorem zNarO {v : Value} {n : String} (h : zRf v) : narrow (.object n) v = v := by rcases h with rfl | ⟨a, rfl⟩ <;> rfl
theorem zNarA {v : Value} {t : FieldType} (h : zRf v) : narrow (.array t) v = v := by rcases h with rfl | ⟨a, rfl⟩ <;> rfl
theorem zFitO {v : Value} {n : String} (h : zRf v) : fits (.object n) v = true := by rcases h with rfl | ⟨a, rfl⟩ <;> rfl
theorem zFitA {v : Value} {t : FieldType} (h : zRf v) : fits (.array t) v = true := by rcases h with rfl | ⟨a, rfl⟩ <;> rfl
end
section
/-- nothing that was there has changed but what S names -/
def zMo (S : List Nat) (H H1 : Heap) : Prop := H.size ≤ H1.size ∧ ∀ q : Nat, q < H.size → q ∉ S → H1[q]? = H[q]?
theorem zMo.rf {S : List Nat} {H : Heap} : zMo S H H := ⟨Nat.le_refl _, fun _ _ _ => rfl⟩
theorem zMo.tr {S S1 S2 : List Nat} {H H1 H2 : Heap} (h1 : zMo S1 H H1) (h2 : zMo S2 H1 H2) (e1 : ∀ q ∈ S1, q ∈ S ∨ H.size ≤ q) (e2 : ∀ q ∈ S2, q ∈ S ∨ H.size ≤ q) : zMo S H H2 := by
  refine ⟨Nat.le_trans h1.1 h2.1, fun q hq hS => ?_⟩
  rw [h2.2 q (Nat.lt_of_lt_of_le hq h1.1) (fun z => (e2 q z).elim hS (fun w => by omega)), h1.2 q hq (fun z => (e1 q z).elim hS (fun w => by omega))]
theorem zMo.mono {S S1 : List Nat} {H H1 : Heap} (h1 : zMo S1 H H1) (e1 : ∀ q ∈ S1, q ∈ S ∨ H.size ≤ q) : zMo S H H1 := h1.tr (zMo.rf (S := [])) e1 (fun q h => by cases h)
theorem zUp.mo {a : Nat} {H H1 : Heap} (h : zUp a H H1) : zMo [a] H H1 := ⟨Nat.le_of_eq h.1.symm, fun q _ hq => h.2.2 q (fun e => hq (by rw [e]; exact List.mem_singleton.mpr rfl))⟩
theorem zNw.mo {n : Nat} {H H1 : Heap} (h : zNw n H H1) : zMo [] H H1 := ⟨by have := h.1; omega, fun q hq _ => h.2.2 q hq⟩
/-- one more step behind: a store at a place of S or at a new one; a new cell; a call -/
theorem zMo.up {S : List Nat} {a : Nat} {H H1 H2 : Heap} (h1 : zMo S H H1) (h2 : zUp a H1 H2) (ha : a ∈ S ∨ H.size ≤ a) : zMo S H H2 := h1.tr h2.mo (fun q h => Or.inl h) (fun q h => by rw [List.mem_singleton.mp h]; exact ha)
theorem zMo.nw {S : List Nat} {n : Nat} {H H1 H2 : Heap} (h1 : zMo S H H1) (h2 : zNw n H1 H2) : zMo S H H2 := h1.tr h2.mo (fun q h => Or.inl h) (fun q h => by cases h)
theorem zMo.ex {S : List Nat} {H H1 H2 : Heap} (h1 : zMo S H H1) (h2 : zMo [] H1 H2) : zMo S H H2 := h1.tr h2 (fun q h => Or.inl h) (fun q h => by cases h)
theorem zObj.mo {G : zG} {S : List Nat} {H H1 : Heap} {a ci : Nat} {fs : List Value} (h : zObj G H a ci fs) (m : zMo S H H1) (ha : a ∉ S) : zObj G H1 a ci fs := h.kept (m.2 a h.lt ha)
theorem zIs.mo {G : zG} {S : List Nat} {H H1 : Heap} {a ci : Nat} (h : zIs G H a ci) (m : zMo S H H1) (ha : a ∉ S) : zIs G H1 a ci := h.kept (m.2 a h.lt ha)
theorem zFd.mo {G : zG} {S : List Nat} {H H1 : Heap} {a ci k : Nat} {v : Value} (h : zFd G H a ci k v) (m : zMo S H H1) (ha : a ∉ S) : zFd G H1 a ci k v := h.kept (m.2 a h.lt ha)
theorem zArr.mo {G : zG} {S : List Nat} {H H1 : Heap} {a : Nat} {ty : FieldType} {n : Nat} {f : Nat → Value} (h : zArr G H a ty n f) (m : zMo S H H1) (ha : a ∉ S) : zArr G H1 a ty n f := h.kept (m.2 a h.lt ha)
theorem zObj.ex {G : zG} {H H1 : Heap} {a ci : Nat} {fs : List Value} (h : zObj G H a ci fs) (m : zMo [] H H1) : zObj G H1 a ci fs := h.mo m List.not_mem_nil
theorem zIs.ex {G : zG} {H H1 : Heap} {a ci : Nat} (h : zIs G H a ci) (m : zMo [] H H1) : zIs G H1 a ci := h.mo m List.not_mem_nil
theorem zFd.ex {G : zG} {H H1 : Heap} {a ci k : Nat} {v : Value} (h : zFd G H a ci k v) (m : zMo [] H H1) : zFd G H1 a ci k v := h.mo m List.not_mem_nil
theorem zArr.ex {G : zG} {H H1 : Heap} {a : Nat} {ty : FieldType} {n : Nat} {f : Nat → Value} (h : zArr G H a ty n f) (m : zMo [] H H1) : zArr G H1 a ty n f := h.mo m List.not_mem_nil
/-- an array's picture may be told otherwise -/
theorem zArr.to {G : zG} {H : Heap} {a : Nat} {ty : FieldType} {n : Nat} {f g : Nat → Value} (h : zArr G H a ty n f) (e : ∀ j, j < n → f j = g j) : zArr G H a ty n g := by
  obtain ⟨cell, h1, h2, h3, h4, h5, h6⟩ := h
  exact ⟨cell, h1, h2, h3, h4, fun j hj => (by rw [← e j hj]; exact h5 j hj), h6⟩
/-- room for c cells of s slots; no more than that was used -/
def zRm (G : zG) (H : Heap) (c s : Nat) : Prop := H.size + c ≤ zCp G ∧ zT H + s ≤ zSp G
def zUs (c s : Nat) (H H1 : Heap) : Prop := H1.size ≤ H.size + c ∧ zT H1 ≤ zT H + s
theorem zUs.rf {c s : Nat} {H : Heap} : zUs c s H H := ⟨Nat.le_add_right _ _, Nat.le_add_right _ _⟩
theorem zRm.us {G : zG} {H H1 : Heap} {c s c1 s1 : Nat} (h : zRm G H c s) (u : zUs c1 s1 H H1) (c2 s2 : Nat) (hc : c1 + c2 ≤ c) (hs : s1 + s2 ≤ s) : zRm G H1 c2 s2 := by
  obtain ⟨a1, a2⟩ := h
  obtain ⟨b1, b2⟩ := u
  exact ⟨by omega, by omega⟩
theorem zRm.le {G : zG} {H : Heap} {c s : Nat} (h : zRm G H c s) (c2 s2 : Nat) (hc : c2 ≤ c) (hs : s2 ≤ s) : zRm G H c2 s2 := h.us (c1 := 0) (s1 := 0) zUs.rf c2 s2 (by omega) (by omega)
theorem zUs.tr {c s c1 s1 c2 s2 : Nat} {H H1 H2 : Heap} (h1 : zUs c1 s1 H H1) (h2 : zUs c2 s2 H1 H2) (hc : c1 + c2 ≤ c) (hs : s1 + s2 ≤ s) : zUs c s H H2 := by
  obtain ⟨a1, a2⟩ := h1
  obtain ⟨b1, b2⟩ := h2
  exact ⟨by omega, by omega⟩
theorem zUs.le {c s c1 s1 : Nat} {H H1 : Heap} (h1 : zUs c1 s1 H H1) (hc : c1 ≤ c) (hs : s1 ≤ s) : zUs c s H H1 := h1.tr (c2 := 0) (s2 := 0) zUs.rf (by omega) (by omega)
theorem zUp.us {a c s : Nat} {H H1 : Heap} (h : zUp a H H1) : zUs c s H H1 := ⟨by have := h.1; omega, by have := h.2.1; omega⟩
theorem zNw.us {n : Nat} {H H1 : Heap} (h : zNw n H H1) : zUs 1 n H H1 := ⟨by have := h.1; omega, by have := h.2.1; omega⟩
end
section
theorem zC_in {G : zG} {d : Nat} {M : zMd} {av : List Value} {H : Heap} {Q : Option Value → Heap → Prop} (lv : List (Option Value)) (hp : plainFor M.1 = true) (hG : zGo G) (hav : av.all (fun v => v.category == 1) = true) (hl : av.length ≤ M.2.2.1) (hlv : av.map some ++ List.replicate (M.2.2.1 - av.length) none = lv) (k : zOk G H → zW G d M 0 lv [] H Q) : zC G d M av H Q := by
  subst hlv
  exact zC_of hp hG (fun v hv => by simpa using List.all_eq_true.mp hav v hv) hl k
section ZX
variable {G : zG} {d : Nat} {M : zMd} {pc : Nat} {lv : List (Option Value)} {st : List Value} {H : Heap} {Q : Option Value → Heap → Prop}
theorem zw_aaldV {a n : Nat} {ty : FieldType} {f : Nat → Value} {i : Int32} {v : Value} (hd : decode M.2.1 pc = .ok (.aaload, 1)) (hr : ty.isReference = true) (hA : zArr G H a ty n f) (hi : vp_in i n) (hv : f i.toNatClampNeg = v) (kk : zW G d M (pc + 1) lv (v :: st) H Q) : zW G d M pc lv (.int i :: .ref a :: st) H Q := by
  subst hv
  exact zw_aald hd hr hA hi kk
/-- new Object[] -/
theorem zw_anew {idx N : Nat} {n : Int32} (hd : decode M.2.1 pc = .ok (.anewarray idx, 3)) (hw : Cond.classLink M.1.cls idx "java/lang/Object" ∈ lw_tbl) (hw2 : Cond.arrayOver (.object "java/lang/Object") ∈ lw_tbl) (hn : ¬ n < 0) (hN : n.toNatClampNeg = N) (hb : N * 4 ≤ 536870912) (hc1 : H.size + 1 ≤ zCp G) (hs1 : zT H + N ≤ zSp G) (kk : ∀ H1 : Heap, zArr G H1 H.size (.object "java/lang/Object") N (fun _ => .null) → zNw N H H1 → zW G d M (pc + 3) lv (.ref H.size :: st) H1 Q) : zW G d M pc lv (.int n :: st) H Q := by
  intro p e s m args below meth c locs ls cells slots g0 g1 A h1 h2 h3 h4 h5
  subst hN
  refine zw_norm fun b1 b2 => ?_
  have hsl := h5.2.2
  refine W.anew A.1 A.2.1 A.2.2.2.2.2.1 (zWd g0 g1 hw rfl) (va_AO.use ((va_AO.of (g0.1 _ hw2)).moved g1.alike)) rfl hd rfl hn hb (by show _ ≤ zCp G - s.heap.size; omega) (by show _ ≤ zSp G - zT s.heap; omega) fun cA kA comp f1 f2 f3 f4 => ?_
  have hnw : zNw n.toNatClampNeg H (H.push ({ cls := cA, slots := Array.replicate n.toNatClampNeg .null, vm := .none } : Cell)) := by
    have := zNw_push H ({ cls := cA, slots := Array.replicate n.toNatClampNeg .null, vm := .none } : Cell)
    rw [show (({ cls := cA, slots := Array.replicate n.toNatClampNeg .null, vm := .none } : Cell).slots.size) = n.toNatClampNeg by simp] at this
    exact this
  obtain ⟨k0, hk0, he⟩ := g1.alike.symm.2.2 _ _ f2
  refine kk _ ⟨_, Array.getElem?_push_size, ⟨(fun k h => (by cases h)), k0, hk0, comp, (by rw [he]; exact f3)⟩, (fun h => (by cases h)), (by simp), (fun j hj => (by simp [hj])), (fun _ => (show va_RA s cA (.object "java/lang/Object") from ⟨kA, comp, f2, f3, f4, f1⟩).moved g1.alike.symm)⟩ hnw p e s m args below meth c locs ls _ _ g0 g1 A h1 h2 h3 h4 (hnw.ok hc1 hs1 h5)
/-- an object into an Object[] -/
theorem zw_aast {a b n ci N : Nat} {C : String} {T : u_T} {f : Nat → Value} {i : Int32} (hd : decode M.2.1 pc = .ok (.aastore, 1)) (hA : zArr G H a (.object "java/lang/Object") n f) (hi : vp_in i n) (ha : zFr G a) (hv : zIs G H b ci) (hc : classes[ci]? = some (C, T, N)) (hw : Cond.castable C "java/lang/Object" ∈ lw_tbl) (kk : ∀ H1 : Heap, zArr G H1 a (.object "java/lang/Object") n (updV f i.toNatClampNeg (.ref b)) → zUp a H H1 → zW G d M (pc + 1) lv st H1 Q) : zW G d M pc lv (.ref b :: .int i :: .ref a :: st) H Q := by
  intro p e s m args below meth c locs ls cells slots g0 g1 A h1 h2 h3 h4 h5
  obtain ⟨cell, q1, q2, q3, q4, q5, q6⟩ := hA
  obtain ⟨kA, comp, k1, k2, k3, -⟩ := (q6 ha).moved g1.alike
  obtain ⟨cv, v1, v2, v3⟩ := hv
  obtain ⟨c0, t0, f1, f2, f3⟩ := Cond.castable_spec (va_Nw.use (A := args) rfl (va_Nw.warmC g1 (va_Nw.of rfl (g0.1 _ hw))))
  have hcl := ((zK_at g0 g1).1 ci _ hc).2
  obtain ⟨kC, hkC, -⟩ := hcl.2
  have e1 : c0 = (zD G).1 ci := Option.some.inj (f1.symm.trans hcl.1)
  have e2 : t0 = comp := Option.some.inj (f2.symm.trans k3)
  subst e1 e2
  obtain ⟨kO, hkO, -⟩ := Vm.findClass_spec k3
  refine W.aast A.1 A.2.1 q1 q2.1 q3 k1 k2 rfl hkO ⟨fun z => hi (Or.inl z), by rw [q4]; exact Nat.not_le.mp fun z => hi (Or.inr z)⟩ v1 (fun q h => by rw [h] at v2; cases v2) (by rw [v3]; exact hkC) (by rw [v3]; exact f3) rfl rfl hd fun H' e1 e2 e3 => ?_
  have hu : zUp a H H' := zUp_of q1 e1 (by simp [Cell.setSlot]) e2 e3
  refine kk H' (zArr_set q2 q3 q4 q5 q6 e1) hu p e s m args below meth c _ ls cells slots g0 g1 A h1 h2 (fun q hq => ?_) h4 (hu.ok ha h5)
  rcases List.mem_append.mp hq with h | h
  · exact h3 q h
  · rw [List.mem_singleton.mp h]
    exact ha
/-- null into an Object[] -/
theorem zw_aastN {a n : Nat} {f : Nat → Value} {i : Int32} (hd : decode M.2.1 pc = .ok (.aastore, 1)) (hA : zArr G H a (.object "java/lang/Object") n f) (hi : vp_in i n) (ha : zFr G a) (kk : ∀ H1 : Heap, zArr G H1 a (.object "java/lang/Object") n (updV f i.toNatClampNeg .null) → zUp a H H1 → zW G d M (pc + 1) lv st H1 Q) : zW G d M pc lv (.null :: .int i :: .ref a :: st) H Q := by
  intro p e s m args below meth c locs ls cells slots g0 g1 A h1 h2 h3 h4 h5
  obtain ⟨cell, q1, q2, q3, q4, q5, q6⟩ := hA
  refine va_WaastN (C := "java/lang/Object") A.1 A.2.1 q1 (State.isArrayOf_alike g1.alike q2) q3 (by rw [q4]; exact hi) rfl rfl hd fun H' e1 e2 e3 => ?_
  have hu : zUp a H H' := zUp_of q1 e1 (by simp [Cell.setSlot]) e2 e3
  refine kk H' (zArr_set q2 q3 q4 q5 q6 e1) hu p e s m args below meth c _ ls cells slots g0 g1 A h1 h2 (fun q hq => ?_) h4 (hu.ok ha h5)
  rcases List.mem_append.mp hq with h | h
  · exact h3 q h
  · rw [List.mem_singleton.mp h]
    exact ha
theorem zPairs (at_ : Nat) : ∀ (xs : List Value) (i : Nat) (c : Cell) (k : Nat), k < c.slots.size → (c.storePairs at_ (xs.zipIdx i)).slots[k]? = if at_ + i ≤ k ∧ k < at_ + i + xs.length then xs[k - (at_ + i)]? else c.slots[k]?
  | [], i, c, k, hk => by
    rw [if_neg (by simp only [List.length_nil]; omega)]
    rfl
  | x :: xs, i, c, k, hk => by
    rw [List.zipIdx_cons]
    show ((c.setSlot (at_ + i) x).storePairs at_ (xs.zipIdx (i + 1))).slots[k]? = _
    rw [zPairs at_ xs (i + 1) (c.setSlot (at_ + i) x) k (by simpa [Cell.setSlot] using hk)]
    by_cases e : k = at_ + i
    · subst e
      rw [if_neg (by omega), if_pos (by simp only [List.length_cons]; omega), Cell.slots_setSlot_self x hk]
      simp
    · by_cases h : at_ + (i + 1) ≤ k ∧ k < at_ + (i + 1) + xs.length
      · rw [if_pos h, if_pos (by simp only [List.length_cons]; omega), show k - (at_ + i) = (k - (at_ + (i + 1))) + 1 by omega, List.getElem?_cons_succ]
      · rw [if_neg h, if_neg (by simp only [List.length_cons]; omega), slot_ne _ _ (fun q => e q.symm)]
theorem zStretch {c : Cell} {sp n i n0 : Nat} {f : Nat → Value} (q4 : c.slots.size = n0) (q5 : ∀ j : Nat, j < n0 → c.slots[j]? = some (f j)) (h : sp + n ≤ n0) (hi : i < n) : (c.stretch sp n)[i]? = some (f (sp + i)) := by
  unfold Cell.stretch
  rw [List.getElem?_map, List.getElem?_range hi]
  simp only [Option.map_some]
  rw [Array.getD_eq_getD_getElem?, q5 _ (by omega)]
  rfl
theorem zCopied {cs cd : Cell} {sp dp n : Int32} {n0 n1 : Nat} {f g : Nat → Value} (a4 : cs.slots.size = n0) (a5 : ∀ j : Nat, j < n0 → cs.slots[j]? = some (f j)) (b4 : cd.slots.size = n1) (b5 : ∀ j : Nat, j < n1 → cd.slots[j]? = some (g j)) (h4 : sp.toNatClampNeg + n.toNatClampNeg ≤ n0) (h5 : dp.toNatClampNeg + n.toNatClampNeg ≤ n1) :
    ∀ j : Nat, j < n1 → (copied cs cd sp dp n).slots[j]? = some (va_cpy f g sp.toNatClampNeg dp.toNatClampNeg n.toNatClampNeg j) := by
  intro j hj
  have hl : (cs.stretch sp.toNatClampNeg n.toNatClampNeg).length = n.toNatClampNeg := by simp [Cell.stretch]
  show ((cd.storePairs dp.toNatClampNeg ((cs.stretch sp.toNatClampNeg n.toNatClampNeg).zipIdx 0)).slots)[j]? = _
  rw [zPairs _ _ 0 cd j (by omega), hl, Nat.add_zero]
  unfold va_cpy
  by_cases h : dp.toNatClampNeg ≤ j ∧ j < dp.toNatClampNeg + n.toNatClampNeg
  · rw [if_pos h, if_pos h, zStretch a4 a5 h4 (by omega)]
  · rw [if_neg h, if_neg h]
    exact b5 j hj
theorem zNn {z : Int32} (hz : ¬ z < 0) : z.toInt = (z.toNatClampNeg : Int) := by
  have hz0 : (0 : Int) ≤ z.toInt := by
    have := Int32.not_lt.mp hz
    simpa using Int32.le_iff_toInt_le.mp this
  show z.toInt = ((z.toInt.toNat : Nat) : Int)
  omega
/-- what may be copied into an array of ty: a number that fits; null, or an object of a known class into an Object[] -/
def zCpv (G : zG) (H : Heap) (ty : FieldType) (v : Value) : Prop := (refKind ty = false ∧ fits ty v = true ∧ ∃ x : Int32, v = .int x) ∨ (ty = .object "java/lang/Object" ∧ (v = .null ∨ ∃ (b ci N : Nat) (C : String) (T : u_T), v = .ref b ∧ zIs G H b ci ∧ classes[ci]? = some (C, T, N) ∧ Cond.castable C "java/lang/Object" ∈ lw_tbl))
theorem zw_copy {idx a0 a1 n0 n1 : Nat} {ty : FieldType} {f g : Nat → Value} {sp dp n : Int32} (hd : decode M.2.1 pc = .ok (.invokestatic idx, 3)) (hd1 : 1 ≤ d) (hw : Cond.methodLink M.1.cls idx arraycopyName ∈ lw_tbl) (hw1 : Cond.native arraycopyName ∈ lw_tbl) (hw2 : Cond.static arraycopyName ∈ lw_tbl) (hw3 : Cond.initialized "java/lang/System" ∈ lw_tbl)
    (hA : zArr G H a0 ty n0 f) (hB : zArr G H a1 ty n1 g) (ha : zFr G a1) (s1 : ¬ sp < 0) (s2 : ¬ dp < 0) (s3 : ¬ n < 0) (s4 : sp.toNatClampNeg + n.toNatClampNeg ≤ n0) (s5 : dp.toNatClampNeg + n.toNatClampNeg ≤ n1) (hfit : ∀ i : Nat, i < n.toNatClampNeg → zCpv G H ty (f (sp.toNatClampNeg + i))) (hr : st.length ≤ 4)
    (kk : ∀ H1 : Heap, zArr G H1 a1 ty n1 (va_cpy f g sp.toNatClampNeg dp.toNatClampNeg n.toNatClampNeg) → zUp a1 H H1 → zW G d M (pc + 3) lv st H1 Q) : zW G d M pc lv (.int n :: .int dp :: .ref a1 :: .int sp :: .ref a0 :: st) H Q := by
  intro p e s m args below meth c locs ls cells slots g0 g1 A h1 h2 h3 h4 h5
  obtain ⟨cs, p1, p2, p3, p4, p5, p6⟩ := hA
  obtain ⟨cd, r1, r2, r3, r4, r5, r6⟩ := hB
  obtain ⟨-, k0, hk0, cm0, hkk0⟩ := State.isArrayOf_alike g1.alike p2
  obtain ⟨-, k1, hk1, cm1, hkk1⟩ := State.isArrayOf_alike g1.alike r2
  intro T hT X
  obtain ⟨vm', X', step⟩ := X.arraycopy A.1 A.2.2.2.2.2.1 (zWd g0 g1 hw rfl) (zWd g0 g1 hw1 rfl) (zWd g0 g1 hw2 rfl) (zWd g0 g1 hw3 rfl) (src := a0) (dst := a1) (cs := cs) (cd := cd) (srcPos := sp) (destPos := dp) (n := n) (by rw [hT]; exact p1) (by rw [hT]; exact r1)
    p2.1 r2.1 p3 r3 hk0 hk1 hkk0 hkk1 (by simp) s1 s2 s3
    (by rw [zNn s1, zNn s3, p4]; omega)
    (by rw [zNn s2, zNn s3, r4]; omega)
    (fun vm₁ hal i hi => by
      have e : cs.slots.getD (sp.toNatClampNeg + i) .null = f (sp.toNatClampNeg + i) := by
        rw [Array.getD_eq_getD_getElem?, p5 _ (by omega)]
        rfl
      rw [e]
      rcases hfit i hi with ⟨z1, z2, x, z3⟩ | ⟨rfl, z⟩
      · rw [z3] at z2 ⊢
        exact ⟨z2, trivial⟩
      · rcases z with z | ⟨b, ci, N, C, T2, z, z1, z2, z3⟩
        · rw [z]
          exact ⟨rfl, trivial⟩
        · rw [z]
          obtain ⟨kA, comp, t1, t2, t3, -⟩ := (r6 ha).moved g1.alike
          cases hk1.symm.trans t1
          cases hkk1.symm.trans t2
          obtain ⟨cv, v1, v2, v3⟩ := z1
          obtain ⟨c0, t0, f1, f2, f3⟩ := Cond.castable_spec (va_Nw.use (A := args) rfl (va_Nw.warmC g1 (va_Nw.of rfl (g0.1 _ z3))))
          have hcl := ((zK_at g0 g1).1 ci _ z2).2
          obtain ⟨kC, hkC, -⟩ := hcl.2
          have e1 : c0 = (zD G).1 ci := Option.some.inj (f1.symm.trans hcl.1)
          have e2 : t0 = cm1 := Option.some.inj (f2.symm.trans t3)
          subst e1 e2
          obtain ⟨kE, hkE, -⟩ := Vm.findClass_spec t3
          obtain ⟨kC', hkC', -⟩ := hal.2.2 _ _ hkC
          obtain ⟨kE', hkE', -⟩ := hal.2.2 _ _ hkE
          refine ⟨rfl, cv, (show T.heap[b]? = some cv by rw [hT]; exact v1), (fun q h => by rw [h] at v2; cases v2), ⟨kC', by rw [v3]; exact hkC'⟩, ⟨kE', hkE'⟩, ?_⟩
          show vm₁.assignable _ _ = true
          rw [hal.assignable, v3]
          exact f3)
    (g := F0 m pc ls (.int n :: .int dp :: .ref a1 :: .int sp :: .ref a0 :: st)) rfl (by rw [A.2.2.1]; exact h2.1.trans h1) (rest := st) rfl (by rw [A.2.1]; exact hd) hd1
    (by
      have e1 := zCat_le st
      have hw : nativeFrameWords "java/lang/System" "arraycopy" 5 = 7 := by decide
      show 2 * 0 + (st.map fun v => v.category).sum + (nativeFrameWords "java/lang/System" "arraycopy" 5 + 11) ≤ 41 * d
      omega)
  have hl : a1 < H.size := (Array.getElem?_eq_some_iff.mp r1).1
  have hf := Cell.storePairs_facts cd dp.toNatClampNeg (cs.stretch sp.toNatClampNeg n.toNatClampNeg).zipIdx
  have hcell : (H.setIfInBounds a1 (copied cs cd sp dp n))[a1]? = some (copied cs cd sp dp n) := by simp [Array.getElem?_setIfInBounds, hl]
  have hu : zUp a1 H (H.setIfInBounds a1 (copied cs cd sp dp n)) := zUp_of r1 hcell hf.2.2.1 (by simp) (fun q hq => by simp [Array.getElem?_setIfInBounds, Ne.symm hq])
  have hheap : ((T.setVm vm').setCell a1 (copied cs cd sp dp n)).heap = H.setIfInBounds a1 (copied cs cd sp dp n) := by rw [← hT]; rfl
  have hz : zArr G (H.setIfInBounds a1 (copied cs cd sp dp n)) a1 ty n1 (va_cpy f g sp.toNatClampNeg dp.toNatClampNeg n.toNatClampNeg) := by
    refine ⟨_, hcell, ⟨?_, ?_⟩, ?_, ?_, zCopied p4 p5 r4 r5 s4 s5, ?_⟩
    · intro k
      rw [show (copied cs cd sp dp n).vm = cd.vm from hf.2.1]
      exact r2.1 k
    · rw [show (copied cs cd sp dp n).cls = cd.cls from hf.1]
      exact r2.2
    · rw [show (copied cs cd sp dp n).vm = cd.vm from hf.2.1]
      exact r3
    · exact hf.2.2.1.trans r4
    · rw [show (copied cs cd sp dp n).cls = cd.cls from hf.1]
      exact r6
  obtain ⟨t, b1, b2⟩ := kk _ hz hu p e s m args below meth c _ ls cells slots g0 g1 A h1 h2 (fun q hq => by
      rcases List.mem_append.mp hq with h | h
      · exact h3 q h
      · obtain ⟨z, -, hz⟩ := List.mem_map.mp h
        rw [← hz]
        exact ha) h4 (hu.ok ha h5) _ hheap X'
  exact ⟨t, step t b1, b2⟩
/-- byte[].clone() -/
theorem zw_cloneB {idx a n : Nat} {f : Nat → Value} (hd : decode M.2.1 pc = .ok (.invokevirtual idx, 3)) (hd1 : 1 ≤ d) (hw : Cond.methodLink M.1.cls idx ⟨"[B", "clone", "()Ljava/lang/Object;"⟩ ∈ lw_tbl) (hw1 : Cond.sameMethod "[B" "java/lang/Object" "clone" "()Ljava/lang/Object;" ∈ lw_tbl) (hw2 : Cond.native ⟨"java/lang/Object", "clone", "()Ljava/lang/Object;"⟩ ∈ lw_tbl) (hw3 : Cond.instanceMethod ⟨"java/lang/Object", "clone", "()Ljava/lang/Object;"⟩ ∈ lw_tbl)
    (hw4 : Cond.selects "[B" ⟨"[B", "clone", "()Ljava/lang/Object;"⟩ ⟨"java/lang/Object", "clone", "()Ljava/lang/Object;"⟩ ∈ lw_tbl) (hw5 : Cond.castable "[B" "java/lang/Cloneable" ∈ lw_tbl) (hA : zArr G H a .byte n f) (ha : zFr G a) (hfit : ∀ j : Nat, j < n → fits .byte (f j) = true) (hc1 : H.size + 1 ≤ zCp G) (hs1 : zT H + n ≤ zSp G) (hr : st.length ≤ 4)
    (kk : ∀ H1 : Heap, zArr G H1 H.size .byte n f → zNw n H H1 → zW G d M (pc + 3) lv (.ref H.size :: st) H1 Q) : zW G d M pc lv (.ref a :: st) H Q := by
  intro p e s m args below meth c locs ls cells slots g0 g1 A h1 h2 h3 h4 h5
  refine zw_norm fun b1 b2 => ?_
  have hsl := h5.2.2
  obtain ⟨cell, q1, q2, q3, q4, q5, q6⟩ := hA
  have hnm : s.vm.findClass "[B" = some cell.cls := (q6 ha).moved g1.alike
  obtain ⟨c0, t0', f1, f2, f3⟩ := Cond.castable_spec (va_Nw.use (A := args) rfl (va_Nw.warmC g1 (va_Nw.of rfl (g0.1 _ hw5))))
  cases hnm.symm.trans f1
  intro T hT X
  obtain ⟨-, kA, hkA, comp, hkind⟩ := State.isArrayOf_alike X.warmed.alike (State.isArrayOf_alike g1.alike q2)
  obtain ⟨-, kS, hkS, compS, hkindS⟩ := State.isArrayOf_alike g1.alike q2
  obtain ⟨vm', X', st'⟩ := X.cloneArray A.1 A.2.2.2.2.2.1 (zWd g0 g1 hw rfl) (zWd g0 g1 hw1 rfl) (zWd g0 g1 hw2 rfl) (zWd g0 g1 hw3 rfl) (zWd g0 g1 hw4 rfl) (a := a) (cell := cell) (by rw [hT]; exact q1) q2.1 q3 hnm f2 f3
    (fun i v hv => by
      have hin : i < n := by
        have := (Array.getElem?_eq_some_iff.mp hv).1
        omega
      have hv2 : v = f i := by
        rw [q5 i hin] at hv
        exact (Option.some.inj hv).symm
      have hk' : T.vm.classes[cell.cls]? = some kA := hkA
      have hz := hfit i hin
      rw [← hv2] at hz
      simpa [State.fitsSlot, State.slotType?, hk', hkind] using hz)
    (g := F0 m pc ls (.ref a :: st)) rfl (by rw [A.2.2.1]; exact h2.1.trans h1) rfl (by rw [A.2.1]; exact hd) hd1 (by
      have e1 := zCat_le st
      show 2 * 0 + (st.map fun v => v.category).sum + 14 ≤ 41 * d
      omega) (by show _ ≤ zCp G - s.heap.size; omega) (by rw [q4]; show _ ≤ zSp G - zT s.heap; omega) (hloader := Vm.clonesLoader_of_array hkS hkindS)
  have hnw : zNw n H (H.push ({ cls := cell.cls, slots := cell.slots } : Cell)) := by
    have := zNw_push H ({ cls := cell.cls, slots := cell.slots } : Cell)
    rw [show (({ cls := cell.cls, slots := cell.slots } : Cell).slots.size) = n from q4] at this
    exact this
  obtain ⟨t, c1, c2⟩ := kk (H.push ({ cls := cell.cls, slots := cell.slots } : Cell)) ⟨_, Array.getElem?_push_size, ⟨(fun k h => (by cases h)), q2.2⟩, (fun h => (by cases h)), q4, q5, fun _ => q6 ha⟩ hnw p e s m args below meth c locs ls _ _ g0 g1 A h1 h2 h3 h4 (hnw.ok hc1 hs1 h5) ((T.setVm vm').pushCell ({ cls := cell.cls, slots := cell.slots } : Cell)) (by rw [← hT]; rfl) X'
  refine ⟨t, st' t ?_, c2⟩
  rw [hT]
  exact c1
/-- checkcast of an array of that very class -/
theorem zw_castA {idx a n : Nat} {ty : FieldType} {f : Nat → Value} (nm : String) (hd : decode M.2.1 pc = .ok (.checkcast idx, 3)) (hw : Cond.classLink M.1.cls idx nm ∈ lw_tbl) (hA : zArr G H a ty n f) (hnm : ∀ cell : Cell, H[a]? = some cell → (zS G).vm.findClass nm = some cell.cls) (kk : zW G d M (pc + 3) lv (.ref a :: st) H Q) : zW G d M pc lv (.ref a :: st) H Q := by
  intro p e s m args below meth c locs ls cells slots g0 g1 A h1 h2 h3 h4 h5
  obtain ⟨cell, q1, q2, q3, q4, q5, q6⟩ := hA
  have hs : cell.vm.isStatics = false := by
    cases hv : cell.vm <;> first | rfl | exact absurd hv (q2.1 _)
  intro T hT X
  obtain ⟨vm', X', st'⟩ := X.checkcastYes A.1 A.2.2.2.2.2.1 (zWd g0 g1 hw rfl) (by rw [hT]; exact q1) hs (by rw [g1.alike.findClass]; exact hnm cell q1) (va_asg _ _) (g := F0 m pc ls (.ref a :: st)) rfl rfl (by rw [A.2.1]; exact hd)
  obtain ⟨t, a1, b1⟩ := kk p e s m args below meth c locs ls cells slots g0 g1 A h1 h2 h3 h4 h5 (T.setVm vm') hT X'
  exact ⟨t, st' t a1, b1⟩
theorem zArr.nmB {a n : Nat} {f : Nat → Value} (h : zArr G H a .byte n f) (ha : zFr G a) : ∀ cell : Cell, H[a]? = some cell → (zS G).vm.findClass "[B" = some cell.cls := by
  obtain ⟨cell, q1, q2, q3, q4, q5, q6⟩ := h
  intro c' hc
  rw [q1] at hc
  cases hc
  exact q6 ha
theorem zArr.nmO {a n : Nat} {f : Nat → Value} (h : zArr G H a (.object "java/lang/Object") n f) (ha : zFr G a) : ∀ cell : Cell, H[a]? = some cell → (zS G).vm.findClass "[Ljava/lang/Object;" = some cell.cls := by
  obtain ⟨cell, q1, q2, q3, q4, q5, q6⟩ := h
  intro c' hc
  rw [q1] at hc
  cases hc
  exact va_nmO (q6 ha) rfl
/-- getClass() of an Object[], and the constant Object[].class -/
theorem zw_getCO {idx a n mi : Nat} {f : Nat → Value} (hd : decode M.2.1 pc = .ok (.invokevirtual idx, 3)) (hd1 : 1 ≤ d) (hw : Cond.methodLink M.1.cls idx ⟨"java/lang/Object", "getClass", "()Ljava/lang/Class;"⟩ ∈ lw_tbl) (hw1 : Cond.declares ⟨"java/lang/Object", "getClass", "()Ljava/lang/Class;"⟩ ∈ lw_tbl) (hw2 : Cond.selects "[Ljava/lang/Object;" ⟨"java/lang/Object", "getClass", "()Ljava/lang/Class;"⟩ ⟨"java/lang/Object", "getClass", "()Ljava/lang/Class;"⟩ ∈ lw_tbl) (hw3 : Cond.instanceMethod ⟨"java/lang/Object", "getClass", "()Ljava/lang/Class;"⟩ ∈ lw_tbl) (hw4 : Cond.native ⟨"java/lang/Object", "getClass", "()Ljava/lang/Class;"⟩ ∈ lw_tbl)
    (hM : va_Mi "[Ljava/lang/Object;" mi (zS G)) (hA : zArr G H a (.object "java/lang/Object") n f) (ha : zFr G a) (hr : st.length ≤ 4) (kk : zW G d M (pc + 3) lv (.ref mi :: st) H Q) : zW G d M pc lv (.ref a :: st) H Q := by
  intro p e s m args below meth c locs ls cells slots g0 g1 A h1 h2 h3 h4 h5
  have hn := hA.nmO ha
  obtain ⟨cell, q1, q2, q3, q4, q5, q6⟩ := hA
  have hs : cell.vm.isStatics = false := by
    cases hv : cell.vm <;> first | rfl | exact absurd hv (q2.1 _)
  refine va_getC A.1 A.2.1 (by rw [A.2.2.1]; exact (h2.1.trans h1).symm) A.2.2.2.2.2.1 (zWd g0 g1 hw rfl) (va_Dc.use ((va_Dc.of (g0.1 _ hw1)).moved g1.alike)) (zWd g0 g1 hw2 rfl) (zWd g0 g1 hw3 rfl) (zWd g0 g1 hw4 rfl) (hM.moved g1.alike) ⟨cell, q1, hs, by rw [g1.alike.findClass]; exact hn cell q1⟩ hd1 ?_ hd (kk p e s m args below meth c locs ls cells slots g0 g1 A h1 h2 h3 h4 h5)
  have e1 := zCat_le st
  show (st.map fun v => v.category).sum + 14 ≤ 41 * d
  omega
theorem zw_ldcM {idx mi : Nat} {C : String} (hd : decode M.2.1 pc = .ok (.ldc idx, 2)) (hw : Cond.classLink M.1.cls idx C ∈ lw_tbl) (hM : va_Mi C mi (zS G)) (kk : zW G d M (pc + 2) lv (.ref mi :: st) H Q) : zW G d M pc lv st H Q :=
  fun p e s m args below meth c locs ls cells slots g0 g1 A h1 h2 h3 h4 h5 => va_ldcM A.1 A.2.1 A.2.2.2.2.2.1 (zWd g0 g1 hw rfl) (hM.moved g1.alike) hd (kk p e s m args below meth c locs ls cells slots g0 g1 A h1 h2 h3 h4 h5)
/-- ldc2_w of a long -/
theorem zw_ldc2 {idx : Nat} {v : Int64} (hd : decode M.2.1 pc = .ok (.ldc2_w idx, 3)) (hw : Cond.constantLong M.1.cls idx v ∈ lw_tbl) (kk : zW G d M (pc + 3) lv (.long v :: st) H Q) : zW G d M pc lv st H Q :=
  fun p e s m args below meth c locs ls cells slots g0 g1 A h1 h2 h3 h4 h5 => lv_ldc2 A.1 A.2.1 A.2.2.2.2.2.1 (zWd g0 g1 hw rfl) hd (kk p e s m args below meth c locs ls cells slots g0 g1 A h1 h2 h3 h4 h5)
end ZX
end
section
abbrev M_N_init : MethodName × ByteArray × Nat × Option FieldType := (⟨"NetDesk", "<init>", "()V"⟩, prog_1_method_1_code, 1, none)
abbrev M_Oj_init : MethodName × ByteArray × Nat × Option FieldType := (⟨"java/lang/Object", "<init>", "()V"⟩, object_method_1_code, 1, none)
abbrev M_Sb_init : MethodName × ByteArray × Nat × Option FieldType := (⟨"java/lang/StringBuilder", "<init>", "()V"⟩, prog_21_method_1_code, 1, none)
abbrev M_Ab_init : MethodName × ByteArray × Nat × Option FieldType := (⟨"java/lang/AbstractStringBuilder", "<init>", "(I)V"⟩, prog_15_method_2_code, 2, none)
abbrev M_U16_newBytesFor : MethodName × ByteArray × Nat × Option FieldType := (⟨"java/lang/StringUTF16", "newBytesFor", "(I)[B"⟩, prog_23_method_2_code, 1, some (.array .byte))
abbrev M_U16_newBytesLength : MethodName × ByteArray × Nat × Option FieldType := (⟨"java/lang/StringUTF16", "newBytesLength", "(I)I"⟩, prog_23_method_3_code, 1, some .int)
abbrev M_Ad_init : MethodName × ByteArray × Nat × Option FieldType := (⟨"NetDesk$Address", "<init>", "(Ljava/lang/String;Ljava/lang/String;Ljava/lang/String;Ljava/lang/String;)V"⟩, prog_2_method_1_code, 5, none)
abbrev M_Fl_init : MethodName × ByteArray × Nat × Option FieldType := (⟨"NetDesk$Fields", "<init>", "()V"⟩, prog_5_method_1_code, 1, none)
abbrev M_An_init : MethodName × ByteArray × Nat × Option FieldType := (⟨"NetDesk$Answer", "<init>", "(LNetDesk$Address;LNetDesk$Fields;Ljava/lang/String;)V"⟩, prog_3_method_1_code, 4, none)
abbrev M_Al_init : MethodName × ByteArray × Nat × Option FieldType := (⟨"java/util/ArrayList", "<init>", "()V"⟩, prog_27_method_2_code, 1, none)
abbrev M_AL_init : MethodName × ByteArray × Nat × Option FieldType := (⟨"java/util/AbstractList", "<init>", "()V"⟩, prog_26_method_1_code, 1, none)
abbrev M_AC_init : MethodName × ByteArray × Nat × Option FieldType := (⟨"java/util/AbstractCollection", "<init>", "()V"⟩, prog_25_method_1_code, 1, none)
abbrev M_Jr_init : MethodName × ByteArray × Nat × Option FieldType := (⟨"NetDesk$Jar", "<init>", "()V"⟩, prog_6_method_1_code, 1, none)
abbrev M_Kp_init : MethodName × ByteArray × Nat × Option FieldType := (⟨"NetDesk$Keep", "<init>", "()V"⟩, prog_7_method_1_code, 1, none)
abbrev M_N_feed : MethodName × ByteArray × Nat × Option FieldType := (⟨"NetDesk", "feed", "(IIIII)I"⟩, prog_1_method_2_code, 6, some .int)
abbrev M_Sb_length : MethodName × ByteArray × Nat × Option FieldType := (⟨"java/lang/StringBuilder", "length", "()I"⟩, prog_21_method_93_code, 1, some .int)
abbrev M_Ab_length : MethodName × ByteArray × Nat × Option FieldType := (⟨"java/lang/AbstractStringBuilder", "length", "()I"⟩, prog_15_method_6_code, 1, some .int)
abbrev M_N_addWord : MethodName × ByteArray × Nat × Option FieldType := (⟨"NetDesk", "addWord", "(I)V"⟩, prog_1_method_14_code, 3, none)
abbrev M_Sb_append_0 : MethodName × ByteArray × Nat × Option FieldType := (⟨"java/lang/StringBuilder", "append", "(C)Ljava/lang/StringBuilder;"⟩, prog_21_method_14_code, 2, some (.object "java/lang/StringBuilder"))
abbrev M_Ab_append_0 : MethodName × ByteArray × Nat × Option FieldType := (⟨"java/lang/AbstractStringBuilder", "append", "(C)Ljava/lang/AbstractStringBuilder;"⟩, prog_15_method_31_code, 2, some (.object "java/lang/AbstractStringBuilder"))
abbrev M_Ab_ensureCapacityInternal : MethodName × ByteArray × Nat × Option FieldType := (⟨"java/lang/AbstractStringBuilder", "ensureCapacityInternal", "(I)V"⟩, prog_15_method_9_code, 3, none)
abbrev M_Ab_newCapacity : MethodName × ByteArray × Nat × Option FieldType := (⟨"java/lang/AbstractStringBuilder", "newCapacity", "(I)I"⟩, prog_15_method_10_code, 6, some .int)
abbrev M_AS_newLength : MethodName × ByteArray × Nat × Option FieldType := (⟨"jdk/internal/util/ArraysSupport", "newLength", "(III)I"⟩, prog_34_method_27_code, 4, some .int)
abbrev M_Ma_max : MethodName × ByteArray × Nat × Option FieldType := (⟨"java/lang/Math", "max", "(II)I"⟩, prog_19_method_65_code, 2, some .int)
abbrev M_AS_hugeLength : MethodName × ByteArray × Nat × Option FieldType := (⟨"jdk/internal/util/ArraysSupport", "hugeLength", "(II)I"⟩, prog_34_method_28_code, 3, some .int)
abbrev M_Ar_copyOf_0 : MethodName × ByteArray × Nat × Option FieldType := (⟨"java/util/Arrays", "copyOf", "([BI)[B"⟩, prog_28_method_121_code, 3, some (.array .byte))
abbrev M_Ma_min : MethodName × ByteArray × Nat × Option FieldType := (⟨"java/lang/Math", "min", "(II)I"⟩, prog_19_method_69_code, 2, some .int)
abbrev M_Ab_isLatin1 : MethodName × ByteArray × Nat × Option FieldType := (⟨"java/lang/AbstractStringBuilder", "isLatin1", "()Z"⟩, prog_15_method_68_code, 1, some .boolean)
abbrev M_L1_canEncode_0 : MethodName × ByteArray × Nat × Option FieldType := (⟨"java/lang/StringLatin1", "canEncode", "(C)Z"⟩, prog_22_method_3_code, 1, some .boolean)
abbrev M_Ab_inflate : MethodName × ByteArray × Nat × Option FieldType := (⟨"java/lang/AbstractStringBuilder", "inflate", "()V"⟩, prog_15_method_11_code, 2, none)
abbrev M_L1_inflate : MethodName × ByteArray × Nat × Option FieldType := (⟨"java/lang/StringLatin1", "inflate", "([BI[BII)V"⟩, prog_22_method_50_code, 5, none)
abbrev M_U16_inflate : MethodName × ByteArray × Nat × Option FieldType := (⟨"java/lang/StringUTF16", "inflate", "([BI[BII)V"⟩, prog_23_method_86_code, 6, none)
abbrev M_U16_checkBoundsOffCount : MethodName × ByteArray × Nat × Option FieldType := (⟨"java/lang/StringUTF16", "checkBoundsOffCount", "(II[B)V"⟩, prog_23_method_94_code, 3, none)
abbrev M_U16_length : MethodName × ByteArray × Nat × Option FieldType := (⟨"java/lang/StringUTF16", "length", "([B)I"⟩, prog_23_method_6_code, 1, some .int)
abbrev M_St_checkBoundsOffCount : MethodName × ByteArray × Nat × Option FieldType := (⟨"java/lang/String", "checkBoundsOffCount", "(III)I"⟩, prog_20_method_157_code, 3, some .int)
abbrev M_Pc_checkFromIndexSize : MethodName × ByteArray × Nat × Option FieldType := (⟨"jdk/internal/util/Preconditions", "checkFromIndexSize", "(IIILjava/util/function/BiFunction;)I"⟩, prog_35_method_13_code, 4, some .int)
abbrev M_U16_putChar : MethodName × ByteArray × Nat × Option FieldType := (⟨"java/lang/StringUTF16", "putChar", "([BII)V"⟩, prog_23_method_4_code, 3, none)
abbrev M_U16_putCharSB : MethodName × ByteArray × Nat × Option FieldType := (⟨"java/lang/StringUTF16", "putCharSB", "([BII)V"⟩, prog_23_method_71_code, 3, none)
abbrev M_U16_checkIndex : MethodName × ByteArray × Nat × Option FieldType := (⟨"java/lang/StringUTF16", "checkIndex", "(I[B)V"⟩, prog_23_method_91_code, 2, none)
abbrev M_St_checkIndex : MethodName × ByteArray × Nat × Option FieldType := (⟨"java/lang/String", "checkIndex", "(II)V"⟩, prog_20_method_155_code, 2, none)
abbrev M_Pc_checkIndex : MethodName × ByteArray × Nat × Option FieldType := (⟨"jdk/internal/util/Preconditions", "checkIndex", "(IILjava/util/function/BiFunction;)I"⟩, prog_35_method_11_code, 3, some .int)
abbrev M_N_end : MethodName × ByteArray × Nat × Option FieldType := (⟨"NetDesk", "end", "(I)I"⟩, prog_1_method_3_code, 2, some .int)
abbrev M_Sb_setLength : MethodName × ByteArray × Nat × Option FieldType := (⟨"java/lang/StringBuilder", "setLength", "(I)V"⟩, prog_21_method_89_code, 2, none)
abbrev M_Ab_setLength : MethodName × ByteArray × Nat × Option FieldType := (⟨"java/lang/AbstractStringBuilder", "setLength", "(I)V"⟩, prog_15_method_13_code, 2, none)
abbrev M_L1_fillNull : MethodName × ByteArray × Nat × Option FieldType := (⟨"java/lang/StringLatin1", "fillNull", "([BII)V"⟩, prog_22_method_48_code, 3, none)
abbrev M_Ar_fill : MethodName × ByteArray × Nat × Option FieldType := (⟨"java/util/Arrays", "fill", "([BIIB)V"⟩, prog_28_method_110_code, 5, none)
abbrev M_Ar_rangeCheck : MethodName × ByteArray × Nat × Option FieldType := (⟨"java/util/Arrays", "rangeCheck", "(III)V"⟩, prog_28_method_30_code, 3, none)
abbrev M_U16_fillNull : MethodName × ByteArray × Nat × Option FieldType := (⟨"java/lang/StringUTF16", "fillNull", "([BII)V"⟩, prog_23_method_70_code, 3, none)
abbrev M_N_out : MethodName × ByteArray × Nat × Option FieldType := (⟨"NetDesk", "out", "(I)I"⟩, prog_1_method_4_code, 2, some .int)
abbrev M_Sb_charAt : MethodName × ByteArray × Nat × Option FieldType := (⟨"java/lang/StringBuilder", "charAt", "(I)C"⟩, prog_21_method_88_code, 2, some .char)
abbrev M_Ab_charAt : MethodName × ByteArray × Nat × Option FieldType := (⟨"java/lang/AbstractStringBuilder", "charAt", "(I)C"⟩, prog_15_method_14_code, 5, some .char)
abbrev M_U16_getChar : MethodName × ByteArray × Nat × Option FieldType := (⟨"java/lang/StringUTF16", "getChar", "([BI)C"⟩, prog_23_method_5_code, 2, some .char)
abbrev M_N_resolve : MethodName × ByteArray × Nat × Option FieldType := (⟨"NetDesk", "resolve", "()I"⟩, prog_1_method_5_code, 4, some .int)
abbrev M_N_takeText : MethodName × ByteArray × Nat × Option FieldType := (⟨"NetDesk", "takeText", "()Ljava/lang/String;"⟩, prog_1_method_15_code, 2, some (.object "java/lang/String"))
abbrev M_Sb_toString : MethodName × ByteArray × Nat × Option FieldType := (⟨"java/lang/StringBuilder", "toString", "()Ljava/lang/String;"⟩, prog_21_method_42_code, 1, some (.object "java/lang/String"))
abbrev M_St_init_0 : MethodName × ByteArray × Nat × Option FieldType := (⟨"java/lang/String", "<init>", "(Ljava/lang/StringBuilder;)V"⟩, prog_20_method_53_code, 2, none)
abbrev M_St_init_1 : MethodName × ByteArray × Nat × Option FieldType := (⟨"java/lang/String", "<init>", "(Ljava/lang/AbstractStringBuilder;Ljava/lang/Void;)V"⟩, prog_20_method_150_code, 5, none)
abbrev M_Ab_getValue : MethodName × ByteArray × Nat × Option FieldType := (⟨"java/lang/AbstractStringBuilder", "getValue", "()[B"⟩, prog_15_method_64_code, 1, some (.array .byte))
abbrev M_Ar_copyOfRange : MethodName × ByteArray × Nat × Option FieldType := (⟨"java/util/Arrays", "copyOfRange", "([BII)[B"⟩, prog_28_method_132_code, 3, some (.array .byte))
abbrev M_Ar_copyOfRangeByte : MethodName × ByteArray × Nat × Option FieldType := (⟨"java/util/Arrays", "copyOfRangeByte", "([BII)[B"⟩, prog_28_method_133_code, 5, some (.array .byte))
abbrev M_Ar_checkLength : MethodName × ByteArray × Nat × Option FieldType := (⟨"java/util/Arrays", "checkLength", "(II)V"⟩, prog_28_method_131_code, 2, none)
abbrev M_U16_compress_0 : MethodName × ByteArray × Nat × Option FieldType := (⟨"java/lang/StringUTF16", "compress", "([BII)[B"⟩, prog_23_method_17_code, 6, some (.array .byte))
abbrev M_U16_compress_1 : MethodName × ByteArray × Nat × Option FieldType := (⟨"java/lang/StringUTF16", "compress", "([BI[BII)I"⟩, prog_23_method_22_code, 7, some .int)
abbrev M_U16_coderFromArrayLen : MethodName × ByteArray × Nat × Option FieldType := (⟨"java/lang/StringUTF16", "coderFromArrayLen", "([BI)B"⟩, prog_23_method_15_code, 2, some .byte)
abbrev M_Tx_badByte : MethodName × ByteArray × Nat × Option FieldType := (⟨"NetDesk$Texts", "badByte", "(Ljava/lang/String;)I"⟩, prog_11_method_2_code, 3, some .int)
abbrev M_St_length : MethodName × ByteArray × Nat × Option FieldType := (⟨"java/lang/String", "length", "()I"⟩, prog_20_method_54_code, 1, some .int)
abbrev M_St_coder : MethodName × ByteArray × Nat × Option FieldType := (⟨"java/lang/String", "coder", "()B"⟩, prog_20_method_152_code, 1, some .byte)
abbrev M_St_charAt : MethodName × ByteArray × Nat × Option FieldType := (⟨"java/lang/String", "charAt", "(I)C"⟩, prog_20_method_56_code, 2, some .char)
abbrev M_St_isLatin1 : MethodName × ByteArray × Nat × Option FieldType := (⟨"java/lang/String", "isLatin1", "()Z"⟩, prog_20_method_154_code, 1, some .boolean)
abbrev M_L1_charAt : MethodName × ByteArray × Nat × Option FieldType := (⟨"java/lang/StringLatin1", "charAt", "([BI)C"⟩, prog_22_method_2_code, 2, some .char)
abbrev M_U16_charAt : MethodName × ByteArray × Nat × Option FieldType := (⟨"java/lang/StringUTF16", "charAt", "([BI)C"⟩, prog_23_method_83_code, 2, some .char)
abbrev M_Ad_read : MethodName × ByteArray × Nat × Option FieldType := (⟨"NetDesk$Address", "read", "(Ljava/lang/String;LNetDesk$Address;)LNetDesk$Address;"⟩, prog_2_method_2_code, 12, some (.object "NetDesk$Address"))
abbrev M_Ad_placeOrLength : MethodName × ByteArray × Nat × Option FieldType := (⟨"NetDesk$Address", "placeOrLength", "(Ljava/lang/String;C)I"⟩, prog_2_method_6_code, 3, some .int)
abbrev M_St_indexOf_0 : MethodName × ByteArray × Nat × Option FieldType := (⟨"java/lang/String", "indexOf", "(I)I"⟩, prog_20_method_79_code, 2, some .int)
abbrev M_St_indexOf_1 : MethodName × ByteArray × Nat × Option FieldType := (⟨"java/lang/String", "indexOf", "(II)I"⟩, prog_20_method_80_code, 3, some .int)
abbrev M_L1_indexOf : MethodName × ByteArray × Nat × Option FieldType := (⟨"java/lang/StringLatin1", "indexOf", "([BIII)I"⟩, prog_22_method_22_code, 4, some .int)
abbrev M_L1_canEncode_1 : MethodName × ByteArray × Nat × Option FieldType := (⟨"java/lang/StringLatin1", "canEncode", "(I)Z"⟩, prog_22_method_4_code, 1, some .boolean)
abbrev M_L1_indexOfChar : MethodName × ByteArray × Nat × Option FieldType := (⟨"java/lang/StringLatin1", "indexOfChar", "([BIII)I"⟩, prog_22_method_23_code, 6, some .int)
abbrev M_U16_indexOf : MethodName × ByteArray × Nat × Option FieldType := (⟨"java/lang/StringUTF16", "indexOf", "([BIII)I"⟩, prog_23_method_40_code, 4, some .int)
abbrev M_U16_indexOfChar : MethodName × ByteArray × Nat × Option FieldType := (⟨"java/lang/StringUTF16", "indexOfChar", "([BIII)I"⟩, prog_23_method_47_code, 4, some .int)
abbrev M_U16_checkBoundsBeginEnd : MethodName × ByteArray × Nat × Option FieldType := (⟨"java/lang/StringUTF16", "checkBoundsBeginEnd", "(II[B)V"⟩, prog_23_method_93_code, 3, none)
abbrev M_St_checkBoundsBeginEnd : MethodName × ByteArray × Nat × Option FieldType := (⟨"java/lang/String", "checkBoundsBeginEnd", "(III)V"⟩, prog_20_method_158_code, 3, none)
abbrev M_Pc_checkFromToIndex : MethodName × ByteArray × Nat × Option FieldType := (⟨"jdk/internal/util/Preconditions", "checkFromToIndex", "(IIILjava/util/function/BiFunction;)I"⟩, prog_35_method_12_code, 4, some .int)
abbrev M_U16_indexOfCharUnsafe : MethodName × ByteArray × Nat × Option FieldType := (⟨"java/lang/StringUTF16", "indexOfCharUnsafe", "([BIII)I"⟩, prog_23_method_48_code, 5, some .int)
abbrev M_U16_indexOfSupplementary : MethodName × ByteArray × Nat × Option FieldType := (⟨"java/lang/StringUTF16", "indexOfSupplementary", "([BIII)I"⟩, prog_23_method_49_code, 7, some .int)
abbrev M_Ch_isValidCodePoint : MethodName × ByteArray × Nat × Option FieldType := (⟨"java/lang/Character", "isValidCodePoint", "(I)Z"⟩, prog_16_method_11_code, 2, some .boolean)
abbrev M_Ch_highSurrogate : MethodName × ByteArray × Nat × Option FieldType := (⟨"java/lang/Character", "highSurrogate", "(I)C"⟩, prog_16_method_28_code, 1, some .char)
abbrev M_Ch_lowSurrogate : MethodName × ByteArray × Nat × Option FieldType := (⟨"java/lang/Character", "lowSurrogate", "(I)C"⟩, prog_16_method_29_code, 1, some .char)
abbrev M_St_substring_0 : MethodName × ByteArray × Nat × Option FieldType := (⟨"java/lang/String", "substring", "(II)Ljava/lang/String;"⟩, prog_20_method_92_code, 5, some (.object "java/lang/String"))
abbrev M_L1_newString : MethodName × ByteArray × Nat × Option FieldType := (⟨"java/lang/StringLatin1", "newString", "([BII)Ljava/lang/String;"⟩, prog_22_method_47_code, 3, some (.object "java/lang/String"))
abbrev M_St_init_2 : MethodName × ByteArray × Nat × Option FieldType := (⟨"java/lang/String", "<init>", "([BB)V"⟩, prog_20_method_151_code, 3, none)
abbrev M_U16_newString : MethodName × ByteArray × Nat × Option FieldType := (⟨"java/lang/StringUTF16", "newString", "([BII)Ljava/lang/String;"⟩, prog_23_method_69_code, 5, some (.object "java/lang/String"))
abbrev M_St_substring_1 : MethodName × ByteArray × Nat × Option FieldType := (⟨"java/lang/String", "substring", "(I)Ljava/lang/String;"⟩, prog_20_method_91_code, 2, some (.object "java/lang/String"))
abbrev M_Ad_isQuery : MethodName × ByteArray × Nat × Option FieldType := (⟨"NetDesk$Address", "isQuery", "(Ljava/lang/String;)Z"⟩, prog_2_method_7_code, 1, some .boolean)
abbrev M_St_isEmpty : MethodName × ByteArray × Nat × Option FieldType := (⟨"java/lang/String", "isEmpty", "()Z"⟩, prog_20_method_55_code, 1, some .boolean)
abbrev M_Tx_hasOnly : MethodName × ByteArray × Nat × Option FieldType := (⟨"NetDesk$Texts", "hasOnly", "(Ljava/lang/String;Ljava/lang/String;)Z"⟩, prog_11_method_7_code, 4, some .boolean)
abbrev M_Tx_isSmallLetter : MethodName × ByteArray × Nat × Option FieldType := (⟨"NetDesk$Texts", "isSmallLetter", "(C)Z"⟩, prog_11_method_9_code, 1, some .boolean)
abbrev M_Tx_isDigit : MethodName × ByteArray × Nat × Option FieldType := (⟨"NetDesk$Texts", "isDigit", "(C)Z"⟩, prog_11_method_10_code, 1, some .boolean)
abbrev M_Tx_isName : MethodName × ByteArray × Nat × Option FieldType := (⟨"NetDesk$Texts", "isName", "(Ljava/lang/String;)Z"⟩, prog_11_method_4_code, 1, some .boolean)
abbrev M_Tx_noNameAt : MethodName × ByteArray × Nat × Option FieldType := (⟨"NetDesk$Texts", "noNameAt", "(Ljava/lang/String;)I"⟩, prog_11_method_3_code, 4, some .int)
abbrev M_Pt_init : MethodName × ByteArray × Nat × Option FieldType := (⟨"NetDesk$Path", "<init>", "()V"⟩, prog_9_method_1_code, 1, none)
abbrev M_Tx_begins : MethodName × ByteArray × Nat × Option FieldType := (⟨"NetDesk$Texts", "begins", "(Ljava/lang/String;Ljava/lang/String;)Z"⟩, prog_11_method_8_code, 2, some .boolean)
abbrev M_St_equals : MethodName × ByteArray × Nat × Option FieldType := (⟨"java/lang/String", "equals", "(Ljava/lang/Object;)Z"⟩, prog_20_method_66_code, 3, some .boolean)
abbrev M_L1_equals : MethodName × ByteArray × Nat × Option FieldType := (⟨"java/lang/StringLatin1", "equals", "([B[B)Z"⟩, prog_22_method_13_code, 3, some .boolean)
abbrev M_Pt_startBeside : MethodName × ByteArray × Nat × Option FieldType := (⟨"NetDesk$Path", "startBeside", "(LNetDesk$Address;)V"⟩, prog_9_method_2_code, 2, none)
abbrev M_Sb_append_1 : MethodName × ByteArray × Nat × Option FieldType := (⟨"java/lang/StringBuilder", "append", "(Ljava/lang/String;)Ljava/lang/StringBuilder;"⟩, prog_21_method_7_code, 2, some (.object "java/lang/StringBuilder"))
abbrev M_Ab_append_1 : MethodName × ByteArray × Nat × Option FieldType := (⟨"java/lang/AbstractStringBuilder", "append", "(Ljava/lang/String;)Ljava/lang/AbstractStringBuilder;"⟩, prog_15_method_22_code, 3, some (.object "java/lang/AbstractStringBuilder"))
abbrev M_Ab_appendNull : MethodName × ByteArray × Nat × Option FieldType := (⟨"java/lang/AbstractStringBuilder", "appendNull", "()Ljava/lang/AbstractStringBuilder;"⟩, prog_15_method_26_code, 3, some (.object "java/lang/AbstractStringBuilder"))
abbrev M_U16_putCharsAt : MethodName × ByteArray × Nat × Option FieldType := (⟨"java/lang/StringUTF16", "putCharsAt", "([BICCCC)I"⟩, prog_23_method_81_code, 7, some .int)
abbrev M_Ab_putStringAt : MethodName × ByteArray × Nat × Option FieldType := (⟨"java/lang/AbstractStringBuilder", "putStringAt", "(ILjava/lang/String;)V"⟩, prog_15_method_73_code, 3, none)
abbrev M_Ab_inflateIfNeededFor : MethodName × ByteArray × Nat × Option FieldType := (⟨"java/lang/AbstractStringBuilder", "inflateIfNeededFor", "(Ljava/lang/String;)V"⟩, prog_15_method_71_code, 2, none)
abbrev M_St_getBytes : MethodName × ByteArray × Nat × Option FieldType := (⟨"java/lang/String", "getBytes", "([BIB)V"⟩, prog_20_method_147_code, 4, none)
abbrev M_Ad_segments : MethodName × ByteArray × Nat × Option FieldType := (⟨"NetDesk$Address", "segments", "()I"⟩, prog_2_method_4_code, 3, some .int)
abbrev M_Pt_pop : MethodName × ByteArray × Nat × Option FieldType := (⟨"NetDesk$Path", "pop", "()V"⟩, prog_9_method_6_code, 2, none)
abbrev M_Pt_take : MethodName × ByteArray × Nat × Option FieldType := (⟨"NetDesk$Path", "take", "(Ljava/lang/String;)Z"⟩, prog_9_method_3_code, 5, some .boolean)
abbrev M_Pt_takeOne : MethodName × ByteArray × Nat × Option FieldType := (⟨"NetDesk$Path", "takeOne", "(Ljava/lang/String;Z)Z"⟩, prog_9_method_4_code, 4, some .boolean)
abbrev M_Pt_push : MethodName × ByteArray × Nat × Option FieldType := (⟨"NetDesk$Path", "push", "(Ljava/lang/String;)V"⟩, prog_9_method_5_code, 2, none)
abbrev M_N_writeAddress : MethodName × ByteArray × Nat × Option FieldType := (⟨"NetDesk", "writeAddress", "(LNetDesk$Address;Ljava/lang/String;)I"⟩, prog_1_method_16_code, 3, some .int)
abbrev M_Ad_appendTo : MethodName × ByteArray × Nat × Option FieldType := (⟨"NetDesk$Address", "appendTo", "(Ljava/lang/StringBuilder;)V"⟩, prog_2_method_5_code, 2, none)
abbrev M_N_base : MethodName × ByteArray × Nat × Option FieldType := (⟨"NetDesk", "base", "()I"⟩, prog_1_method_6_code, 4, some .int)
abbrev M_N_server : MethodName × ByteArray × Nat × Option FieldType := (⟨"NetDesk", "server", "()I"⟩, prog_1_method_7_code, 7, some .int)
abbrev M_Sv_init : MethodName × ByteArray × Nat × Option FieldType := (⟨"NetDesk$ServerText", "<init>", "(Ljava/lang/String;LNetDesk$Address;)V"⟩, prog_10_method_1_code, 3, none)
abbrev M_Sv_firstWrong : MethodName × ByteArray × Nat × Option FieldType := (⟨"NetDesk$ServerText", "firstWrong", "()I"⟩, prog_10_method_2_code, 7, some .int)
abbrev M_Sv_takeAddress : MethodName × ByteArray × Nat × Option FieldType := (⟨"NetDesk$ServerText", "takeAddress", "(Ljava/lang/String;)Z"⟩, prog_10_method_3_code, 3, some .boolean)
abbrev M_Fl_take : MethodName × ByteArray × Nat × Option FieldType := (⟨"NetDesk$Fields", "take", "(Ljava/lang/String;LNetDesk$Address;)Z"⟩, prog_5_method_2_code, 4, some .boolean)
abbrev M_Fl_takeAge : MethodName × ByteArray × Nat × Option FieldType := (⟨"NetDesk$Fields", "takeAge", "(Ljava/lang/String;)Z"⟩, prog_5_method_3_code, 2, some .boolean)
abbrev M_Tx_isNumber : MethodName × ByteArray × Nat × Option FieldType := (⟨"NetDesk$Texts", "isNumber", "(Ljava/lang/String;)Z"⟩, prog_11_method_5_code, 2, some .boolean)
abbrev M_Tx_number : MethodName × ByteArray × Nat × Option FieldType := (⟨"NetDesk$Texts", "number", "(Ljava/lang/String;)I"⟩, prog_11_method_6_code, 3, some .int)
abbrev M_Fl_takeCookie : MethodName × ByteArray × Nat × Option FieldType := (⟨"NetDesk$Fields", "takeCookie", "(Ljava/lang/String;)Z"⟩, prog_5_method_4_code, 5, some .boolean)
abbrev M_N_placeOfAnswer : MethodName × ByteArray × Nat × Option FieldType := (⟨"NetDesk", "placeOfAnswer", "(LNetDesk$Address;)I"⟩, prog_1_method_17_code, 3, some .int)
abbrev M_Al_size : MethodName × ByteArray × Nat × Option FieldType := (⟨"java/util/ArrayList", "size", "()I"⟩, prog_27_method_8_code, 1, some .int)
abbrev M_Al_get : MethodName × ByteArray × Nat × Option FieldType := (⟨"java/util/ArrayList", "get", "(I)Ljava/lang/Object;"⟩, prog_27_method_20_code, 2, some (.object "java/lang/Object"))
abbrev M_Ob_checkIndex : MethodName × ByteArray × Nat × Option FieldType := (⟨"java/util/Objects", "checkIndex", "(II)I"⟩, prog_31_method_17_code, 2, some .int)
abbrev M_Al_elementData : MethodName × ByteArray × Nat × Option FieldType := (⟨"java/util/ArrayList", "elementData", "(I)Ljava/lang/Object;"⟩, prog_27_method_18_code, 2, some (.object "java/lang/Object"))
abbrev M_Ad_isSamePlace : MethodName × ByteArray × Nat × Option FieldType := (⟨"NetDesk$Address", "isSamePlace", "(LNetDesk$Address;)Z"⟩, prog_2_method_3_code, 2, some .boolean)
abbrev M_Al_set : MethodName × ByteArray × Nat × Option FieldType := (⟨"java/util/ArrayList", "set", "(ILjava/lang/Object;)Ljava/lang/Object;"⟩, prog_27_method_23_code, 4, some (.object "java/lang/Object"))
abbrev M_Al_add_0 : MethodName × ByteArray × Nat × Option FieldType := (⟨"java/util/ArrayList", "add", "(Ljava/lang/Object;)Z"⟩, prog_27_method_25_code, 2, some .boolean)
abbrev M_Al_add_1 : MethodName × ByteArray × Nat × Option FieldType := (⟨"java/util/ArrayList", "add", "(Ljava/lang/Object;[Ljava/lang/Object;I)V"⟩, prog_27_method_24_code, 4, none)
abbrev M_Al_grow_0 : MethodName × ByteArray × Nat × Option FieldType := (⟨"java/util/ArrayList", "grow", "()[Ljava/lang/Object;"⟩, prog_27_method_7_code, 1, some (.array (.object "java/lang/Object")))
abbrev M_Al_grow_1 : MethodName × ByteArray × Nat × Option FieldType := (⟨"java/util/ArrayList", "grow", "(I)[Ljava/lang/Object;"⟩, prog_27_method_6_code, 4, some (.array (.object "java/lang/Object")))
abbrev M_Ar_copyOf_1 : MethodName × ByteArray × Nat × Option FieldType := (⟨"java/util/Arrays", "copyOf", "([Ljava/lang/Object;I)[Ljava/lang/Object;"⟩, prog_28_method_119_code, 2, some (.array (.object "java/lang/Object")))
abbrev M_Ar_copyOf_2 : MethodName × ByteArray × Nat × Option FieldType := (⟨"java/util/Arrays", "copyOf", "([Ljava/lang/Object;ILjava/lang/Class;)[Ljava/lang/Object;"⟩, prog_28_method_120_code, 4, some (.array (.object "java/lang/Object")))
abbrev M_N_fetch : MethodName × ByteArray × Nat × Option FieldType := (⟨"NetDesk", "fetch", "()I"⟩, prog_1_method_8_code, 4, some .int)
abbrev M_N_follow : MethodName × ByteArray × Nat × Option FieldType := (⟨"NetDesk", "follow", "(LNetDesk$Address;)V"⟩, prog_1_method_18_code, 5, none)
abbrev M_N_answerFrom : MethodName × ByteArray × Nat × Option FieldType := (⟨"NetDesk", "answerFrom", "(LNetDesk$Address;)LNetDesk$Answer;"⟩, prog_1_method_19_code, 3, some (.object "NetDesk$Answer"))
abbrev M_Kp_fresh : MethodName × ByteArray × Nat × Option FieldType := (⟨"NetDesk$Keep", "fresh", "(LNetDesk$Address;I)LNetDesk$Answer;"⟩, prog_7_method_3_code, 4, some (.object "NetDesk$Answer"))
abbrev M_Kp_placeOf : MethodName × ByteArray × Nat × Option FieldType := (⟨"NetDesk$Keep", "placeOf", "(LNetDesk$Address;)I"⟩, prog_7_method_5_code, 3, some .int)
abbrev M_N_request : MethodName × ByteArray × Nat × Option FieldType := (⟨"NetDesk", "request", "(LNetDesk$Address;)LNetDesk$Answer;"⟩, prog_1_method_20_code, 4, some (.object "NetDesk$Answer"))
abbrev M_Jr_tell : MethodName × ByteArray × Nat × Option FieldType := (⟨"NetDesk$Jar", "tell", "(Ljava/lang/String;Ljava/lang/StringBuilder;)V"⟩, prog_6_method_4_code, 5, none)
abbrev M_Ck_init : MethodName × ByteArray × Nat × Option FieldType := (⟨"NetDesk$Cookie", "<init>", "(Ljava/lang/String;Ljava/lang/String;Ljava/lang/String;)V"⟩, prog_4_method_1_code, 4, none)
abbrev M_Jr_put : MethodName × ByteArray × Nat × Option FieldType := (⟨"NetDesk$Jar", "put", "(LNetDesk$Cookie;)V"⟩, prog_6_method_3_code, 4, none)
abbrev M_Kt_init : MethodName × ByteArray × Nat × Option FieldType := (⟨"NetDesk$Kept", "<init>", "(LNetDesk$Answer;I)V"⟩, prog_8_method_1_code, 3, none)
abbrev M_Kp_put : MethodName × ByteArray × Nat × Option FieldType := (⟨"NetDesk$Keep", "put", "(LNetDesk$Kept;)V"⟩, prog_7_method_4_code, 3, none)
abbrev M_Al_remove : MethodName × ByteArray × Nat × Option FieldType := (⟨"java/util/ArrayList", "remove", "(I)Ljava/lang/Object;"⟩, prog_27_method_29_code, 4, some (.object "java/lang/Object"))
abbrev M_Al_fastRemove : MethodName × ByteArray × Nat × Option FieldType := (⟨"java/util/ArrayList", "fastRemove", "([Ljava/lang/Object;I)V"⟩, prog_27_method_39_code, 4, none)
abbrev M_N_body : MethodName × ByteArray × Nat × Option FieldType := (⟨"NetDesk", "body", "(I)I"⟩, prog_1_method_9_code, 2, some .int)
abbrev M_N_tick : MethodName × ByteArray × Nat × Option FieldType := (⟨"NetDesk", "tick", "(I)I"⟩, prog_1_method_10_code, 2, some .int)
abbrev M_N_forget : MethodName × ByteArray × Nat × Option FieldType := (⟨"NetDesk", "forget", "()I"⟩, prog_1_method_11_code, 4, some .int)
abbrev M_Jr_dropLast : MethodName × ByteArray × Nat × Option FieldType := (⟨"NetDesk$Jar", "dropLast", "(Ljava/lang/String;)I"⟩, prog_6_method_5_code, 5, some .int)
abbrev M_N_write : MethodName × ByteArray × Nat × Option FieldType := (⟨"NetDesk", "write", "(I)I"⟩, prog_1_method_12_code, 2, some .int)
abbrev M_N_count : MethodName × ByteArray × Nat × Option FieldType := (⟨"NetDesk", "count", "(I)I"⟩, prog_1_method_13_code, 2, some .int)
abbrev M_Jr_size : MethodName × ByteArray × Nat × Option FieldType := (⟨"NetDesk$Jar", "size", "()I"⟩, prog_6_method_2_code, 1, some .int)
abbrev M_Kp_size : MethodName × ByteArray × Nat × Option FieldType := (⟨"NetDesk$Keep", "size", "()I"⟩, prog_7_method_2_code, 1, some .int)
abbrev M_Mo_server : MethodName × ByteArray × Nat × Option FieldType := (⟨"NetDeskModel", "server", "()I"⟩, prog_13_method_29_code, 5, some .int)
abbrev M_Mo_take : MethodName × ByteArray × Nat × Option FieldType := (⟨"NetDeskModel", "take", "()I"⟩, prog_13_method_3_code, 3, some .int)
abbrev M_Mo_wrong : MethodName × ByteArray × Nat × Option FieldType := (⟨"NetDeskModel", "wrong", "(I)I"⟩, prog_13_method_4_code, 1, some .int)
abbrev M_Mo_tokenEnd : MethodName × ByteArray × Nat × Option FieldType := (⟨"NetDeskModel", "tokenEnd", "(I)I"⟩, prog_13_method_27_code, 3, some .int)
abbrev M_Mo_isBlank : MethodName × ByteArray × Nat × Option FieldType := (⟨"NetDeskModel", "isBlank", "(I)Z"⟩, prog_13_method_7_code, 1, some .boolean)
abbrev M_Mo_refer : MethodName × ByteArray × Nat × Option FieldType := (⟨"NetDeskModel", "refer", "([BIII)Z"⟩, prog_13_method_24_code, 8, some .boolean)
abbrev M_Mo_nameEnd : MethodName × ByteArray × Nat × Option FieldType := (⟨"NetDeskModel", "nameEnd", "([BII)I"⟩, prog_13_method_8_code, 4, some .int)
abbrev M_Mo_isSmall : MethodName × ByteArray × Nat × Option FieldType := (⟨"NetDeskModel", "isSmall", "(I)Z"⟩, prog_13_method_5_code, 1, some .boolean)
abbrev M_Mo_isDigit : MethodName × ByteArray × Nat × Option FieldType := (⟨"NetDeskModel", "isDigit", "(I)Z"⟩, prog_13_method_6_code, 1, some .boolean)
abbrev M_Mo_put : MethodName × ByteArray × Nat × Option FieldType := (⟨"NetDeskModel", "put", "(II)V"⟩, prog_13_method_17_code, 3, none)
abbrev M_Mo_segments : MethodName × ByteArray × Nat × Option FieldType := (⟨"NetDeskModel", "segments", "([BI)Z"⟩, prog_13_method_21_code, 3, some .boolean)
abbrev M_Mo_oneSegment : MethodName × ByteArray × Nat × Option FieldType := (⟨"NetDeskModel", "oneSegment", "([BI)Z"⟩, prog_13_method_22_code, 4, some .boolean)
abbrev M_Mo_isSegment : MethodName × ByteArray × Nat × Option FieldType := (⟨"NetDeskModel", "isSegment", "(I)Z"⟩, prog_13_method_18_code, 1, some .boolean)
abbrev M_Mo_segment : MethodName × ByteArray × Nat × Option FieldType := (⟨"NetDeskModel", "segment", "([BII)V"⟩, prog_13_method_20_code, 5, none)
abbrev M_Mo_siteEnd : MethodName × ByteArray × Nat × Option FieldType := (⟨"NetDeskModel", "siteEnd", "(I)I"⟩, prog_13_method_14_code, 3, some .int)
abbrev M_Mo_baseSegments : MethodName × ByteArray × Nat × Option FieldType := (⟨"NetDeskModel", "baseSegments", "(IZ)V"⟩, prog_13_method_23_code, 6, none)
abbrev M_Mo_queryAt : MethodName × ByteArray × Nat × Option FieldType := (⟨"NetDeskModel", "queryAt", "(I)I"⟩, prog_13_method_16_code, 3, some .int)
abbrev M_Mo_query : MethodName × ByteArray × Nat × Option FieldType := (⟨"NetDeskModel", "query", "([BIIZ)Z"⟩, prog_13_method_25_code, 7, some .boolean)
abbrev M_Mo_isQuery : MethodName × ByteArray × Nat × Option FieldType := (⟨"NetDeskModel", "isQuery", "(I)Z"⟩, prog_13_method_19_code, 1, some .boolean)
abbrev M_Mo_copyRow : MethodName × ByteArray × Nat × Option FieldType := (⟨"NetDeskModel", "copyRow", "(II)V"⟩, prog_13_method_12_code, 4, none)
abbrev M_Mo_field : MethodName × ByteArray × Nat × Option FieldType := (⟨"NetDeskModel", "field", "(II)Z"⟩, prog_13_method_28_code, 8, some .boolean)
abbrev M_Mo_isWord : MethodName × ByteArray × Nat × Option FieldType := (⟨"NetDeskModel", "isWord", "([BIIJ)Z"⟩, prog_13_method_10_code, 8, some .boolean)
abbrev M_Mo_alike : MethodName × ByteArray × Nat × Option FieldType := (⟨"NetDeskModel", "alike", "(II)Z"⟩, prog_13_method_13_code, 3, some .boolean)
abbrev M_Mo_same : MethodName × ByteArray × Nat × Option FieldType := (⟨"NetDeskModel", "same", "([BI[BII)Z"⟩, prog_13_method_9_code, 6, some .boolean)
abbrev M_Mo_init : MethodName × ByteArray × Nat × Option FieldType := (⟨"NetDeskModel", "<init>", "()V"⟩, prog_13_method_36_code, 1, none)
abbrev M_Mo_feed : MethodName × ByteArray × Nat × Option FieldType := (⟨"NetDeskModel", "feed", "(IIIII)I"⟩, prog_13_method_38_code, 6, some .int)
abbrev M_Mo_putFour : MethodName × ByteArray × Nat × Option FieldType := (⟨"NetDeskModel", "putFour", "(I)V"⟩, prog_13_method_37_code, 3, none)
abbrev M_Mo_end : MethodName × ByteArray × Nat × Option FieldType := (⟨"NetDeskModel", "end", "(I)I"⟩, prog_13_method_39_code, 2, some .int)
abbrev M_Mo_out : MethodName × ByteArray × Nat × Option FieldType := (⟨"NetDeskModel", "out", "(I)I"⟩, prog_13_method_40_code, 2, some .int)
abbrev M_Mo_resolve : MethodName × ByteArray × Nat × Option FieldType := (⟨"NetDeskModel", "resolve", "()I"⟩, prog_13_method_41_code, 2, some .int)
abbrev M_Mo_sayRow : MethodName × ByteArray × Nat × Option FieldType := (⟨"NetDeskModel", "sayRow", "(I)V"⟩, prog_13_method_26_code, 2, none)
abbrev M_Mo_sayAll : MethodName × ByteArray × Nat × Option FieldType := (⟨"NetDeskModel", "sayAll", "([BII)V"⟩, prog_13_method_2_code, 5, none)
abbrev M_Mo_say : MethodName × ByteArray × Nat × Option FieldType := (⟨"NetDeskModel", "say", "(I)V"⟩, prog_13_method_1_code, 2, none)
abbrev M_Mo_base : MethodName × ByteArray × Nat × Option FieldType := (⟨"NetDeskModel", "base", "()I"⟩, prog_13_method_42_code, 2, some .int)
abbrev M_Mo_fetch : MethodName × ByteArray × Nat × Option FieldType := (⟨"NetDeskModel", "fetch", "()I"⟩, prog_13_method_43_code, 3, some .int)
abbrev M_Mo_fetchIt : MethodName × ByteArray × Nat × Option FieldType := (⟨"NetDeskModel", "fetchIt", "()V"⟩, prog_13_method_34_code, 4, none)
abbrev M_Mo_ask : MethodName × ByteArray × Nat × Option FieldType := (⟨"NetDeskModel", "ask", "()V"⟩, prog_13_method_35_code, 2, none)
abbrev M_Mo_tellCookies : MethodName × ByteArray × Nat × Option FieldType := (⟨"NetDeskModel", "tellCookies", "()V"⟩, prog_13_method_32_code, 4, none)
abbrev M_Mo_send : MethodName × ByteArray × Nat × Option FieldType := (⟨"NetDeskModel", "send", "(I)V"⟩, prog_13_method_31_code, 2, none)
abbrev M_Mo_dropCookie : MethodName × ByteArray × Nat × Option FieldType := (⟨"NetDeskModel", "dropCookie", "(I)V"⟩, prog_13_method_30_code, 5, none)
abbrev M_Mo_keep : MethodName × ByteArray × Nat × Option FieldType := (⟨"NetDeskModel", "keep", "(I)V"⟩, prog_13_method_33_code, 5, none)
abbrev M_Mo_body : MethodName × ByteArray × Nat × Option FieldType := (⟨"NetDeskModel", "body", "(I)I"⟩, prog_13_method_44_code, 2, some .int)
abbrev M_Mo_tick : MethodName × ByteArray × Nat × Option FieldType := (⟨"NetDeskModel", "tick", "(I)I"⟩, prog_13_method_45_code, 2, some .int)
abbrev M_Mo_forget : MethodName × ByteArray × Nat × Option FieldType := (⟨"NetDeskModel", "forget", "()I"⟩, prog_13_method_46_code, 7, some .int)
abbrev M_Mo_write : MethodName × ByteArray × Nat × Option FieldType := (⟨"NetDeskModel", "write", "(I)I"⟩, prog_13_method_47_code, 2, some .int)
abbrev M_Mo_count : MethodName × ByteArray × Nat × Option FieldType := (⟨"NetDeskModel", "count", "(I)I"⟩, prog_13_method_48_code, 2, some .int)
end
section
theorem zkb_10 : (Int8.ofInt 10).toInt32 = 10 := by decide +kernel
theorem zkb_101 : (Int8.ofInt 101).toInt32 = 101 := by decide +kernel
theorem zkb_104 : (Int8.ofInt 104).toInt32 = 104 := by decide +kernel
theorem zkb_108 : (Int8.ofInt 108).toInt32 = 108 := by decide +kernel
theorem zkb_109 : (Int8.ofInt 109).toInt32 = 109 := by decide +kernel
theorem zkb_110 : (Int8.ofInt 110).toInt32 = 110 := by decide +kernel
theorem zkb_111 : (Int8.ofInt 111).toInt32 = 111 := by decide +kernel
theorem zkb_117 : (Int8.ofInt 117).toInt32 = 117 := by decide +kernel
theorem zkb_12 : (Int8.ofInt 12).toInt32 = 12 := by decide +kernel
theorem zkb_122 : (Int8.ofInt 122).toInt32 = 122 := by decide +kernel
theorem zkb_126 : (Int8.ofInt 126).toInt32 = 126 := by decide +kernel
theorem zkb_16 : (Int8.ofInt 16).toInt32 = 16 := by decide +kernel
theorem zkb_18 : (Int8.ofInt 18).toInt32 = 18 := by decide +kernel
theorem zkb_20 : (Int8.ofInt 20).toInt32 = 20 := by decide +kernel
theorem zkb_24 : (Int8.ofInt 24).toInt32 = 24 := by decide +kernel
theorem zkb_26 : (Int8.ofInt 26).toInt32 = 26 := by decide +kernel
theorem zkb_32 : (Int8.ofInt 32).toInt32 = 32 := by decide +kernel
theorem zkb_35 : (Int8.ofInt 35).toInt32 = 35 := by decide +kernel
theorem zkb_38 : (Int8.ofInt 38).toInt32 = 38 := by decide +kernel
theorem zkb_40 : (Int8.ofInt 40).toInt32 = 40 := by decide +kernel
theorem zkb_41 : (Int8.ofInt 41).toInt32 = 41 := by decide +kernel
theorem zkb_43 : (Int8.ofInt 43).toInt32 = 43 := by decide +kernel
theorem zkb_45 : (Int8.ofInt 45).toInt32 = 45 := by decide +kernel
theorem zkb_46 : (Int8.ofInt 46).toInt32 = 46 := by decide +kernel
theorem zkb_47 : (Int8.ofInt 47).toInt32 = 47 := by decide +kernel
theorem zkb_48 : (Int8.ofInt 48).toInt32 = 48 := by decide +kernel
theorem zkb_57 : (Int8.ofInt 57).toInt32 = 57 := by decide +kernel
theorem zkb_58 : (Int8.ofInt 58).toInt32 = 58 := by decide +kernel
theorem zkb_59 : (Int8.ofInt 59).toInt32 = 59 := by decide +kernel
theorem zkb_6 : (Int8.ofInt 6).toInt32 = 6 := by decide +kernel
theorem zkb_61 : (Int8.ofInt 61).toInt32 = 61 := by decide +kernel
theorem zkb_63 : (Int8.ofInt 63).toInt32 = 63 := by decide +kernel
theorem zkb_66 : (Int8.ofInt 66).toInt32 = 66 := by decide +kernel
theorem zkb_7 : (Int8.ofInt 7).toInt32 = 7 := by decide +kernel
theorem zkb_8 : (Int8.ofInt 8).toInt32 = 8 := by decide +kernel
theorem zkb_95 : (Int8.ofInt 95).toInt32 = 95 := by decide +kernel
theorem zkb_96 : (Int8.ofInt 96).toInt32 = 96 := by decide +kernel
theorem zkb_97 : (Int8.ofInt 97).toInt32 = 97 := by decide +kernel
theorem zki_0 : Int32.ofInt 0 = 0 := by decide +kernel
theorem zki_1 : Int32.ofInt 1 = 1 := by decide +kernel
theorem zki_2 : Int32.ofInt 2 = 2 := by decide +kernel
theorem zki_3 : Int32.ofInt 3 = 3 := by decide +kernel
theorem zki_4 : Int32.ofInt 4 = 4 := by decide +kernel
theorem zki_5 : Int32.ofInt 5 = 5 := by decide +kernel
theorem zki_m1 : Int32.ofInt (-1) = (-1) := by decide +kernel
theorem zki_m8 : Int32.ofInt (-8) = (-8) := by decide +kernel
theorem zks_1000 : (Int16.ofInt 1000).toInt32 = 1000 := by decide +kernel
theorem zks_135 : (Int16.ofInt 135).toInt32 = 135 := by decide +kernel
theorem zks_150 : (Int16.ofInt 150).toInt32 = 150 := by decide +kernel
theorem zks_1500 : (Int16.ofInt 1500).toInt32 = 1500 := by decide +kernel
theorem zks_192 : (Int16.ofInt 192).toInt32 = 192 := by decide +kernel
theorem zks_1980 : (Int16.ofInt 1980).toInt32 = 1980 := by decide +kernel
theorem zks_2000 : (Int16.ofInt 2000).toInt32 = 2000 := by decide +kernel
theorem zks_2100 : (Int16.ofInt 2100).toInt32 = 2100 := by decide +kernel
theorem zks_2200 : (Int16.ofInt 2200).toInt32 = 2200 := by decide +kernel
theorem zks_255 : (Int16.ofInt 255).toInt32 = 255 := by decide +kernel
theorem zks_30000 : (Int16.ofInt 30000).toInt32 = 30000 := by decide +kernel
theorem zks_400 : (Int16.ofInt 400).toInt32 = 400 := by decide +kernel
theorem zks_4035 : (Int16.ofInt 4035).toInt32 = 4035 := by decide +kernel
theorem zks_480 : (Int16.ofInt 480).toInt32 = 480 := by decide +kernel
theorem zks_585 : (Int16.ofInt 585).toInt32 = 585 := by decide +kernel
theorem zks_602 : (Int16.ofInt 602).toInt32 = 602 := by decide +kernel
theorem zks_750 : (Int16.ofInt 750).toInt32 = 750 := by decide +kernel
theorem zks_751 : (Int16.ofInt 751).toInt32 = 751 := by decide +kernel
theorem zks_752 : (Int16.ofInt 752).toInt32 = 752 := by decide +kernel
theorem zks_753 : (Int16.ofInt 753).toInt32 = 753 := by decide +kernel
theorem zks_754 : (Int16.ofInt 754).toInt32 = 754 := by decide +kernel
theorem zks_755 : (Int16.ofInt 755).toInt32 = 755 := by decide +kernel
theorem zks_756 : (Int16.ofInt 756).toInt32 = 756 := by decide +kernel
theorem zks_8000 : (Int16.ofInt 8000).toInt32 = 8000 := by decide +kernel
theorem zks_9900 : (Int16.ofInt 9900).toInt32 = 9900 := by decide +kernel
theorem zks_m1000 : (Int16.ofInt (-1000)).toInt32 = (-1000) := by decide +kernel
theorem zc_N_init : zCl M_N_init 0 := ⟨zt1 32 rfl, zt1 1 rfl, ⟨by decide +kernel, by decide +kernel⟩, by decide +kernel, Nat.le_of_ble_eq_true rfl⟩
theorem zc_Sb_init : zCl M_Sb_init 0 := ⟨zt1 40 rfl, zt1 3 rfl, ⟨by decide +kernel, by decide +kernel⟩, by decide +kernel, Nat.le_of_ble_eq_true rfl⟩
theorem zc_Ab_init : zCl M_Ab_init 1 := ⟨zt1 43 rfl, zt1 2 rfl, ⟨by decide +kernel, by decide +kernel⟩, by decide +kernel, Nat.le_of_ble_eq_true rfl⟩
theorem zc_U16_newBytesFor : zCl M_U16_newBytesFor 1 := ⟨zt1 49 rfl, zt1 5 rfl, ⟨by decide +kernel, by decide +kernel⟩, by decide +kernel, Nat.le_of_ble_eq_true rfl⟩
theorem zc_U16_newBytesLength : zCl M_U16_newBytesLength 1 := ⟨zt1 52 rfl, zt1 5 rfl, ⟨by decide +kernel, by decide +kernel⟩, by decide +kernel, Nat.le_of_ble_eq_true rfl⟩
theorem zc_Ad_init : zCl M_Ad_init 4 := ⟨zt1 76 rfl, zt1 6 rfl, ⟨by decide +kernel, by decide +kernel⟩, by decide +kernel, Nat.le_of_ble_eq_true rfl⟩
theorem zc_Fl_init : zCl M_Fl_init 0 := ⟨zt1 101 rfl, zt1 8 rfl, ⟨by decide +kernel, by decide +kernel⟩, by decide +kernel, Nat.le_of_ble_eq_true rfl⟩
theorem zc_An_init : zCl M_An_init 3 := ⟨zt1 130 rfl, zt1 7 rfl, ⟨by decide +kernel, by decide +kernel⟩, by decide +kernel, Nat.le_of_ble_eq_true rfl⟩
theorem zc_Al_init : zCl M_Al_init 0 := ⟨zt1 166 rfl, zt1 11 rfl, ⟨by decide +kernel, by decide +kernel⟩, by decide +kernel, Nat.le_of_ble_eq_true rfl⟩
theorem zc_AL_init : zCl M_AL_init 0 := ⟨zt1 169 rfl, zt1 10 rfl, ⟨by decide +kernel, by decide +kernel⟩, by decide +kernel, Nat.le_of_ble_eq_true rfl⟩
theorem zc_AC_init : zCl M_AC_init 0 := ⟨zt1 172 rfl, zt1 9 rfl, ⟨by decide +kernel, by decide +kernel⟩, by decide +kernel, Nat.le_of_ble_eq_true rfl⟩
theorem zc_Jr_init : zCl M_Jr_init 0 := ⟨zt1 192 rfl, zt1 12 rfl, ⟨by decide +kernel, by decide +kernel⟩, by decide +kernel, Nat.le_of_ble_eq_true rfl⟩
theorem zc_Kp_init : zCl M_Kp_init 0 := ⟨zt1 204 rfl, zt1 13 rfl, ⟨by decide +kernel, by decide +kernel⟩, by decide +kernel, Nat.le_of_ble_eq_true rfl⟩
theorem zc_N_feed : zCl M_N_feed 5 := ⟨zt2 27 rfl, zt1 1 rfl, ⟨by decide +kernel, by decide +kernel⟩, by decide +kernel, Nat.le_of_ble_eq_true rfl⟩
theorem zc_Sb_length : zCl M_Sb_length 0 := ⟨zt2 31 rfl, zt1 3 rfl, ⟨by decide +kernel, by decide +kernel⟩, by decide +kernel, Nat.le_of_ble_eq_true rfl⟩
theorem zc_Ab_length : zCl M_Ab_length 0 := ⟨zt2 34 rfl, zt1 2 rfl, ⟨by decide +kernel, by decide +kernel⟩, by decide +kernel, Nat.le_of_ble_eq_true rfl⟩
theorem zc_N_addWord : zCl M_N_addWord 1 := ⟨zt2 38 rfl, zt1 1 rfl, ⟨by decide +kernel, by decide +kernel⟩, by decide +kernel, Nat.le_of_ble_eq_true rfl⟩
theorem zc_Sb_append_0 : zCl M_Sb_append_0 1 := ⟨zt2 42 rfl, zt1 3 rfl, ⟨by decide +kernel, by decide +kernel⟩, by decide +kernel, Nat.le_of_ble_eq_true rfl⟩
theorem zc_Ab_append_0 : zCl M_Ab_append_0 1 := ⟨zt2 45 rfl, zt1 2 rfl, ⟨by decide +kernel, by decide +kernel⟩, by decide +kernel, Nat.le_of_ble_eq_true rfl⟩
theorem zc_Ab_ensureCapacityInternal : zCl M_Ab_ensureCapacityInternal 1 := ⟨zt2 49 rfl, zt1 2 rfl, ⟨by decide +kernel, by decide +kernel⟩, by decide +kernel, Nat.le_of_ble_eq_true rfl⟩
theorem zc_Ab_newCapacity : zCl M_Ab_newCapacity 1 := ⟨zt2 53 rfl, zt1 2 rfl, ⟨by decide +kernel, by decide +kernel⟩, by decide +kernel, Nat.le_of_ble_eq_true rfl⟩
theorem zc_AS_newLength : zCl M_AS_newLength 3 := ⟨zt2 56 rfl, zt1 15 rfl, ⟨by decide +kernel, by decide +kernel⟩, by decide +kernel, Nat.le_of_ble_eq_true rfl⟩
theorem zc_Ma_max : zCl M_Ma_max 2 := ⟨zt2 59 rfl, zt1 16 rfl, ⟨by decide +kernel, by decide +kernel⟩, by decide +kernel, Nat.le_of_ble_eq_true rfl⟩
theorem zc_AS_hugeLength : zCl M_AS_hugeLength 2 := ⟨zt2 63 rfl, zt1 15 rfl, ⟨by decide +kernel, by decide +kernel⟩, by decide +kernel, Nat.le_of_ble_eq_true rfl⟩
theorem zc_Ar_copyOf_0 : zCl M_Ar_copyOf_0 2 := ⟨zt2 67 rfl, zt1 17 rfl, ⟨by decide +kernel, by decide +kernel⟩, by decide +kernel, Nat.le_of_ble_eq_true rfl⟩
theorem zc_Ma_min : zCl M_Ma_min 2 := ⟨zt2 77 rfl, zt1 16 rfl, ⟨by decide +kernel, by decide +kernel⟩, by decide +kernel, Nat.le_of_ble_eq_true rfl⟩
theorem zc_Ab_isLatin1 : zCl M_Ab_isLatin1 0 := ⟨zt2 85 rfl, zt1 2 rfl, ⟨by decide +kernel, by decide +kernel⟩, by decide +kernel, Nat.le_of_ble_eq_true rfl⟩
theorem zc_L1_canEncode_0 : zCl M_L1_canEncode_0 1 := ⟨zt2 88 rfl, zt1 19 rfl, ⟨by decide +kernel, by decide +kernel⟩, by decide +kernel, Nat.le_of_ble_eq_true rfl⟩
theorem zc_Ab_inflate : zCl M_Ab_inflate 0 := ⟨zt2 92 rfl, zt1 2 rfl, ⟨by decide +kernel, by decide +kernel⟩, by decide +kernel, Nat.le_of_ble_eq_true rfl⟩
theorem zc_L1_inflate : zCl M_L1_inflate 5 := ⟨zt2 95 rfl, zt1 19 rfl, ⟨by decide +kernel, by decide +kernel⟩, by decide +kernel, Nat.le_of_ble_eq_true rfl⟩
theorem zc_U16_inflate : zCl M_U16_inflate 5 := ⟨zt2 98 rfl, zt1 5 rfl, ⟨by decide +kernel, by decide +kernel⟩, by decide +kernel, Nat.le_of_ble_eq_true rfl⟩
theorem zc_U16_checkBoundsOffCount : zCl M_U16_checkBoundsOffCount 3 := ⟨zt2 101 rfl, zt1 5 rfl, ⟨by decide +kernel, by decide +kernel⟩, by decide +kernel, Nat.le_of_ble_eq_true rfl⟩
theorem zc_U16_length : zCl M_U16_length 1 := ⟨zt2 104 rfl, zt1 5 rfl, ⟨by decide +kernel, by decide +kernel⟩, by decide +kernel, Nat.le_of_ble_eq_true rfl⟩
theorem zc_St_checkBoundsOffCount : zCl M_St_checkBoundsOffCount 3 := ⟨zt2 107 rfl, zt1 4 rfl, ⟨by decide +kernel, by decide +kernel⟩, by decide +kernel, Nat.le_of_ble_eq_true rfl⟩
theorem zc_Pc_checkFromIndexSize : zCl M_Pc_checkFromIndexSize 4 := ⟨zt2 112 rfl, zt1 20 rfl, ⟨by decide +kernel, by decide +kernel⟩, by decide +kernel, Nat.le_of_ble_eq_true rfl⟩
theorem zc_U16_putChar : zCl M_U16_putChar 3 := ⟨zt2 115 rfl, zt1 5 rfl, ⟨by decide +kernel, by decide +kernel⟩, by decide +kernel, Nat.le_of_ble_eq_true rfl⟩
theorem zc_U16_putCharSB : zCl M_U16_putCharSB 3 := ⟨zt2 124 rfl, zt1 5 rfl, ⟨by decide +kernel, by decide +kernel⟩, by decide +kernel, Nat.le_of_ble_eq_true rfl⟩
theorem zc_U16_checkIndex : zCl M_U16_checkIndex 2 := ⟨zt2 127 rfl, zt1 5 rfl, ⟨by decide +kernel, by decide +kernel⟩, by decide +kernel, Nat.le_of_ble_eq_true rfl⟩
theorem zc_St_checkIndex : zCl M_St_checkIndex 2 := ⟨zt2 130 rfl, zt1 4 rfl, ⟨by decide +kernel, by decide +kernel⟩, by decide +kernel, Nat.le_of_ble_eq_true rfl⟩
theorem zc_Pc_checkIndex : zCl M_Pc_checkIndex 3 := ⟨zt2 133 rfl, zt1 20 rfl, ⟨by decide +kernel, by decide +kernel⟩, by decide +kernel, Nat.le_of_ble_eq_true rfl⟩
theorem zc_N_end : zCl M_N_end 1 := ⟨zt2 137 rfl, zt1 1 rfl, ⟨by decide +kernel, by decide +kernel⟩, by decide +kernel, Nat.le_of_ble_eq_true rfl⟩
theorem zc_Sb_setLength : zCl M_Sb_setLength 1 := ⟨zt2 141 rfl, zt1 3 rfl, ⟨by decide +kernel, by decide +kernel⟩, by decide +kernel, Nat.le_of_ble_eq_true rfl⟩
theorem zc_Ab_setLength : zCl M_Ab_setLength 1 := ⟨zt2 144 rfl, zt1 2 rfl, ⟨by decide +kernel, by decide +kernel⟩, by decide +kernel, Nat.le_of_ble_eq_true rfl⟩
theorem zc_L1_fillNull : zCl M_L1_fillNull 3 := ⟨zt2 147 rfl, zt1 19 rfl, ⟨by decide +kernel, by decide +kernel⟩, by decide +kernel, Nat.le_of_ble_eq_true rfl⟩
theorem zc_Ar_fill : zCl M_Ar_fill 4 := ⟨zt2 150 rfl, zt1 17 rfl, ⟨by decide +kernel, by decide +kernel⟩, by decide +kernel, Nat.le_of_ble_eq_true rfl⟩
theorem zc_Ar_rangeCheck : zCl M_Ar_rangeCheck 3 := ⟨zt2 153 rfl, zt1 17 rfl, ⟨by decide +kernel, by decide +kernel⟩, by decide +kernel, Nat.le_of_ble_eq_true rfl⟩
theorem zc_U16_fillNull : zCl M_U16_fillNull 3 := ⟨zt2 156 rfl, zt1 5 rfl, ⟨by decide +kernel, by decide +kernel⟩, by decide +kernel, Nat.le_of_ble_eq_true rfl⟩
theorem zc_N_out : zCl M_N_out 1 := ⟨zt2 161 rfl, zt1 1 rfl, ⟨by decide +kernel, by decide +kernel⟩, by decide +kernel, Nat.le_of_ble_eq_true rfl⟩
theorem zc_Sb_charAt : zCl M_Sb_charAt 1 := ⟨zt2 165 rfl, zt1 3 rfl, ⟨by decide +kernel, by decide +kernel⟩, by decide +kernel, Nat.le_of_ble_eq_true rfl⟩
theorem zc_Ab_charAt : zCl M_Ab_charAt 1 := ⟨zt2 168 rfl, zt1 2 rfl, ⟨by decide +kernel, by decide +kernel⟩, by decide +kernel, Nat.le_of_ble_eq_true rfl⟩
theorem zc_U16_getChar : zCl M_U16_getChar 2 := ⟨zt2 173 rfl, zt1 5 rfl, ⟨by decide +kernel, by decide +kernel⟩, by decide +kernel, Nat.le_of_ble_eq_true rfl⟩
theorem zc_N_resolve : zCl M_N_resolve 0 := ⟨zt2 177 rfl, zt1 1 rfl, ⟨by decide +kernel, by decide +kernel⟩, by decide +kernel, Nat.le_of_ble_eq_true rfl⟩
theorem zc_N_takeText : zCl M_N_takeText 0 := ⟨zt2 181 rfl, zt1 1 rfl, ⟨by decide +kernel, by decide +kernel⟩, by decide +kernel, Nat.le_of_ble_eq_true rfl⟩
theorem zc_Sb_toString : zCl M_Sb_toString 0 := ⟨zt2 185 rfl, zt1 3 rfl, ⟨by decide +kernel, by decide +kernel⟩, by decide +kernel, Nat.le_of_ble_eq_true rfl⟩
theorem zc_St_init_0 : zCl M_St_init_0 1 := ⟨zt2 190 rfl, zt1 4 rfl, ⟨by decide +kernel, by decide +kernel⟩, by decide +kernel, Nat.le_of_ble_eq_true rfl⟩
theorem zc_St_init_1 : zCl M_St_init_1 2 := ⟨zt2 193 rfl, zt1 4 rfl, ⟨by decide +kernel, by decide +kernel⟩, by decide +kernel, Nat.le_of_ble_eq_true rfl⟩
theorem zc_Ab_getValue : zCl M_Ab_getValue 0 := ⟨zt2 199 rfl, zt1 2 rfl, ⟨by decide +kernel, by decide +kernel⟩, by decide +kernel, Nat.le_of_ble_eq_true rfl⟩
theorem zc_Ar_copyOfRange : zCl M_Ar_copyOfRange 3 := ⟨zt2 204 rfl, zt1 17 rfl, ⟨by decide +kernel, by decide +kernel⟩, by decide +kernel, Nat.le_of_ble_eq_true rfl⟩
theorem zc_Ar_copyOfRangeByte : zCl M_Ar_copyOfRangeByte 3 := ⟨zt2 207 rfl, zt1 17 rfl, ⟨by decide +kernel, by decide +kernel⟩, by decide +kernel, Nat.le_of_ble_eq_true rfl⟩
theorem zc_Ar_checkLength : zCl M_Ar_checkLength 2 := ⟨zt2 210 rfl, zt1 17 rfl, ⟨by decide +kernel, by decide +kernel⟩, by decide +kernel, Nat.le_of_ble_eq_true rfl⟩
theorem zc_U16_compress_0 : zCl M_U16_compress_0 3 := ⟨zt2 214 rfl, zt1 5 rfl, ⟨by decide +kernel, by decide +kernel⟩, by decide +kernel, Nat.le_of_ble_eq_true rfl⟩
theorem zc_U16_compress_1 : zCl M_U16_compress_1 5 := ⟨zt2 217 rfl, zt1 5 rfl, ⟨by decide +kernel, by decide +kernel⟩, by decide +kernel, Nat.le_of_ble_eq_true rfl⟩
theorem zc_U16_coderFromArrayLen : zCl M_U16_coderFromArrayLen 2 := ⟨zt2 222 rfl, zt1 5 rfl, ⟨by decide +kernel, by decide +kernel⟩, by decide +kernel, Nat.le_of_ble_eq_true rfl⟩
theorem zc_Tx_badByte : zCl M_Tx_badByte 1 := ⟨zt2 236 rfl, zt1 21 rfl, ⟨by decide +kernel, by decide +kernel⟩, by decide +kernel, Nat.le_of_ble_eq_true rfl⟩
theorem zc_St_length : zCl M_St_length 0 := ⟨zt3 0 rfl, zt1 4 rfl, ⟨by decide +kernel, by decide +kernel⟩, by decide +kernel, Nat.le_of_ble_eq_true rfl⟩
theorem zc_St_coder : zCl M_St_coder 0 := ⟨zt3 4 rfl, zt1 4 rfl, ⟨by decide +kernel, by decide +kernel⟩, by decide +kernel, Nat.le_of_ble_eq_true rfl⟩
theorem zc_St_charAt : zCl M_St_charAt 1 := ⟨zt3 8 rfl, zt1 4 rfl, ⟨by decide +kernel, by decide +kernel⟩, by decide +kernel, Nat.le_of_ble_eq_true rfl⟩
theorem zc_St_isLatin1 : zCl M_St_isLatin1 0 := ⟨zt3 12 rfl, zt1 4 rfl, ⟨by decide +kernel, by decide +kernel⟩, by decide +kernel, Nat.le_of_ble_eq_true rfl⟩
theorem zc_L1_charAt : zCl M_L1_charAt 2 := ⟨zt3 15 rfl, zt1 19 rfl, ⟨by decide +kernel, by decide +kernel⟩, by decide +kernel, Nat.le_of_ble_eq_true rfl⟩
theorem zc_U16_charAt : zCl M_U16_charAt 2 := ⟨zt3 19 rfl, zt1 5 rfl, ⟨by decide +kernel, by decide +kernel⟩, by decide +kernel, Nat.le_of_ble_eq_true rfl⟩
theorem zc_Ad_read : zCl M_Ad_read 2 := ⟨zt3 22 rfl, zt1 6 rfl, ⟨by decide +kernel, by decide +kernel⟩, by decide +kernel, Nat.le_of_ble_eq_true rfl⟩
theorem zc_Ad_placeOrLength : zCl M_Ad_placeOrLength 2 := ⟨zt3 25 rfl, zt1 6 rfl, ⟨by decide +kernel, by decide +kernel⟩, by decide +kernel, Nat.le_of_ble_eq_true rfl⟩
theorem zc_St_indexOf_0 : zCl M_St_indexOf_0 1 := ⟨zt3 29 rfl, zt1 4 rfl, ⟨by decide +kernel, by decide +kernel⟩, by decide +kernel, Nat.le_of_ble_eq_true rfl⟩
theorem zc_St_indexOf_1 : zCl M_St_indexOf_1 2 := ⟨zt3 33 rfl, zt1 4 rfl, ⟨by decide +kernel, by decide +kernel⟩, by decide +kernel, Nat.le_of_ble_eq_true rfl⟩
theorem zc_L1_indexOf : zCl M_L1_indexOf 4 := ⟨zt3 37 rfl, zt1 19 rfl, ⟨by decide +kernel, by decide +kernel⟩, by decide +kernel, Nat.le_of_ble_eq_true rfl⟩
theorem zc_L1_canEncode_1 : zCl M_L1_canEncode_1 1 := ⟨zt3 40 rfl, zt1 19 rfl, ⟨by decide +kernel, by decide +kernel⟩, by decide +kernel, Nat.le_of_ble_eq_true rfl⟩
theorem zc_L1_indexOfChar : zCl M_L1_indexOfChar 4 := ⟨zt3 45 rfl, zt1 19 rfl, ⟨by decide +kernel, by decide +kernel⟩, by decide +kernel, Nat.le_of_ble_eq_true rfl⟩
theorem zc_U16_indexOf : zCl M_U16_indexOf 4 := ⟨zt3 48 rfl, zt1 5 rfl, ⟨by decide +kernel, by decide +kernel⟩, by decide +kernel, Nat.le_of_ble_eq_true rfl⟩
theorem zc_U16_indexOfChar : zCl M_U16_indexOfChar 4 := ⟨zt3 54 rfl, zt1 5 rfl, ⟨by decide +kernel, by decide +kernel⟩, by decide +kernel, Nat.le_of_ble_eq_true rfl⟩
theorem zc_U16_checkBoundsBeginEnd : zCl M_U16_checkBoundsBeginEnd 3 := ⟨zt3 57 rfl, zt1 5 rfl, ⟨by decide +kernel, by decide +kernel⟩, by decide +kernel, Nat.le_of_ble_eq_true rfl⟩
theorem zc_St_checkBoundsBeginEnd : zCl M_St_checkBoundsBeginEnd 3 := ⟨zt3 60 rfl, zt1 4 rfl, ⟨by decide +kernel, by decide +kernel⟩, by decide +kernel, Nat.le_of_ble_eq_true rfl⟩
theorem zc_Pc_checkFromToIndex : zCl M_Pc_checkFromToIndex 4 := ⟨zt3 63 rfl, zt1 20 rfl, ⟨by decide +kernel, by decide +kernel⟩, by decide +kernel, Nat.le_of_ble_eq_true rfl⟩
theorem zc_U16_indexOfCharUnsafe : zCl M_U16_indexOfCharUnsafe 4 := ⟨zt3 66 rfl, zt1 5 rfl, ⟨by decide +kernel, by decide +kernel⟩, by decide +kernel, Nat.le_of_ble_eq_true rfl⟩
theorem zc_U16_indexOfSupplementary : zCl M_U16_indexOfSupplementary 4 := ⟨zt3 69 rfl, zt1 5 rfl, ⟨by decide +kernel, by decide +kernel⟩, by decide +kernel, Nat.le_of_ble_eq_true rfl⟩
theorem zc_Ch_isValidCodePoint : zCl M_Ch_isValidCodePoint 1 := ⟨zt3 72 rfl, zt1 22 rfl, ⟨by decide +kernel, by decide +kernel⟩, by decide +kernel, Nat.le_of_ble_eq_true rfl⟩
theorem zc_Ch_highSurrogate : zCl M_Ch_highSurrogate 1 := ⟨zt3 75 rfl, zt1 22 rfl, ⟨by decide +kernel, by decide +kernel⟩, by decide +kernel, Nat.le_of_ble_eq_true rfl⟩
theorem zc_Ch_lowSurrogate : zCl M_Ch_lowSurrogate 1 := ⟨zt3 79 rfl, zt1 22 rfl, ⟨by decide +kernel, by decide +kernel⟩, by decide +kernel, Nat.le_of_ble_eq_true rfl⟩
theorem zc_St_substring_0 : zCl M_St_substring_0 2 := ⟨zt3 86 rfl, zt1 4 rfl, ⟨by decide +kernel, by decide +kernel⟩, by decide +kernel, Nat.le_of_ble_eq_true rfl⟩
theorem zc_L1_newString : zCl M_L1_newString 3 := ⟨zt3 90 rfl, zt1 19 rfl, ⟨by decide +kernel, by decide +kernel⟩, by decide +kernel, Nat.le_of_ble_eq_true rfl⟩
theorem zc_St_init_2 : zCl M_St_init_2 2 := ⟨zt3 96 rfl, zt1 4 rfl, ⟨by decide +kernel, by decide +kernel⟩, by decide +kernel, Nat.le_of_ble_eq_true rfl⟩
theorem zc_U16_newString : zCl M_U16_newString 3 := ⟨zt3 99 rfl, zt1 5 rfl, ⟨by decide +kernel, by decide +kernel⟩, by decide +kernel, Nat.le_of_ble_eq_true rfl⟩
theorem zc_St_substring_1 : zCl M_St_substring_1 1 := ⟨zt3 109 rfl, zt1 4 rfl, ⟨by decide +kernel, by decide +kernel⟩, by decide +kernel, Nat.le_of_ble_eq_true rfl⟩
theorem zc_Ad_isQuery : zCl M_Ad_isQuery 1 := ⟨zt3 113 rfl, zt1 6 rfl, ⟨by decide +kernel, by decide +kernel⟩, by decide +kernel, Nat.le_of_ble_eq_true rfl⟩
theorem zc_St_isEmpty : zCl M_St_isEmpty 0 := ⟨zt3 117 rfl, zt1 4 rfl, ⟨by decide +kernel, by decide +kernel⟩, by decide +kernel, Nat.le_of_ble_eq_true rfl⟩
theorem zc_Tx_hasOnly : zCl M_Tx_hasOnly 2 := ⟨zt3 121 rfl, zt1 21 rfl, ⟨by decide +kernel, by decide +kernel⟩, by decide +kernel, Nat.le_of_ble_eq_true rfl⟩
theorem zc_Tx_isSmallLetter : zCl M_Tx_isSmallLetter 1 := ⟨zt3 124 rfl, zt1 21 rfl, ⟨by decide +kernel, by decide +kernel⟩, by decide +kernel, Nat.le_of_ble_eq_true rfl⟩
theorem zc_Tx_isDigit : zCl M_Tx_isDigit 1 := ⟨zt3 127 rfl, zt1 21 rfl, ⟨by decide +kernel, by decide +kernel⟩, by decide +kernel, Nat.le_of_ble_eq_true rfl⟩
theorem zc_Tx_isName : zCl M_Tx_isName 1 := ⟨zt3 131 rfl, zt1 21 rfl, ⟨by decide +kernel, by decide +kernel⟩, by decide +kernel, Nat.le_of_ble_eq_true rfl⟩
theorem zc_Tx_noNameAt : zCl M_Tx_noNameAt 1 := ⟨zt3 134 rfl, zt1 21 rfl, ⟨by decide +kernel, by decide +kernel⟩, by decide +kernel, Nat.le_of_ble_eq_true rfl⟩
theorem zc_Pt_init : zCl M_Pt_init 0 := ⟨zt3 142 rfl, zt1 23 rfl, ⟨by decide +kernel, by decide +kernel⟩, by decide +kernel, Nat.le_of_ble_eq_true rfl⟩
theorem zc_Tx_begins : zCl M_Tx_begins 2 := ⟨zt3 157 rfl, zt1 21 rfl, ⟨by decide +kernel, by decide +kernel⟩, by decide +kernel, Nat.le_of_ble_eq_true rfl⟩
theorem zc_St_equals : zCl M_St_equals 1 := ⟨zt3 162 rfl, zt1 4 rfl, ⟨by decide +kernel, by decide +kernel⟩, by decide +kernel, Nat.le_of_ble_eq_true rfl⟩
theorem zc_L1_equals : zCl M_L1_equals 2 := ⟨zt3 166 rfl, zt1 19 rfl, ⟨by decide +kernel, by decide +kernel⟩, by decide +kernel, Nat.le_of_ble_eq_true rfl⟩
theorem zc_Pt_startBeside : zCl M_Pt_startBeside 1 := ⟨zt3 172 rfl, zt1 23 rfl, ⟨by decide +kernel, by decide +kernel⟩, by decide +kernel, Nat.le_of_ble_eq_true rfl⟩
theorem zc_Sb_append_1 : zCl M_Sb_append_1 1 := ⟨zt3 176 rfl, zt1 3 rfl, ⟨by decide +kernel, by decide +kernel⟩, by decide +kernel, Nat.le_of_ble_eq_true rfl⟩
theorem zc_Ab_append_1 : zCl M_Ab_append_1 1 := ⟨zt3 179 rfl, zt1 2 rfl, ⟨by decide +kernel, by decide +kernel⟩, by decide +kernel, Nat.le_of_ble_eq_true rfl⟩
theorem zc_Ab_appendNull : zCl M_Ab_appendNull 0 := ⟨zt3 183 rfl, zt1 2 rfl, ⟨by decide +kernel, by decide +kernel⟩, by decide +kernel, Nat.le_of_ble_eq_true rfl⟩
theorem zc_U16_putCharsAt : zCl M_U16_putCharsAt 6 := ⟨zt3 186 rfl, zt1 5 rfl, ⟨by decide +kernel, by decide +kernel⟩, by decide +kernel, Nat.le_of_ble_eq_true rfl⟩
theorem zc_Ab_putStringAt : zCl M_Ab_putStringAt 2 := ⟨zt3 191 rfl, zt1 2 rfl, ⟨by decide +kernel, by decide +kernel⟩, by decide +kernel, Nat.le_of_ble_eq_true rfl⟩
theorem zc_Ab_inflateIfNeededFor : zCl M_Ab_inflateIfNeededFor 1 := ⟨zt3 195 rfl, zt1 2 rfl, ⟨by decide +kernel, by decide +kernel⟩, by decide +kernel, Nat.le_of_ble_eq_true rfl⟩
theorem zc_St_getBytes : zCl M_St_getBytes 3 := ⟨zt3 200 rfl, zt1 4 rfl, ⟨by decide +kernel, by decide +kernel⟩, by decide +kernel, Nat.le_of_ble_eq_true rfl⟩
theorem zc_Ad_segments : zCl M_Ad_segments 0 := ⟨zt3 206 rfl, zt1 6 rfl, ⟨by decide +kernel, by decide +kernel⟩, by decide +kernel, Nat.le_of_ble_eq_true rfl⟩
theorem zc_Pt_pop : zCl M_Pt_pop 0 := ⟨zt3 211 rfl, zt1 23 rfl, ⟨by decide +kernel, by decide +kernel⟩, by decide +kernel, Nat.le_of_ble_eq_true rfl⟩
theorem zc_Pt_take : zCl M_Pt_take 1 := ⟨zt3 218 rfl, zt1 23 rfl, ⟨by decide +kernel, by decide +kernel⟩, by decide +kernel, Nat.le_of_ble_eq_true rfl⟩
theorem zc_Pt_takeOne : zCl M_Pt_takeOne 2 := ⟨zt3 227 rfl, zt1 23 rfl, ⟨by decide +kernel, by decide +kernel⟩, by decide +kernel, Nat.le_of_ble_eq_true rfl⟩
theorem zc_Pt_push : zCl M_Pt_push 1 := ⟨zt3 234 rfl, zt1 23 rfl, ⟨by decide +kernel, by decide +kernel⟩, by decide +kernel, Nat.le_of_ble_eq_true rfl⟩
theorem zc_N_writeAddress : zCl M_N_writeAddress 2 := ⟨zt4 1 rfl, zt1 1 rfl, ⟨by decide +kernel, by decide +kernel⟩, by decide +kernel, Nat.le_of_ble_eq_true rfl⟩
theorem zc_Ad_appendTo : zCl M_Ad_appendTo 1 := ⟨zt4 5 rfl, zt1 6 rfl, ⟨by decide +kernel, by decide +kernel⟩, by decide +kernel, Nat.le_of_ble_eq_true rfl⟩
theorem zc_N_base : zCl M_N_base 0 := ⟨zt4 11 rfl, zt1 1 rfl, ⟨by decide +kernel, by decide +kernel⟩, by decide +kernel, Nat.le_of_ble_eq_true rfl⟩
theorem zc_N_server : zCl M_N_server 0 := ⟨zt4 16 rfl, zt1 1 rfl, ⟨by decide +kernel, by decide +kernel⟩, by decide +kernel, Nat.le_of_ble_eq_true rfl⟩
theorem zc_Sv_init : zCl M_Sv_init 2 := ⟨zt4 21 rfl, zt1 24 rfl, ⟨by decide +kernel, by decide +kernel⟩, by decide +kernel, Nat.le_of_ble_eq_true rfl⟩
theorem zc_Sv_firstWrong : zCl M_Sv_firstWrong 0 := ⟨zt4 45 rfl, zt1 24 rfl, ⟨by decide +kernel, by decide +kernel⟩, by decide +kernel, Nat.le_of_ble_eq_true rfl⟩
theorem zc_Sv_takeAddress : zCl M_Sv_takeAddress 1 := ⟨zt4 53 rfl, zt1 24 rfl, ⟨by decide +kernel, by decide +kernel⟩, by decide +kernel, Nat.le_of_ble_eq_true rfl⟩
theorem zc_Fl_take : zCl M_Fl_take 2 := ⟨zt4 61 rfl, zt1 8 rfl, ⟨by decide +kernel, by decide +kernel⟩, by decide +kernel, Nat.le_of_ble_eq_true rfl⟩
theorem zc_Fl_takeAge : zCl M_Fl_takeAge 1 := ⟨zt4 70 rfl, zt1 8 rfl, ⟨by decide +kernel, by decide +kernel⟩, by decide +kernel, Nat.le_of_ble_eq_true rfl⟩
theorem zc_Tx_isNumber : zCl M_Tx_isNumber 1 := ⟨zt4 73 rfl, zt1 21 rfl, ⟨by decide +kernel, by decide +kernel⟩, by decide +kernel, Nat.le_of_ble_eq_true rfl⟩
theorem zc_Tx_number : zCl M_Tx_number 1 := ⟨zt4 76 rfl, zt1 21 rfl, ⟨by decide +kernel, by decide +kernel⟩, by decide +kernel, Nat.le_of_ble_eq_true rfl⟩
theorem zc_Fl_takeCookie : zCl M_Fl_takeCookie 1 := ⟨zt4 81 rfl, zt1 8 rfl, ⟨by decide +kernel, by decide +kernel⟩, by decide +kernel, Nat.le_of_ble_eq_true rfl⟩
theorem zc_N_placeOfAnswer : zCl M_N_placeOfAnswer 1 := ⟨zt4 92 rfl, zt1 1 rfl, ⟨by decide +kernel, by decide +kernel⟩, by decide +kernel, Nat.le_of_ble_eq_true rfl⟩
theorem zc_Al_size : zCl M_Al_size 0 := ⟨zt4 96 rfl, zt1 11 rfl, ⟨by decide +kernel, by decide +kernel⟩, by decide +kernel, Nat.le_of_ble_eq_true rfl⟩
theorem zc_Al_get : zCl M_Al_get 1 := ⟨zt4 100 rfl, zt1 11 rfl, ⟨by decide +kernel, by decide +kernel⟩, by decide +kernel, Nat.le_of_ble_eq_true rfl⟩
theorem zc_Ob_checkIndex : zCl M_Ob_checkIndex 2 := ⟨zt4 103 rfl, zt1 25 rfl, ⟨by decide +kernel, by decide +kernel⟩, by decide +kernel, Nat.le_of_ble_eq_true rfl⟩
theorem zc_Al_elementData : zCl M_Al_elementData 1 := ⟨zt4 108 rfl, zt1 11 rfl, ⟨by decide +kernel, by decide +kernel⟩, by decide +kernel, Nat.le_of_ble_eq_true rfl⟩
theorem zc_Ad_isSamePlace : zCl M_Ad_isSamePlace 1 := ⟨zt4 112 rfl, zt1 6 rfl, ⟨by decide +kernel, by decide +kernel⟩, by decide +kernel, Nat.le_of_ble_eq_true rfl⟩
theorem zc_Al_set : zCl M_Al_set 2 := ⟨zt4 117 rfl, zt1 11 rfl, ⟨by decide +kernel, by decide +kernel⟩, by decide +kernel, Nat.le_of_ble_eq_true rfl⟩
theorem zc_Al_add_0 : zCl M_Al_add_0 1 := ⟨zt4 121 rfl, zt1 11 rfl, ⟨by decide +kernel, by decide +kernel⟩, by decide +kernel, Nat.le_of_ble_eq_true rfl⟩
theorem zc_Al_add_1 : zCl M_Al_add_1 3 := ⟨zt4 125 rfl, zt1 11 rfl, ⟨by decide +kernel, by decide +kernel⟩, by decide +kernel, Nat.le_of_ble_eq_true rfl⟩
theorem zc_Al_grow_0 : zCl M_Al_grow_0 0 := ⟨zt4 129 rfl, zt1 11 rfl, ⟨by decide +kernel, by decide +kernel⟩, by decide +kernel, Nat.le_of_ble_eq_true rfl⟩
theorem zc_Al_grow_1 : zCl M_Al_grow_1 1 := ⟨zt4 133 rfl, zt1 11 rfl, ⟨by decide +kernel, by decide +kernel⟩, by decide +kernel, Nat.le_of_ble_eq_true rfl⟩
theorem zc_Ar_copyOf_1 : zCl M_Ar_copyOf_1 2 := ⟨zt4 137 rfl, zt1 17 rfl, ⟨by decide +kernel, by decide +kernel⟩, by decide +kernel, Nat.le_of_ble_eq_true rfl⟩
theorem zc_Ar_copyOf_2 : zCl M_Ar_copyOf_2 3 := ⟨zt4 158 rfl, zt1 17 rfl, ⟨by decide +kernel, by decide +kernel⟩, by decide +kernel, Nat.le_of_ble_eq_true rfl⟩
theorem zc_N_fetch : zCl M_N_fetch 0 := ⟨zt4 167 rfl, zt1 1 rfl, ⟨by decide +kernel, by decide +kernel⟩, by decide +kernel, Nat.le_of_ble_eq_true rfl⟩
theorem zc_N_follow : zCl M_N_follow 1 := ⟨zt4 171 rfl, zt1 1 rfl, ⟨by decide +kernel, by decide +kernel⟩, by decide +kernel, Nat.le_of_ble_eq_true rfl⟩
theorem zc_N_answerFrom : zCl M_N_answerFrom 1 := ⟨zt4 175 rfl, zt1 1 rfl, ⟨by decide +kernel, by decide +kernel⟩, by decide +kernel, Nat.le_of_ble_eq_true rfl⟩
theorem zc_Kp_fresh : zCl M_Kp_fresh 2 := ⟨zt4 179 rfl, zt1 13 rfl, ⟨by decide +kernel, by decide +kernel⟩, by decide +kernel, Nat.le_of_ble_eq_true rfl⟩
theorem zc_Kp_placeOf : zCl M_Kp_placeOf 1 := ⟨zt4 183 rfl, zt1 13 rfl, ⟨by decide +kernel, by decide +kernel⟩, by decide +kernel, Nat.le_of_ble_eq_true rfl⟩
theorem zc_N_request : zCl M_N_request 1 := ⟨zt4 191 rfl, zt1 1 rfl, ⟨by decide +kernel, by decide +kernel⟩, by decide +kernel, Nat.le_of_ble_eq_true rfl⟩
theorem zc_Jr_tell : zCl M_Jr_tell 2 := ⟨zt4 195 rfl, zt1 12 rfl, ⟨by decide +kernel, by decide +kernel⟩, by decide +kernel, Nat.le_of_ble_eq_true rfl⟩
theorem zc_Ck_init : zCl M_Ck_init 3 := ⟨zt4 208 rfl, zt1 26 rfl, ⟨by decide +kernel, by decide +kernel⟩, by decide +kernel, Nat.le_of_ble_eq_true rfl⟩
theorem zc_Jr_put : zCl M_Jr_put 1 := ⟨zt4 226 rfl, zt1 12 rfl, ⟨by decide +kernel, by decide +kernel⟩, by decide +kernel, Nat.le_of_ble_eq_true rfl⟩
theorem zc_Kt_init : zCl M_Kt_init 2 := ⟨zt4 233 rfl, zt1 27 rfl, ⟨by decide +kernel, by decide +kernel⟩, by decide +kernel, Nat.le_of_ble_eq_true rfl⟩
theorem zc_Kp_put : zCl M_Kp_put 1 := ⟨zt5 7 rfl, zt1 13 rfl, ⟨by decide +kernel, by decide +kernel⟩, by decide +kernel, Nat.le_of_ble_eq_true rfl⟩
theorem zc_Al_remove : zCl M_Al_remove 1 := ⟨zt5 11 rfl, zt1 11 rfl, ⟨by decide +kernel, by decide +kernel⟩, by decide +kernel, Nat.le_of_ble_eq_true rfl⟩
theorem zc_Al_fastRemove : zCl M_Al_fastRemove 2 := ⟨zt5 15 rfl, zt1 11 rfl, ⟨by decide +kernel, by decide +kernel⟩, by decide +kernel, Nat.le_of_ble_eq_true rfl⟩
theorem zc_N_body : zCl M_N_body 1 := ⟨zt5 22 rfl, zt1 1 rfl, ⟨by decide +kernel, by decide +kernel⟩, by decide +kernel, Nat.le_of_ble_eq_true rfl⟩
theorem zc_N_tick : zCl M_N_tick 1 := ⟨zt5 27 rfl, zt1 1 rfl, ⟨by decide +kernel, by decide +kernel⟩, by decide +kernel, Nat.le_of_ble_eq_true rfl⟩
theorem zc_N_forget : zCl M_N_forget 0 := ⟨zt5 31 rfl, zt1 1 rfl, ⟨by decide +kernel, by decide +kernel⟩, by decide +kernel, Nat.le_of_ble_eq_true rfl⟩
theorem zc_Jr_dropLast : zCl M_Jr_dropLast 1 := ⟨zt5 36 rfl, zt1 12 rfl, ⟨by decide +kernel, by decide +kernel⟩, by decide +kernel, Nat.le_of_ble_eq_true rfl⟩
theorem zc_N_write : zCl M_N_write 1 := ⟨zt5 41 rfl, zt1 1 rfl, ⟨by decide +kernel, by decide +kernel⟩, by decide +kernel, Nat.le_of_ble_eq_true rfl⟩
theorem zc_N_count : zCl M_N_count 1 := ⟨zt5 45 rfl, zt1 1 rfl, ⟨by decide +kernel, by decide +kernel⟩, by decide +kernel, Nat.le_of_ble_eq_true rfl⟩
theorem zc_Jr_size : zCl M_Jr_size 0 := ⟨zt5 49 rfl, zt1 12 rfl, ⟨by decide +kernel, by decide +kernel⟩, by decide +kernel, Nat.le_of_ble_eq_true rfl⟩
theorem zc_Kp_size : zCl M_Kp_size 0 := ⟨zt5 53 rfl, zt1 13 rfl, ⟨by decide +kernel, by decide +kernel⟩, by decide +kernel, Nat.le_of_ble_eq_true rfl⟩
theorem zc_Mo_server : zCl M_Mo_server 0 := ⟨zt5 57 rfl, zt1 14 rfl, ⟨by decide +kernel, by decide +kernel⟩, by decide +kernel, Nat.le_of_ble_eq_true rfl⟩
theorem zc_Mo_take : zCl M_Mo_take 0 := ⟨zt5 62 rfl, zt1 14 rfl, ⟨by decide +kernel, by decide +kernel⟩, by decide +kernel, Nat.le_of_ble_eq_true rfl⟩
theorem zc_Mo_wrong : zCl M_Mo_wrong 1 := ⟨zt5 65 rfl, zt1 14 rfl, ⟨by decide +kernel, by decide +kernel⟩, by decide +kernel, Nat.le_of_ble_eq_true rfl⟩
theorem zc_Mo_tokenEnd : zCl M_Mo_tokenEnd 1 := ⟨zt5 69 rfl, zt1 14 rfl, ⟨by decide +kernel, by decide +kernel⟩, by decide +kernel, Nat.le_of_ble_eq_true rfl⟩
theorem zc_Mo_isBlank : zCl M_Mo_isBlank 1 := ⟨zt5 72 rfl, zt1 14 rfl, ⟨by decide +kernel, by decide +kernel⟩, by decide +kernel, Nat.le_of_ble_eq_true rfl⟩
theorem zc_Mo_refer : zCl M_Mo_refer 4 := ⟨zt5 76 rfl, zt1 14 rfl, ⟨by decide +kernel, by decide +kernel⟩, by decide +kernel, Nat.le_of_ble_eq_true rfl⟩
theorem zc_Mo_nameEnd : zCl M_Mo_nameEnd 3 := ⟨zt5 79 rfl, zt1 14 rfl, ⟨by decide +kernel, by decide +kernel⟩, by decide +kernel, Nat.le_of_ble_eq_true rfl⟩
theorem zc_Mo_isSmall : zCl M_Mo_isSmall 1 := ⟨zt5 82 rfl, zt1 14 rfl, ⟨by decide +kernel, by decide +kernel⟩, by decide +kernel, Nat.le_of_ble_eq_true rfl⟩
theorem zc_Mo_isDigit : zCl M_Mo_isDigit 1 := ⟨zt5 85 rfl, zt1 14 rfl, ⟨by decide +kernel, by decide +kernel⟩, by decide +kernel, Nat.le_of_ble_eq_true rfl⟩
theorem zc_Mo_put : zCl M_Mo_put 2 := ⟨zt5 89 rfl, zt1 14 rfl, ⟨by decide +kernel, by decide +kernel⟩, by decide +kernel, Nat.le_of_ble_eq_true rfl⟩
theorem zc_Mo_segments : zCl M_Mo_segments 2 := ⟨zt5 93 rfl, zt1 14 rfl, ⟨by decide +kernel, by decide +kernel⟩, by decide +kernel, Nat.le_of_ble_eq_true rfl⟩
theorem zc_Mo_oneSegment : zCl M_Mo_oneSegment 2 := ⟨zt5 97 rfl, zt1 14 rfl, ⟨by decide +kernel, by decide +kernel⟩, by decide +kernel, Nat.le_of_ble_eq_true rfl⟩
theorem zc_Mo_isSegment : zCl M_Mo_isSegment 1 := ⟨zt5 100 rfl, zt1 14 rfl, ⟨by decide +kernel, by decide +kernel⟩, by decide +kernel, Nat.le_of_ble_eq_true rfl⟩
theorem zc_Mo_segment : zCl M_Mo_segment 3 := ⟨zt5 104 rfl, zt1 14 rfl, ⟨by decide +kernel, by decide +kernel⟩, by decide +kernel, Nat.le_of_ble_eq_true rfl⟩
theorem zc_Mo_siteEnd : zCl M_Mo_siteEnd 1 := ⟨zt5 108 rfl, zt1 14 rfl, ⟨by decide +kernel, by decide +kernel⟩, by decide +kernel, Nat.le_of_ble_eq_true rfl⟩
theorem zc_Mo_baseSegments : zCl M_Mo_baseSegments 2 := ⟨zt5 112 rfl, zt1 14 rfl, ⟨by decide +kernel, by decide +kernel⟩, by decide +kernel, Nat.le_of_ble_eq_true rfl⟩
theorem zc_Mo_queryAt : zCl M_Mo_queryAt 1 := ⟨zt5 116 rfl, zt1 14 rfl, ⟨by decide +kernel, by decide +kernel⟩, by decide +kernel, Nat.le_of_ble_eq_true rfl⟩
theorem zc_Mo_query : zCl M_Mo_query 4 := ⟨zt5 120 rfl, zt1 14 rfl, ⟨by decide +kernel, by decide +kernel⟩, by decide +kernel, Nat.le_of_ble_eq_true rfl⟩
theorem zc_Mo_isQuery : zCl M_Mo_isQuery 1 := ⟨zt5 123 rfl, zt1 14 rfl, ⟨by decide +kernel, by decide +kernel⟩, by decide +kernel, Nat.le_of_ble_eq_true rfl⟩
theorem zc_Mo_copyRow : zCl M_Mo_copyRow 2 := ⟨zt5 127 rfl, zt1 14 rfl, ⟨by decide +kernel, by decide +kernel⟩, by decide +kernel, Nat.le_of_ble_eq_true rfl⟩
theorem zc_Mo_field : zCl M_Mo_field 2 := ⟨zt5 131 rfl, zt1 14 rfl, ⟨by decide +kernel, by decide +kernel⟩, by decide +kernel, Nat.le_of_ble_eq_true rfl⟩
theorem zc_Mo_isWord : zCl M_Mo_isWord 4 := ⟨zt5 135 rfl, zt1 14 rfl, ⟨by decide +kernel, by decide +kernel⟩, by decide +kernel, Nat.le_of_ble_eq_true rfl⟩
theorem zc_Mo_alike : zCl M_Mo_alike 2 := ⟨zt5 143 rfl, zt1 14 rfl, ⟨by decide +kernel, by decide +kernel⟩, by decide +kernel, Nat.le_of_ble_eq_true rfl⟩
theorem zc_Mo_same : zCl M_Mo_same 5 := ⟨zt5 146 rfl, zt1 14 rfl, ⟨by decide +kernel, by decide +kernel⟩, by decide +kernel, Nat.le_of_ble_eq_true rfl⟩
theorem zc_Mo_init : zCl M_Mo_init 0 := ⟨zt5 150 rfl, zt1 14 rfl, ⟨by decide +kernel, by decide +kernel⟩, by decide +kernel, Nat.le_of_ble_eq_true rfl⟩
theorem zc_Mo_feed : zCl M_Mo_feed 5 := ⟨zt6 70 rfl, zt1 14 rfl, ⟨by decide +kernel, by decide +kernel⟩, by decide +kernel, Nat.le_of_ble_eq_true rfl⟩
theorem zc_Mo_putFour : zCl M_Mo_putFour 1 := ⟨zt6 74 rfl, zt1 14 rfl, ⟨by decide +kernel, by decide +kernel⟩, by decide +kernel, Nat.le_of_ble_eq_true rfl⟩
theorem zc_Mo_end : zCl M_Mo_end 1 := ⟨zt6 78 rfl, zt1 14 rfl, ⟨by decide +kernel, by decide +kernel⟩, by decide +kernel, Nat.le_of_ble_eq_true rfl⟩
theorem zc_Mo_out : zCl M_Mo_out 1 := ⟨zt6 82 rfl, zt1 14 rfl, ⟨by decide +kernel, by decide +kernel⟩, by decide +kernel, Nat.le_of_ble_eq_true rfl⟩
theorem zc_Mo_resolve : zCl M_Mo_resolve 0 := ⟨zt6 86 rfl, zt1 14 rfl, ⟨by decide +kernel, by decide +kernel⟩, by decide +kernel, Nat.le_of_ble_eq_true rfl⟩
theorem zc_Mo_sayRow : zCl M_Mo_sayRow 1 := ⟨zt6 90 rfl, zt1 14 rfl, ⟨by decide +kernel, by decide +kernel⟩, by decide +kernel, Nat.le_of_ble_eq_true rfl⟩
theorem zc_Mo_sayAll : zCl M_Mo_sayAll 3 := ⟨zt6 94 rfl, zt1 14 rfl, ⟨by decide +kernel, by decide +kernel⟩, by decide +kernel, Nat.le_of_ble_eq_true rfl⟩
theorem zc_Mo_say : zCl M_Mo_say 1 := ⟨zt6 98 rfl, zt1 14 rfl, ⟨by decide +kernel, by decide +kernel⟩, by decide +kernel, Nat.le_of_ble_eq_true rfl⟩
theorem zc_Mo_base : zCl M_Mo_base 0 := ⟨zt6 102 rfl, zt1 14 rfl, ⟨by decide +kernel, by decide +kernel⟩, by decide +kernel, Nat.le_of_ble_eq_true rfl⟩
theorem zc_Mo_fetch : zCl M_Mo_fetch 0 := ⟨zt6 106 rfl, zt1 14 rfl, ⟨by decide +kernel, by decide +kernel⟩, by decide +kernel, Nat.le_of_ble_eq_true rfl⟩
theorem zc_Mo_fetchIt : zCl M_Mo_fetchIt 0 := ⟨zt6 110 rfl, zt1 14 rfl, ⟨by decide +kernel, by decide +kernel⟩, by decide +kernel, Nat.le_of_ble_eq_true rfl⟩
theorem zc_Mo_ask : zCl M_Mo_ask 0 := ⟨zt6 114 rfl, zt1 14 rfl, ⟨by decide +kernel, by decide +kernel⟩, by decide +kernel, Nat.le_of_ble_eq_true rfl⟩
theorem zc_Mo_tellCookies : zCl M_Mo_tellCookies 0 := ⟨zt6 118 rfl, zt1 14 rfl, ⟨by decide +kernel, by decide +kernel⟩, by decide +kernel, Nat.le_of_ble_eq_true rfl⟩
theorem zc_Mo_send : zCl M_Mo_send 1 := ⟨zt6 122 rfl, zt1 14 rfl, ⟨by decide +kernel, by decide +kernel⟩, by decide +kernel, Nat.le_of_ble_eq_true rfl⟩
theorem zc_Mo_dropCookie : zCl M_Mo_dropCookie 1 := ⟨zt6 126 rfl, zt1 14 rfl, ⟨by decide +kernel, by decide +kernel⟩, by decide +kernel, Nat.le_of_ble_eq_true rfl⟩
theorem zc_Mo_keep : zCl M_Mo_keep 1 := ⟨zt6 130 rfl, zt1 14 rfl, ⟨by decide +kernel, by decide +kernel⟩, by decide +kernel, Nat.le_of_ble_eq_true rfl⟩
theorem zc_Mo_body : zCl M_Mo_body 1 := ⟨zt6 134 rfl, zt1 14 rfl, ⟨by decide +kernel, by decide +kernel⟩, by decide +kernel, Nat.le_of_ble_eq_true rfl⟩
theorem zc_Mo_tick : zCl M_Mo_tick 1 := ⟨zt6 138 rfl, zt1 14 rfl, ⟨by decide +kernel, by decide +kernel⟩, by decide +kernel, Nat.le_of_ble_eq_true rfl⟩
theorem zc_Mo_forget : zCl M_Mo_forget 0 := ⟨zt6 142 rfl, zt1 14 rfl, ⟨by decide +kernel, by decide +kernel⟩, by decide +kernel, Nat.le_of_ble_eq_true rfl⟩
theorem zc_Mo_write : zCl M_Mo_write 1 := ⟨zt6 146 rfl, zt1 14 rfl, ⟨by decide +kernel, by decide +kernel⟩, by decide +kernel, Nat.le_of_ble_eq_true rfl⟩
theorem zc_Mo_count : zCl M_Mo_count 1 := ⟨zt6 150 rfl, zt1 14 rfl, ⟨by decide +kernel, by decide +kernel⟩, by decide +kernel, Nat.le_of_ble_eq_true rfl⟩
end
section
theorem dSb_init_0 : decode prog_21_method_1_code 0 = .ok (.aload_n 0, 1) := by decide +kernel
theorem dSb_init_1 : decode prog_21_method_1_code 1 = .ok (.bipush 16, 2) := by decide +kernel
theorem dSb_init_3 : decode prog_21_method_1_code 3 = .ok (.invokespecial 1, 3) := by decide +kernel
theorem dSb_init_6 : decode prog_21_method_1_code 6 = .ok (.return_, 1) := by decide +kernel
theorem dAb_init_0 : decode prog_15_method_2_code 0 = .ok (.aload_n 0, 1) := by decide +kernel
theorem dAb_init_1 : decode prog_15_method_2_code 1 = .ok (.invokespecial 3, 3) := by decide +kernel
theorem dAb_init_4 : decode prog_15_method_2_code 4 = .ok (.getstatic 18, 3) := by decide +kernel
theorem dAb_init_7 : decode prog_15_method_2_code 7 = .ok (.ifCond .eq 18, 3) := by decide +kernel
theorem dAb_init_10 : decode prog_15_method_2_code 10 = .ok (.aload_n 0, 1) := by decide +kernel
theorem dAb_init_11 : decode prog_15_method_2_code 11 = .ok (.iload_n 1, 1) := by decide +kernel
theorem dAb_init_12 : decode prog_15_method_2_code 12 = .ok (.newarray .byte, 2) := by decide +kernel
theorem dAb_init_14 : decode prog_15_method_2_code 14 = .ok (.putfield 15, 3) := by decide +kernel
theorem dAb_init_17 : decode prog_15_method_2_code 17 = .ok (.aload_n 0, 1) := by decide +kernel
theorem dAb_init_18 : decode prog_15_method_2_code 18 = .ok (.iconst 0, 1) := by decide +kernel
theorem dAb_init_19 : decode prog_15_method_2_code 19 = .ok (.putfield 22, 3) := by decide +kernel
theorem dAb_init_22 : decode prog_15_method_2_code 22 = .ok (.goto 16, 3) := by decide +kernel
theorem dAb_init_25 : decode prog_15_method_2_code 25 = .ok (.aload_n 0, 1) := by decide +kernel
theorem dAb_init_26 : decode prog_15_method_2_code 26 = .ok (.iload_n 1, 1) := by decide +kernel
theorem dAb_init_27 : decode prog_15_method_2_code 27 = .ok (.invokestatic 26, 3) := by decide +kernel
theorem dAb_init_30 : decode prog_15_method_2_code 30 = .ok (.putfield 15, 3) := by decide +kernel
theorem dAb_init_33 : decode prog_15_method_2_code 33 = .ok (.aload_n 0, 1) := by decide +kernel
theorem dAb_init_34 : decode prog_15_method_2_code 34 = .ok (.iconst 1, 1) := by decide +kernel
theorem dAb_init_35 : decode prog_15_method_2_code 35 = .ok (.putfield 22, 3) := by decide +kernel
theorem dAb_init_38 : decode prog_15_method_2_code 38 = .ok (.return_, 1) := by decide +kernel
theorem dSb_length_0 : decode prog_21_method_93_code 0 = .ok (.aload_n 0, 1) := by decide +kernel
theorem dSb_length_1 : decode prog_21_method_93_code 1 = .ok (.invokespecial 343, 3) := by decide +kernel
theorem dSb_length_4 : decode prog_21_method_93_code 4 = .ok (.ireturn, 1) := by decide +kernel
theorem dAb_length_0 : decode prog_15_method_6_code 0 = .ok (.aload_n 0, 1) := by decide +kernel
theorem dAb_length_1 : decode prog_15_method_6_code 1 = .ok (.getfield 79, 3) := by decide +kernel
theorem dAb_length_4 : decode prog_15_method_6_code 4 = .ok (.ireturn, 1) := by decide +kernel
theorem dSb_append_0_0 : decode prog_21_method_14_code 0 = .ok (.aload_n 0, 1) := by decide +kernel
theorem dSb_append_0_1 : decode prog_21_method_14_code 1 = .ok (.iload_n 1, 1) := by decide +kernel
theorem dSb_append_0_2 : decode prog_21_method_14_code 2 = .ok (.invokespecial 50, 3) := by decide +kernel
theorem dSb_append_0_5 : decode prog_21_method_14_code 5 = .ok (.pop, 1) := by decide +kernel
theorem dSb_append_0_6 : decode prog_21_method_14_code 6 = .ok (.aload_n 0, 1) := by decide +kernel
theorem dSb_append_0_7 : decode prog_21_method_14_code 7 = .ok (.areturn, 1) := by decide +kernel
theorem dAb_append_0_0 : decode prog_15_method_31_code 0 = .ok (.aload_n 0, 1) := by decide +kernel
theorem dAb_append_0_1 : decode prog_15_method_31_code 1 = .ok (.aload_n 0, 1) := by decide +kernel
theorem dAb_append_0_2 : decode prog_15_method_31_code 2 = .ok (.getfield 79, 3) := by decide +kernel
theorem dAb_append_0_5 : decode prog_15_method_31_code 5 = .ok (.iconst 1, 1) := by decide +kernel
theorem dAb_append_0_6 : decode prog_15_method_31_code 6 = .ok (.iadd, 1) := by decide +kernel
theorem dAb_append_0_7 : decode prog_15_method_31_code 7 = .ok (.invokevirtual 100, 3) := by decide +kernel
theorem dAb_append_0_10 : decode prog_15_method_31_code 10 = .ok (.aload_n 0, 1) := by decide +kernel
theorem dAb_append_0_11 : decode prog_15_method_31_code 11 = .ok (.invokevirtual 83, 3) := by decide +kernel
theorem dAb_append_0_14 : decode prog_15_method_31_code 14 = .ok (.ifCond .eq 31, 3) := by decide +kernel
theorem dAb_append_0_17 : decode prog_15_method_31_code 17 = .ok (.iload_n 1, 1) := by decide +kernel
theorem dAb_append_0_18 : decode prog_15_method_31_code 18 = .ok (.invokestatic 191, 3) := by decide +kernel
theorem dAb_append_0_21 : decode prog_15_method_31_code 21 = .ok (.ifCond .eq 24, 3) := by decide +kernel
theorem dAb_append_0_24 : decode prog_15_method_31_code 24 = .ok (.aload_n 0, 1) := by decide +kernel
theorem dAb_append_0_25 : decode prog_15_method_31_code 25 = .ok (.getfield 15, 3) := by decide +kernel
theorem dAb_append_0_28 : decode prog_15_method_31_code 28 = .ok (.aload_n 0, 1) := by decide +kernel
theorem dAb_append_0_29 : decode prog_15_method_31_code 29 = .ok (.dup, 1) := by decide +kernel
theorem dAb_append_0_30 : decode prog_15_method_31_code 30 = .ok (.getfield 79, 3) := by decide +kernel
theorem dAb_append_0_33 : decode prog_15_method_31_code 33 = .ok (.dup_x1, 1) := by decide +kernel
theorem dAb_append_0_34 : decode prog_15_method_31_code 34 = .ok (.iconst 1, 1) := by decide +kernel
theorem dAb_append_0_35 : decode prog_15_method_31_code 35 = .ok (.iadd, 1) := by decide +kernel
theorem dAb_append_0_36 : decode prog_15_method_31_code 36 = .ok (.putfield 79, 3) := by decide +kernel
theorem dAb_append_0_39 : decode prog_15_method_31_code 39 = .ok (.iload_n 1, 1) := by decide +kernel
theorem dAb_append_0_40 : decode prog_15_method_31_code 40 = .ok (.i2b, 1) := by decide +kernel
theorem dAb_append_0_41 : decode prog_15_method_31_code 41 = .ok (.bastore, 1) := by decide +kernel
theorem dAb_append_0_42 : decode prog_15_method_31_code 42 = .ok (.goto 33, 3) := by decide +kernel
theorem dAb_append_0_45 : decode prog_15_method_31_code 45 = .ok (.aload_n 0, 1) := by decide +kernel
theorem dAb_append_0_46 : decode prog_15_method_31_code 46 = .ok (.invokevirtual 83, 3) := by decide +kernel
theorem dAb_append_0_49 : decode prog_15_method_31_code 49 = .ok (.ifCond .eq 7, 3) := by decide +kernel
theorem dAb_append_0_52 : decode prog_15_method_31_code 52 = .ok (.aload_n 0, 1) := by decide +kernel
theorem dAb_append_0_53 : decode prog_15_method_31_code 53 = .ok (.invokevirtual 195, 3) := by decide +kernel
theorem dAb_append_0_56 : decode prog_15_method_31_code 56 = .ok (.aload_n 0, 1) := by decide +kernel
theorem dAb_append_0_57 : decode prog_15_method_31_code 57 = .ok (.getfield 15, 3) := by decide +kernel
theorem dAb_append_0_60 : decode prog_15_method_31_code 60 = .ok (.aload_n 0, 1) := by decide +kernel
theorem dAb_append_0_61 : decode prog_15_method_31_code 61 = .ok (.dup, 1) := by decide +kernel
theorem dAb_append_0_62 : decode prog_15_method_31_code 62 = .ok (.getfield 79, 3) := by decide +kernel
theorem dAb_append_0_65 : decode prog_15_method_31_code 65 = .ok (.dup_x1, 1) := by decide +kernel
theorem dAb_append_0_66 : decode prog_15_method_31_code 66 = .ok (.iconst 1, 1) := by decide +kernel
theorem dAb_append_0_67 : decode prog_15_method_31_code 67 = .ok (.iadd, 1) := by decide +kernel
theorem dAb_append_0_68 : decode prog_15_method_31_code 68 = .ok (.putfield 79, 3) := by decide +kernel
theorem dAb_append_0_71 : decode prog_15_method_31_code 71 = .ok (.iload_n 1, 1) := by decide +kernel
theorem dAb_append_0_72 : decode prog_15_method_31_code 72 = .ok (.invokestatic 197, 3) := by decide +kernel
theorem dAb_append_0_75 : decode prog_15_method_31_code 75 = .ok (.aload_n 0, 1) := by decide +kernel
theorem dAb_append_0_76 : decode prog_15_method_31_code 76 = .ok (.areturn, 1) := by decide +kernel
theorem dAb_ensureCapacityInternal_0 : decode prog_15_method_9_code 0 = .ok (.aload_n 0, 1) := by decide +kernel
theorem dAb_ensureCapacityInternal_1 : decode prog_15_method_9_code 1 = .ok (.getfield 15, 3) := by decide +kernel
theorem dAb_ensureCapacityInternal_4 : decode prog_15_method_9_code 4 = .ok (.arraylength, 1) := by decide +kernel
theorem dAb_ensureCapacityInternal_5 : decode prog_15_method_9_code 5 = .ok (.aload_n 0, 1) := by decide +kernel
theorem dAb_ensureCapacityInternal_6 : decode prog_15_method_9_code 6 = .ok (.getfield 22, 3) := by decide +kernel
theorem dAb_ensureCapacityInternal_9 : decode prog_15_method_9_code 9 = .ok (.ishr, 1) := by decide +kernel
theorem dAb_ensureCapacityInternal_10 : decode prog_15_method_9_code 10 = .ok (.istore_n 2, 1) := by decide +kernel
theorem dAb_ensureCapacityInternal_11 : decode prog_15_method_9_code 11 = .ok (.iload_n 1, 1) := by decide +kernel
theorem dAb_ensureCapacityInternal_12 : decode prog_15_method_9_code 12 = .ok (.iload_n 2, 1) := by decide +kernel
theorem dAb_ensureCapacityInternal_13 : decode prog_15_method_9_code 13 = .ok (.isub, 1) := by decide +kernel
theorem dAb_ensureCapacityInternal_14 : decode prog_15_method_9_code 14 = .ok (.ifCond .le 24, 3) := by decide +kernel
theorem dAb_ensureCapacityInternal_17 : decode prog_15_method_9_code 17 = .ok (.aload_n 0, 1) := by decide +kernel
theorem dAb_ensureCapacityInternal_18 : decode prog_15_method_9_code 18 = .ok (.aload_n 0, 1) := by decide +kernel
theorem dAb_ensureCapacityInternal_19 : decode prog_15_method_9_code 19 = .ok (.getfield 15, 3) := by decide +kernel
theorem dAb_ensureCapacityInternal_22 : decode prog_15_method_9_code 22 = .ok (.aload_n 0, 1) := by decide +kernel
theorem dAb_ensureCapacityInternal_23 : decode prog_15_method_9_code 23 = .ok (.iload_n 1, 1) := by decide +kernel
theorem dAb_ensureCapacityInternal_24 : decode prog_15_method_9_code 24 = .ok (.invokevirtual 104, 3) := by decide +kernel
theorem dAb_ensureCapacityInternal_27 : decode prog_15_method_9_code 27 = .ok (.aload_n 0, 1) := by decide +kernel
theorem dAb_ensureCapacityInternal_28 : decode prog_15_method_9_code 28 = .ok (.getfield 22, 3) := by decide +kernel
theorem dAb_ensureCapacityInternal_31 : decode prog_15_method_9_code 31 = .ok (.ishl, 1) := by decide +kernel
theorem dAb_ensureCapacityInternal_32 : decode prog_15_method_9_code 32 = .ok (.invokestatic 108, 3) := by decide +kernel
theorem dAb_ensureCapacityInternal_35 : decode prog_15_method_9_code 35 = .ok (.putfield 15, 3) := by decide +kernel
theorem dAb_ensureCapacityInternal_38 : decode prog_15_method_9_code 38 = .ok (.return_, 1) := by decide +kernel
theorem dAb_newCapacity_0 : decode prog_15_method_10_code 0 = .ok (.aload_n 0, 1) := by decide +kernel
theorem dAb_newCapacity_1 : decode prog_15_method_10_code 1 = .ok (.getfield 15, 3) := by decide +kernel
theorem dAb_newCapacity_4 : decode prog_15_method_10_code 4 = .ok (.arraylength, 1) := by decide +kernel
theorem dAb_newCapacity_5 : decode prog_15_method_10_code 5 = .ok (.istore_n 2, 1) := by decide +kernel
theorem dAb_newCapacity_6 : decode prog_15_method_10_code 6 = .ok (.iload_n 1, 1) := by decide +kernel
theorem dAb_newCapacity_7 : decode prog_15_method_10_code 7 = .ok (.aload_n 0, 1) := by decide +kernel
theorem dAb_newCapacity_8 : decode prog_15_method_10_code 8 = .ok (.getfield 22, 3) := by decide +kernel
theorem dAb_newCapacity_11 : decode prog_15_method_10_code 11 = .ok (.ishl, 1) := by decide +kernel
theorem dAb_newCapacity_12 : decode prog_15_method_10_code 12 = .ok (.istore_n 3, 1) := by decide +kernel
theorem dAb_newCapacity_13 : decode prog_15_method_10_code 13 = .ok (.iload_n 3, 1) := by decide +kernel
theorem dAb_newCapacity_14 : decode prog_15_method_10_code 14 = .ok (.iload_n 2, 1) := by decide +kernel
theorem dAb_newCapacity_15 : decode prog_15_method_10_code 15 = .ok (.isub, 1) := by decide +kernel
theorem dAb_newCapacity_16 : decode prog_15_method_10_code 16 = .ok (.istore 4, 2) := by decide +kernel
theorem dAb_newCapacity_18 : decode prog_15_method_10_code 18 = .ok (.iload_n 2, 1) := by decide +kernel
theorem dAb_newCapacity_19 : decode prog_15_method_10_code 19 = .ok (.iload 4, 2) := by decide +kernel
theorem dAb_newCapacity_21 : decode prog_15_method_10_code 21 = .ok (.iload_n 2, 1) := by decide +kernel
theorem dAb_newCapacity_22 : decode prog_15_method_10_code 22 = .ok (.iconst 2, 1) := by decide +kernel
theorem dAb_newCapacity_23 : decode prog_15_method_10_code 23 = .ok (.aload_n 0, 1) := by decide +kernel
theorem dAb_newCapacity_24 : decode prog_15_method_10_code 24 = .ok (.getfield 22, 3) := by decide +kernel
theorem dAb_newCapacity_27 : decode prog_15_method_10_code 27 = .ok (.ishl, 1) := by decide +kernel
theorem dAb_newCapacity_28 : decode prog_15_method_10_code 28 = .ok (.iadd, 1) := by decide +kernel
theorem dAb_newCapacity_29 : decode prog_15_method_10_code 29 = .ok (.invokestatic 114, 3) := by decide +kernel
theorem dAb_newCapacity_32 : decode prog_15_method_10_code 32 = .ok (.istore 5, 2) := by decide +kernel
theorem dAb_newCapacity_34 : decode prog_15_method_10_code 34 = .ok (.iload 5, 2) := by decide +kernel
theorem dAb_newCapacity_36 : decode prog_15_method_10_code 36 = .ok (.ldc 39, 2) := by decide +kernel
theorem dAb_newCapacity_38 : decode prog_15_method_10_code 38 = .ok (.if_icmp .ne 13, 3) := by decide +kernel
theorem dAb_newCapacity_44 : decode prog_15_method_10_code 44 = .ok (.dup, 1) := by decide +kernel
theorem dAb_newCapacity_51 : decode prog_15_method_10_code 51 = .ok (.iload 5, 2) := by decide +kernel
theorem dAb_newCapacity_53 : decode prog_15_method_10_code 53 = .ok (.aload_n 0, 1) := by decide +kernel
theorem dAb_newCapacity_54 : decode prog_15_method_10_code 54 = .ok (.getfield 22, 3) := by decide +kernel
theorem dAb_newCapacity_57 : decode prog_15_method_10_code 57 = .ok (.ishr, 1) := by decide +kernel
theorem dAb_newCapacity_58 : decode prog_15_method_10_code 58 = .ok (.ireturn, 1) := by decide +kernel
theorem dAb_isLatin1_0 : decode prog_15_method_68_code 0 = .ok (.getstatic 18, 3) := by decide +kernel
theorem dAb_isLatin1_3 : decode prog_15_method_68_code 3 = .ok (.ifCond .eq 14, 3) := by decide +kernel
theorem dAb_isLatin1_6 : decode prog_15_method_68_code 6 = .ok (.aload_n 0, 1) := by decide +kernel
theorem dAb_isLatin1_7 : decode prog_15_method_68_code 7 = .ok (.getfield 22, 3) := by decide +kernel
theorem dAb_isLatin1_10 : decode prog_15_method_68_code 10 = .ok (.ifCond .ne 7, 3) := by decide +kernel
theorem dAb_isLatin1_13 : decode prog_15_method_68_code 13 = .ok (.iconst 1, 1) := by decide +kernel
theorem dAb_isLatin1_14 : decode prog_15_method_68_code 14 = .ok (.goto 4, 3) := by decide +kernel
theorem dAb_isLatin1_17 : decode prog_15_method_68_code 17 = .ok (.iconst 0, 1) := by decide +kernel
theorem dAb_isLatin1_18 : decode prog_15_method_68_code 18 = .ok (.ireturn, 1) := by decide +kernel
theorem dAb_inflate_0 : decode prog_15_method_11_code 0 = .ok (.aload_n 0, 1) := by decide +kernel
theorem dAb_inflate_1 : decode prog_15_method_11_code 1 = .ok (.invokevirtual 83, 3) := by decide +kernel
theorem dAb_inflate_4 : decode prog_15_method_11_code 4 = .ok (.ifCond .ne 4, 3) := by decide +kernel
theorem dAb_inflate_7 : decode prog_15_method_11_code 7 = .ok (.return_, 1) := by decide +kernel
theorem dAb_inflate_8 : decode prog_15_method_11_code 8 = .ok (.aload_n 0, 1) := by decide +kernel
theorem dAb_inflate_9 : decode prog_15_method_11_code 9 = .ok (.getfield 15, 3) := by decide +kernel
theorem dAb_inflate_12 : decode prog_15_method_11_code 12 = .ok (.arraylength, 1) := by decide +kernel
theorem dAb_inflate_13 : decode prog_15_method_11_code 13 = .ok (.invokestatic 26, 3) := by decide +kernel
theorem dAb_inflate_16 : decode prog_15_method_11_code 16 = .ok (.astore_n 1, 1) := by decide +kernel
theorem dAb_inflate_17 : decode prog_15_method_11_code 17 = .ok (.aload_n 0, 1) := by decide +kernel
theorem dAb_inflate_18 : decode prog_15_method_11_code 18 = .ok (.getfield 15, 3) := by decide +kernel
theorem dAb_inflate_21 : decode prog_15_method_11_code 21 = .ok (.iconst 0, 1) := by decide +kernel
theorem dAb_inflate_22 : decode prog_15_method_11_code 22 = .ok (.aload_n 1, 1) := by decide +kernel
theorem dAb_inflate_23 : decode prog_15_method_11_code 23 = .ok (.iconst 0, 1) := by decide +kernel
theorem dAb_inflate_24 : decode prog_15_method_11_code 24 = .ok (.aload_n 0, 1) := by decide +kernel
theorem dAb_inflate_25 : decode prog_15_method_11_code 25 = .ok (.getfield 79, 3) := by decide +kernel
theorem dAb_inflate_28 : decode prog_15_method_11_code 28 = .ok (.invokestatic 125, 3) := by decide +kernel
theorem dAb_inflate_31 : decode prog_15_method_11_code 31 = .ok (.aload_n 0, 1) := by decide +kernel
theorem dAb_inflate_32 : decode prog_15_method_11_code 32 = .ok (.aload_n 1, 1) := by decide +kernel
theorem dAb_inflate_33 : decode prog_15_method_11_code 33 = .ok (.putfield 15, 3) := by decide +kernel
theorem dAb_inflate_36 : decode prog_15_method_11_code 36 = .ok (.aload_n 0, 1) := by decide +kernel
theorem dAb_inflate_37 : decode prog_15_method_11_code 37 = .ok (.iconst 1, 1) := by decide +kernel
theorem dAb_inflate_38 : decode prog_15_method_11_code 38 = .ok (.putfield 22, 3) := by decide +kernel
theorem dAb_inflate_41 : decode prog_15_method_11_code 41 = .ok (.return_, 1) := by decide +kernel
theorem dSb_setLength_0 : decode prog_21_method_89_code 0 = .ok (.aload_n 0, 1) := by decide +kernel
theorem dSb_setLength_1 : decode prog_21_method_89_code 1 = .ok (.iload_n 1, 1) := by decide +kernel
theorem dSb_setLength_2 : decode prog_21_method_89_code 2 = .ok (.invokespecial 333, 3) := by decide +kernel
theorem dSb_setLength_5 : decode prog_21_method_89_code 5 = .ok (.return_, 1) := by decide +kernel
theorem dAb_setLength_0 : decode prog_15_method_13_code 0 = .ok (.iload_n 1, 1) := by decide +kernel
theorem dAb_setLength_1 : decode prog_15_method_13_code 1 = .ok (.ifCond .ge 12, 3) := by decide +kernel
theorem dAb_setLength_7 : decode prog_15_method_13_code 7 = .ok (.dup, 1) := by decide +kernel
theorem dAb_setLength_8 : decode prog_15_method_13_code 8 = .ok (.iload_n 1, 1) := by decide +kernel
theorem dAb_setLength_13 : decode prog_15_method_13_code 13 = .ok (.aload_n 0, 1) := by decide +kernel
theorem dAb_setLength_14 : decode prog_15_method_13_code 14 = .ok (.iload_n 1, 1) := by decide +kernel
theorem dAb_setLength_15 : decode prog_15_method_13_code 15 = .ok (.invokevirtual 100, 3) := by decide +kernel
theorem dAb_setLength_18 : decode prog_15_method_13_code 18 = .ok (.aload_n 0, 1) := by decide +kernel
theorem dAb_setLength_19 : decode prog_15_method_13_code 19 = .ok (.getfield 79, 3) := by decide +kernel
theorem dAb_setLength_22 : decode prog_15_method_13_code 22 = .ok (.iload_n 1, 1) := by decide +kernel
theorem dAb_setLength_23 : decode prog_15_method_13_code 23 = .ok (.if_icmp .ge 40, 3) := by decide +kernel
theorem dAb_setLength_26 : decode prog_15_method_13_code 26 = .ok (.aload_n 0, 1) := by decide +kernel
theorem dAb_setLength_27 : decode prog_15_method_13_code 27 = .ok (.invokevirtual 83, 3) := by decide +kernel
theorem dAb_setLength_30 : decode prog_15_method_13_code 30 = .ok (.ifCond .eq 18, 3) := by decide +kernel
theorem dAb_setLength_33 : decode prog_15_method_13_code 33 = .ok (.aload_n 0, 1) := by decide +kernel
theorem dAb_setLength_34 : decode prog_15_method_13_code 34 = .ok (.getfield 15, 3) := by decide +kernel
theorem dAb_setLength_37 : decode prog_15_method_13_code 37 = .ok (.aload_n 0, 1) := by decide +kernel
theorem dAb_setLength_38 : decode prog_15_method_13_code 38 = .ok (.getfield 79, 3) := by decide +kernel
theorem dAb_setLength_41 : decode prog_15_method_13_code 41 = .ok (.iload_n 1, 1) := by decide +kernel
theorem dAb_setLength_42 : decode prog_15_method_13_code 42 = .ok (.invokestatic 133, 3) := by decide +kernel
theorem dAb_setLength_45 : decode prog_15_method_13_code 45 = .ok (.goto 31, 3) := by decide +kernel
theorem dAb_setLength_48 : decode prog_15_method_13_code 48 = .ok (.aload_n 0, 1) := by decide +kernel
theorem dAb_setLength_49 : decode prog_15_method_13_code 49 = .ok (.getfield 15, 3) := by decide +kernel
theorem dAb_setLength_52 : decode prog_15_method_13_code 52 = .ok (.aload_n 0, 1) := by decide +kernel
theorem dAb_setLength_53 : decode prog_15_method_13_code 53 = .ok (.getfield 79, 3) := by decide +kernel
theorem dAb_setLength_56 : decode prog_15_method_13_code 56 = .ok (.iload_n 1, 1) := by decide +kernel
theorem dAb_setLength_57 : decode prog_15_method_13_code 57 = .ok (.invokestatic 137, 3) := by decide +kernel
theorem dAb_setLength_60 : decode prog_15_method_13_code 60 = .ok (.goto 16, 3) := by decide +kernel
theorem dAb_setLength_63 : decode prog_15_method_13_code 63 = .ok (.aload_n 0, 1) := by decide +kernel
theorem dAb_setLength_64 : decode prog_15_method_13_code 64 = .ok (.getfield 79, 3) := by decide +kernel
theorem dAb_setLength_67 : decode prog_15_method_13_code 67 = .ok (.iload_n 1, 1) := by decide +kernel
theorem dAb_setLength_68 : decode prog_15_method_13_code 68 = .ok (.if_icmp .le 8, 3) := by decide +kernel
theorem dAb_setLength_71 : decode prog_15_method_13_code 71 = .ok (.aload_n 0, 1) := by decide +kernel
theorem dAb_setLength_72 : decode prog_15_method_13_code 72 = .ok (.iconst 1, 1) := by decide +kernel
theorem dAb_setLength_73 : decode prog_15_method_13_code 73 = .ok (.putfield 73, 3) := by decide +kernel
theorem dAb_setLength_76 : decode prog_15_method_13_code 76 = .ok (.aload_n 0, 1) := by decide +kernel
theorem dAb_setLength_77 : decode prog_15_method_13_code 77 = .ok (.iload_n 1, 1) := by decide +kernel
theorem dAb_setLength_78 : decode prog_15_method_13_code 78 = .ok (.putfield 79, 3) := by decide +kernel
theorem dAb_setLength_81 : decode prog_15_method_13_code 81 = .ok (.return_, 1) := by decide +kernel
theorem dSb_charAt_0 : decode prog_21_method_88_code 0 = .ok (.aload_n 0, 1) := by decide +kernel
theorem dSb_charAt_1 : decode prog_21_method_88_code 1 = .ok (.iload_n 1, 1) := by decide +kernel
theorem dSb_charAt_2 : decode prog_21_method_88_code 2 = .ok (.invokespecial 329, 3) := by decide +kernel
theorem dSb_charAt_5 : decode prog_21_method_88_code 5 = .ok (.ireturn, 1) := by decide +kernel
theorem dAb_charAt_0 : decode prog_15_method_14_code 0 = .ok (.aload_n 0, 1) := by decide +kernel
theorem dAb_charAt_1 : decode prog_15_method_14_code 1 = .ok (.getfield 22, 3) := by decide +kernel
theorem dAb_charAt_4 : decode prog_15_method_14_code 4 = .ok (.istore_n 2, 1) := by decide +kernel
theorem dAb_charAt_5 : decode prog_15_method_14_code 5 = .ok (.aload_n 0, 1) := by decide +kernel
theorem dAb_charAt_6 : decode prog_15_method_14_code 6 = .ok (.getfield 15, 3) := by decide +kernel
theorem dAb_charAt_9 : decode prog_15_method_14_code 9 = .ok (.astore_n 3, 1) := by decide +kernel
theorem dAb_charAt_10 : decode prog_15_method_14_code 10 = .ok (.aload_n 0, 1) := by decide +kernel
theorem dAb_charAt_11 : decode prog_15_method_14_code 11 = .ok (.getfield 79, 3) := by decide +kernel
theorem dAb_charAt_14 : decode prog_15_method_14_code 14 = .ok (.aload_n 3, 1) := by decide +kernel
theorem dAb_charAt_15 : decode prog_15_method_14_code 15 = .ok (.arraylength, 1) := by decide +kernel
theorem dAb_charAt_16 : decode prog_15_method_14_code 16 = .ok (.iload_n 2, 1) := by decide +kernel
theorem dAb_charAt_17 : decode prog_15_method_14_code 17 = .ok (.ishr, 1) := by decide +kernel
theorem dAb_charAt_18 : decode prog_15_method_14_code 18 = .ok (.invokestatic 138, 3) := by decide +kernel
theorem dAb_charAt_21 : decode prog_15_method_14_code 21 = .ok (.istore 4, 2) := by decide +kernel
theorem dAb_charAt_23 : decode prog_15_method_14_code 23 = .ok (.iload_n 1, 1) := by decide +kernel
theorem dAb_charAt_24 : decode prog_15_method_14_code 24 = .ok (.iload 4, 2) := by decide +kernel
theorem dAb_charAt_26 : decode prog_15_method_14_code 26 = .ok (.invokestatic 144, 3) := by decide +kernel
theorem dAb_charAt_29 : decode prog_15_method_14_code 29 = .ok (.iload_n 2, 1) := by decide +kernel
theorem dAb_charAt_30 : decode prog_15_method_14_code 30 = .ok (.ifCond .ne 12, 3) := by decide +kernel
theorem dAb_charAt_33 : decode prog_15_method_14_code 33 = .ok (.aload_n 3, 1) := by decide +kernel
theorem dAb_charAt_34 : decode prog_15_method_14_code 34 = .ok (.iload_n 1, 1) := by decide +kernel
theorem dAb_charAt_35 : decode prog_15_method_14_code 35 = .ok (.baload, 1) := by decide +kernel
theorem dAb_charAt_36 : decode prog_15_method_14_code 36 = .ok (.sipush 255, 3) := by decide +kernel
theorem dAb_charAt_39 : decode prog_15_method_14_code 39 = .ok (.iand, 1) := by decide +kernel
theorem dAb_charAt_40 : decode prog_15_method_14_code 40 = .ok (.i2c, 1) := by decide +kernel
theorem dAb_charAt_41 : decode prog_15_method_14_code 41 = .ok (.ireturn, 1) := by decide +kernel
theorem dAb_charAt_42 : decode prog_15_method_14_code 42 = .ok (.aload_n 3, 1) := by decide +kernel
theorem dAb_charAt_43 : decode prog_15_method_14_code 43 = .ok (.iload_n 1, 1) := by decide +kernel
theorem dAb_charAt_44 : decode prog_15_method_14_code 44 = .ok (.invokestatic 148, 3) := by decide +kernel
theorem dAb_charAt_47 : decode prog_15_method_14_code 47 = .ok (.ireturn, 1) := by decide +kernel
theorem dSb_toString_0 : decode prog_21_method_42_code 0 = .ok (.new 18, 3) := by decide +kernel
theorem dSb_toString_3 : decode prog_21_method_42_code 3 = .ok (.dup, 1) := by decide +kernel
theorem dSb_toString_4 : decode prog_21_method_42_code 4 = .ok (.aload_n 0, 1) := by decide +kernel
theorem dSb_toString_5 : decode prog_21_method_42_code 5 = .ok (.invokespecial 137, 3) := by decide +kernel
theorem dSb_toString_8 : decode prog_21_method_42_code 8 = .ok (.areturn, 1) := by decide +kernel
theorem dAb_getValue_0 : decode prog_15_method_64_code 0 = .ok (.aload_n 0, 1) := by decide +kernel
theorem dAb_getValue_1 : decode prog_15_method_64_code 1 = .ok (.getfield 15, 3) := by decide +kernel
theorem dAb_getValue_4 : decode prog_15_method_64_code 4 = .ok (.areturn, 1) := by decide +kernel
theorem dSb_append_1_0 : decode prog_21_method_7_code 0 = .ok (.aload_n 0, 1) := by decide +kernel
theorem dSb_append_1_1 : decode prog_21_method_7_code 1 = .ok (.aload_n 1, 1) := by decide +kernel
theorem dSb_append_1_2 : decode prog_21_method_7_code 2 = .ok (.invokespecial 29, 3) := by decide +kernel
theorem dSb_append_1_5 : decode prog_21_method_7_code 5 = .ok (.pop, 1) := by decide +kernel
theorem dSb_append_1_6 : decode prog_21_method_7_code 6 = .ok (.aload_n 0, 1) := by decide +kernel
theorem dSb_append_1_7 : decode prog_21_method_7_code 7 = .ok (.areturn, 1) := by decide +kernel
theorem dAb_append_1_0 : decode prog_15_method_22_code 0 = .ok (.aload_n 1, 1) := by decide +kernel
theorem dAb_append_1_1 : decode prog_15_method_22_code 1 = .ok (.ifnonnull 8, 3) := by decide +kernel
theorem dAb_append_1_4 : decode prog_15_method_22_code 4 = .ok (.aload_n 0, 1) := by decide +kernel
theorem dAb_append_1_5 : decode prog_15_method_22_code 5 = .ok (.invokevirtual 204, 3) := by decide +kernel
theorem dAb_append_1_8 : decode prog_15_method_22_code 8 = .ok (.areturn, 1) := by decide +kernel
theorem dAb_append_1_9 : decode prog_15_method_22_code 9 = .ok (.aload_n 1, 1) := by decide +kernel
theorem dAb_append_1_10 : decode prog_15_method_22_code 10 = .ok (.invokevirtual 32, 3) := by decide +kernel
theorem dAb_append_1_13 : decode prog_15_method_22_code 13 = .ok (.istore_n 2, 1) := by decide +kernel
theorem dAb_append_1_14 : decode prog_15_method_22_code 14 = .ok (.aload_n 0, 1) := by decide +kernel
theorem dAb_append_1_15 : decode prog_15_method_22_code 15 = .ok (.aload_n 0, 1) := by decide +kernel
theorem dAb_append_1_16 : decode prog_15_method_22_code 16 = .ok (.getfield 79, 3) := by decide +kernel
theorem dAb_append_1_19 : decode prog_15_method_22_code 19 = .ok (.iload_n 2, 1) := by decide +kernel
theorem dAb_append_1_20 : decode prog_15_method_22_code 20 = .ok (.iadd, 1) := by decide +kernel
theorem dAb_append_1_21 : decode prog_15_method_22_code 21 = .ok (.invokevirtual 100, 3) := by decide +kernel
theorem dAb_append_1_24 : decode prog_15_method_22_code 24 = .ok (.aload_n 0, 1) := by decide +kernel
theorem dAb_append_1_25 : decode prog_15_method_22_code 25 = .ok (.aload_n 0, 1) := by decide +kernel
theorem dAb_append_1_26 : decode prog_15_method_22_code 26 = .ok (.getfield 79, 3) := by decide +kernel
theorem dAb_append_1_29 : decode prog_15_method_22_code 29 = .ok (.aload_n 1, 1) := by decide +kernel
theorem dAb_append_1_30 : decode prog_15_method_22_code 30 = .ok (.invokevirtual 208, 3) := by decide +kernel
theorem dAb_append_1_33 : decode prog_15_method_22_code 33 = .ok (.aload_n 0, 1) := by decide +kernel
theorem dAb_append_1_34 : decode prog_15_method_22_code 34 = .ok (.dup, 1) := by decide +kernel
theorem dAb_append_1_35 : decode prog_15_method_22_code 35 = .ok (.getfield 79, 3) := by decide +kernel
theorem dAb_append_1_38 : decode prog_15_method_22_code 38 = .ok (.iload_n 2, 1) := by decide +kernel
theorem dAb_append_1_39 : decode prog_15_method_22_code 39 = .ok (.iadd, 1) := by decide +kernel
theorem dAb_append_1_40 : decode prog_15_method_22_code 40 = .ok (.putfield 79, 3) := by decide +kernel
theorem dAb_append_1_43 : decode prog_15_method_22_code 43 = .ok (.aload_n 0, 1) := by decide +kernel
theorem dAb_append_1_44 : decode prog_15_method_22_code 44 = .ok (.areturn, 1) := by decide +kernel
theorem dAb_appendNull_0 : decode prog_15_method_26_code 0 = .ok (.aload_n 0, 1) := by decide +kernel
theorem dAb_appendNull_1 : decode prog_15_method_26_code 1 = .ok (.aload_n 0, 1) := by decide +kernel
theorem dAb_appendNull_2 : decode prog_15_method_26_code 2 = .ok (.getfield 79, 3) := by decide +kernel
theorem dAb_appendNull_5 : decode prog_15_method_26_code 5 = .ok (.iconst 4, 1) := by decide +kernel
theorem dAb_appendNull_6 : decode prog_15_method_26_code 6 = .ok (.iadd, 1) := by decide +kernel
theorem dAb_appendNull_7 : decode prog_15_method_26_code 7 = .ok (.invokevirtual 100, 3) := by decide +kernel
theorem dAb_appendNull_10 : decode prog_15_method_26_code 10 = .ok (.aload_n 0, 1) := by decide +kernel
theorem dAb_appendNull_11 : decode prog_15_method_26_code 11 = .ok (.getfield 79, 3) := by decide +kernel
theorem dAb_appendNull_14 : decode prog_15_method_26_code 14 = .ok (.istore_n 1, 1) := by decide +kernel
theorem dAb_appendNull_15 : decode prog_15_method_26_code 15 = .ok (.aload_n 0, 1) := by decide +kernel
theorem dAb_appendNull_16 : decode prog_15_method_26_code 16 = .ok (.getfield 15, 3) := by decide +kernel
theorem dAb_appendNull_19 : decode prog_15_method_26_code 19 = .ok (.astore_n 2, 1) := by decide +kernel
theorem dAb_appendNull_20 : decode prog_15_method_26_code 20 = .ok (.aload_n 0, 1) := by decide +kernel
theorem dAb_appendNull_21 : decode prog_15_method_26_code 21 = .ok (.invokevirtual 83, 3) := by decide +kernel
theorem dAb_appendNull_24 : decode prog_15_method_26_code 24 = .ok (.ifCond .eq 38, 3) := by decide +kernel
theorem dAb_appendNull_27 : decode prog_15_method_26_code 27 = .ok (.aload_n 2, 1) := by decide +kernel
theorem dAb_appendNull_28 : decode prog_15_method_26_code 28 = .ok (.iload_n 1, 1) := by decide +kernel
theorem dAb_appendNull_29 : decode prog_15_method_26_code 29 = .ok (.iinc 1 1, 3) := by decide +kernel
theorem dAb_appendNull_32 : decode prog_15_method_26_code 32 = .ok (.bipush 110, 2) := by decide +kernel
theorem dAb_appendNull_34 : decode prog_15_method_26_code 34 = .ok (.bastore, 1) := by decide +kernel
theorem dAb_appendNull_35 : decode prog_15_method_26_code 35 = .ok (.aload_n 2, 1) := by decide +kernel
theorem dAb_appendNull_36 : decode prog_15_method_26_code 36 = .ok (.iload_n 1, 1) := by decide +kernel
theorem dAb_appendNull_37 : decode prog_15_method_26_code 37 = .ok (.iinc 1 1, 3) := by decide +kernel
theorem dAb_appendNull_40 : decode prog_15_method_26_code 40 = .ok (.bipush 117, 2) := by decide +kernel
theorem dAb_appendNull_42 : decode prog_15_method_26_code 42 = .ok (.bastore, 1) := by decide +kernel
theorem dAb_appendNull_43 : decode prog_15_method_26_code 43 = .ok (.aload_n 2, 1) := by decide +kernel
theorem dAb_appendNull_44 : decode prog_15_method_26_code 44 = .ok (.iload_n 1, 1) := by decide +kernel
theorem dAb_appendNull_45 : decode prog_15_method_26_code 45 = .ok (.iinc 1 1, 3) := by decide +kernel
theorem dAb_appendNull_48 : decode prog_15_method_26_code 48 = .ok (.bipush 108, 2) := by decide +kernel
theorem dAb_appendNull_50 : decode prog_15_method_26_code 50 = .ok (.bastore, 1) := by decide +kernel
theorem dAb_appendNull_51 : decode prog_15_method_26_code 51 = .ok (.aload_n 2, 1) := by decide +kernel
theorem dAb_appendNull_52 : decode prog_15_method_26_code 52 = .ok (.iload_n 1, 1) := by decide +kernel
theorem dAb_appendNull_53 : decode prog_15_method_26_code 53 = .ok (.iinc 1 1, 3) := by decide +kernel
theorem dAb_appendNull_56 : decode prog_15_method_26_code 56 = .ok (.bipush 108, 2) := by decide +kernel
theorem dAb_appendNull_58 : decode prog_15_method_26_code 58 = .ok (.bastore, 1) := by decide +kernel
theorem dAb_appendNull_59 : decode prog_15_method_26_code 59 = .ok (.goto 17, 3) := by decide +kernel
theorem dAb_appendNull_62 : decode prog_15_method_26_code 62 = .ok (.aload_n 2, 1) := by decide +kernel
theorem dAb_appendNull_63 : decode prog_15_method_26_code 63 = .ok (.iload_n 1, 1) := by decide +kernel
theorem dAb_appendNull_64 : decode prog_15_method_26_code 64 = .ok (.bipush 110, 2) := by decide +kernel
theorem dAb_appendNull_66 : decode prog_15_method_26_code 66 = .ok (.bipush 117, 2) := by decide +kernel
theorem dAb_appendNull_68 : decode prog_15_method_26_code 68 = .ok (.bipush 108, 2) := by decide +kernel
theorem dAb_appendNull_70 : decode prog_15_method_26_code 70 = .ok (.bipush 108, 2) := by decide +kernel
theorem dAb_appendNull_72 : decode prog_15_method_26_code 72 = .ok (.invokestatic 226, 3) := by decide +kernel
theorem dAb_appendNull_75 : decode prog_15_method_26_code 75 = .ok (.istore_n 1, 1) := by decide +kernel
theorem dAb_appendNull_76 : decode prog_15_method_26_code 76 = .ok (.aload_n 0, 1) := by decide +kernel
theorem dAb_appendNull_77 : decode prog_15_method_26_code 77 = .ok (.iload_n 1, 1) := by decide +kernel
theorem dAb_appendNull_78 : decode prog_15_method_26_code 78 = .ok (.putfield 79, 3) := by decide +kernel
theorem dAb_appendNull_81 : decode prog_15_method_26_code 81 = .ok (.aload_n 0, 1) := by decide +kernel
theorem dAb_appendNull_82 : decode prog_15_method_26_code 82 = .ok (.areturn, 1) := by decide +kernel
theorem dAb_putStringAt_0 : decode prog_15_method_73_code 0 = .ok (.aload_n 0, 1) := by decide +kernel
theorem dAb_putStringAt_1 : decode prog_15_method_73_code 1 = .ok (.aload_n 2, 1) := by decide +kernel
theorem dAb_putStringAt_2 : decode prog_15_method_73_code 2 = .ok (.invokevirtual 397, 3) := by decide +kernel
theorem dAb_putStringAt_5 : decode prog_15_method_73_code 5 = .ok (.aload_n 2, 1) := by decide +kernel
theorem dAb_putStringAt_6 : decode prog_15_method_73_code 6 = .ok (.aload_n 0, 1) := by decide +kernel
theorem dAb_putStringAt_7 : decode prog_15_method_73_code 7 = .ok (.getfield 15, 3) := by decide +kernel
theorem dAb_putStringAt_10 : decode prog_15_method_73_code 10 = .ok (.iload_n 1, 1) := by decide +kernel
theorem dAb_putStringAt_11 : decode prog_15_method_73_code 11 = .ok (.aload_n 0, 1) := by decide +kernel
theorem dAb_putStringAt_12 : decode prog_15_method_73_code 12 = .ok (.getfield 22, 3) := by decide +kernel
theorem dAb_putStringAt_15 : decode prog_15_method_73_code 15 = .ok (.invokevirtual 399, 3) := by decide +kernel
theorem dAb_putStringAt_18 : decode prog_15_method_73_code 18 = .ok (.return_, 1) := by decide +kernel
theorem dAb_inflateIfNeededFor_0 : decode prog_15_method_71_code 0 = .ok (.getstatic 18, 3) := by decide +kernel
theorem dAb_inflateIfNeededFor_3 : decode prog_15_method_71_code 3 = .ok (.ifCond .eq 18, 3) := by decide +kernel
theorem dAb_inflateIfNeededFor_6 : decode prog_15_method_71_code 6 = .ok (.aload_n 0, 1) := by decide +kernel
theorem dAb_inflateIfNeededFor_7 : decode prog_15_method_71_code 7 = .ok (.getfield 22, 3) := by decide +kernel
theorem dAb_inflateIfNeededFor_10 : decode prog_15_method_71_code 10 = .ok (.aload_n 1, 1) := by decide +kernel
theorem dAb_inflateIfNeededFor_11 : decode prog_15_method_71_code 11 = .ok (.invokevirtual 40, 3) := by decide +kernel
theorem dAb_inflateIfNeededFor_14 : decode prog_15_method_71_code 14 = .ok (.if_icmp .eq 7, 3) := by decide +kernel
theorem dAb_inflateIfNeededFor_17 : decode prog_15_method_71_code 17 = .ok (.aload_n 0, 1) := by decide +kernel
theorem dAb_inflateIfNeededFor_18 : decode prog_15_method_71_code 18 = .ok (.invokevirtual 195, 3) := by decide +kernel
theorem dAb_inflateIfNeededFor_21 : decode prog_15_method_71_code 21 = .ok (.return_, 1) := by decide +kernel
theorem zk_Sb_1 : zLkI "java/lang/StringBuilder" 1 M_Ab_init 1 := ⟨zc_Ab_init, rfl, rfl, zt1 42 rfl, Or.inl (zt1 41 rfl)⟩
theorem zf_Ab_15 : zFl "java/lang/AbstractStringBuilder" 15 1 0 := ⟨_, _, _, "java/lang/AbstractStringBuilder", rfl, Nat.le_of_ble_eq_true rfl, in_Sb, Or.inl (zt1 54 rfl), Or.inl rfl⟩
theorem zp_Ab_init_15 : zPf M_Ab_init 15 1 0 (.array .byte) := ⟨zf_Ab_15, _, _, _, ty_Sb, rfl, tyok_Sb, nm_Sb, rfl, Or.inl rfl⟩
theorem zf_Ab_22 : zFl "java/lang/AbstractStringBuilder" 22 1 1 := ⟨_, _, _, "java/lang/AbstractStringBuilder", rfl, Nat.le_of_ble_eq_true rfl, in_Sb, Or.inl (zt1 55 rfl), Or.inl rfl⟩
theorem zp_Ab_init_22 : zPf M_Ab_init 22 1 1 .byte := ⟨zf_Ab_22, _, _, _, ty_Sb, rfl, tyok_Sb, nm_Sb, rfl, Or.inl rfl⟩
theorem zk_Ab_26 : zLkS "java/lang/AbstractStringBuilder" 26 M_U16_newBytesFor 1 := ⟨zc_U16_newBytesFor, zt1 48 rfl, Or.inl (zt1 47 rfl)⟩
theorem zk_Sb_343 : zLkSU "java/lang/StringBuilder" 343 1 M_Ab_length 0 := ⟨zc_Ab_length, ⟨_, _, _, rfl⟩, zt2 32 rfl, zt6 151 rfl, zt1 67 rfl, zt2 33 rfl, by decide +kernel⟩
theorem zf_Ab_79 : zFl "java/lang/AbstractStringBuilder" 79 1 3 := ⟨_, _, _, "java/lang/AbstractStringBuilder", rfl, Nat.le_of_ble_eq_true rfl, in_Sb, Or.inl (zt1 58 rfl), Or.inl rfl⟩
theorem zk_Sb_50 : zLkSU "java/lang/StringBuilder" 50 1 M_Ab_append_0 1 := ⟨zc_Ab_append_0, ⟨_, _, _, rfl⟩, zt2 43 rfl, zt6 152 rfl, zt1 67 rfl, zt2 44 rfl, by decide +kernel⟩
theorem zk_Ab_100 : zLkV "java/lang/AbstractStringBuilder" 100 1 M_Ab_ensureCapacityInternal 1 := ⟨zc_Ab_ensureCapacityInternal, ⟨_, _, _, rfl, Or.inr ⟨zt2 47 rfl, zt6 153 rfl⟩⟩, zt2 48 rfl, Or.inl (zt2 46 rfl)⟩
theorem zk_Ab_83 : zLkV "java/lang/AbstractStringBuilder" 83 1 M_Ab_isLatin1 0 := ⟨zc_Ab_isLatin1, ⟨_, _, _, rfl, Or.inl (zt2 84 rfl)⟩, zt2 82 rfl, Or.inl (zt2 81 rfl)⟩
theorem zk_Ab_191 : zLkS "java/lang/AbstractStringBuilder" 191 M_L1_canEncode_0 1 := ⟨zc_L1_canEncode_0, zt2 87 rfl, Or.inl (zt2 86 rfl)⟩
theorem zp_Ab_append_0_79 : zPf M_Ab_append_0 79 1 3 .int := ⟨zf_Ab_79, _, _, _, ty_Sb, rfl, tyok_Sb, nm_Sb, rfl, Or.inl rfl⟩
theorem zk_Ab_195 : zLkV "java/lang/AbstractStringBuilder" 195 1 M_Ab_inflate 0 := ⟨zc_Ab_inflate, ⟨_, _, _, rfl, Or.inr ⟨zt2 90 rfl, zt6 155 rfl⟩⟩, zt2 91 rfl, Or.inl (zt2 89 rfl)⟩
theorem zk_Ab_197 : zLkS "java/lang/AbstractStringBuilder" 197 M_U16_putCharSB 3 := ⟨zc_U16_putCharSB, zt2 123 rfl, Or.inl (zt2 122 rfl)⟩
theorem zk_Ab_104 : zLkV "java/lang/AbstractStringBuilder" 104 1 M_Ab_newCapacity 1 := ⟨zc_Ab_newCapacity, ⟨_, _, _, rfl, Or.inr ⟨zt2 51 rfl, zt6 154 rfl⟩⟩, zt2 52 rfl, Or.inl (zt2 50 rfl)⟩
theorem zk_Ab_108 : zLkS "java/lang/AbstractStringBuilder" 108 M_Ar_copyOf_0 2 := ⟨zc_Ar_copyOf_0, zt2 66 rfl, Or.inl (zt2 65 rfl)⟩
theorem zp_Ab_ensureCapacityInternal_15 : zPf M_Ab_ensureCapacityInternal 15 1 0 (.array .byte) := ⟨zf_Ab_15, _, _, _, ty_Sb, rfl, tyok_Sb, nm_Sb, rfl, Or.inl rfl⟩
theorem zk_Ab_114 : zLkS "java/lang/AbstractStringBuilder" 114 M_AS_newLength 3 := ⟨zc_AS_newLength, zt2 55 rfl, Or.inl (zt2 54 rfl)⟩
theorem zk_Ab_125 : zLkS "java/lang/AbstractStringBuilder" 125 M_L1_inflate 5 := ⟨zc_L1_inflate, zt2 94 rfl, Or.inl (zt2 93 rfl)⟩
theorem zp_Ab_inflate_15 : zPf M_Ab_inflate 15 1 0 (.array .byte) := ⟨zf_Ab_15, _, _, _, ty_Sb, rfl, tyok_Sb, nm_Sb, rfl, Or.inl rfl⟩
theorem zp_Ab_inflate_22 : zPf M_Ab_inflate 22 1 1 .byte := ⟨zf_Ab_22, _, _, _, ty_Sb, rfl, tyok_Sb, nm_Sb, rfl, Or.inl rfl⟩
theorem zk_Sb_333 : zLkSU "java/lang/StringBuilder" 333 1 M_Ab_setLength 1 := ⟨zc_Ab_setLength, ⟨_, _, _, rfl⟩, zt2 142 rfl, zt6 156 rfl, zt1 67 rfl, zt2 143 rfl, by decide +kernel⟩
theorem zk_Ab_133 : zLkS "java/lang/AbstractStringBuilder" 133 M_L1_fillNull 3 := ⟨zc_L1_fillNull, zt2 146 rfl, Or.inl (zt2 145 rfl)⟩
theorem zp_Ab_setLength_79 : zPf M_Ab_setLength 79 1 3 .int := ⟨zf_Ab_79, _, _, _, ty_Sb, rfl, tyok_Sb, nm_Sb, rfl, Or.inl rfl⟩
theorem zk_Ab_137 : zLkS "java/lang/AbstractStringBuilder" 137 M_U16_fillNull 3 := ⟨zc_U16_fillNull, zt2 155 rfl, Or.inl (zt2 154 rfl)⟩
theorem zf_Ab_73 : zFl "java/lang/AbstractStringBuilder" 73 1 2 := ⟨_, _, _, "java/lang/AbstractStringBuilder", rfl, Nat.le_of_ble_eq_true rfl, in_Sb, Or.inl (zt1 56 rfl), Or.inl rfl⟩
theorem zp_Ab_setLength_73 : zPf M_Ab_setLength 73 1 2 .boolean := ⟨zf_Ab_73, _, _, _, ty_Sb, rfl, tyok_Sb, nm_Sb, rfl, Or.inl rfl⟩
theorem zk_Sb_329 : zLkSU "java/lang/StringBuilder" 329 1 M_Ab_charAt 1 := ⟨zc_Ab_charAt, ⟨_, _, _, rfl⟩, zt2 166 rfl, zt6 157 rfl, zt1 67 rfl, zt2 167 rfl, by decide +kernel⟩
theorem zk_Ab_138 : zLkS "java/lang/AbstractStringBuilder" 138 M_Ma_min 2 := ⟨zc_Ma_min, zt2 76 rfl, Or.inl (zt2 169 rfl)⟩
theorem zk_Ab_144 : zLkS "java/lang/AbstractStringBuilder" 144 M_St_checkIndex 2 := ⟨zc_St_checkIndex, zt2 129 rfl, Or.inl (zt2 170 rfl)⟩
theorem zk_Ab_148 : zLkS "java/lang/AbstractStringBuilder" 148 M_U16_getChar 2 := ⟨zc_U16_getChar, zt2 172 rfl, Or.inl (zt2 171 rfl)⟩
theorem zn_Sb_toString_18 : zNf M_Sb_toString 18 8 4 [.null, .int 0, .int 0, .int 0] := ⟨_, _, _, ty_St, rfl, in_St, tyok_St, zt2 186 rfl, zt2 187 rfl, zt1 4 rfl, Nat.le_of_ble_eq_true rfl, zDf_St⟩
theorem zk_Sb_137 : zLkI "java/lang/StringBuilder" 137 M_St_init_0 1 := ⟨zc_St_init_0, rfl, rfl, zt2 189 rfl, Or.inl (zt2 188 rfl)⟩
theorem zk_Sb_29 : zLkSU "java/lang/StringBuilder" 29 1 M_Ab_append_1 1 := ⟨zc_Ab_append_1, ⟨_, _, _, rfl⟩, zt3 177 rfl, zt6 159 rfl, zt1 67 rfl, zt3 178 rfl, by decide +kernel⟩
theorem zk_Ab_204 : zLkV "java/lang/AbstractStringBuilder" 204 1 M_Ab_appendNull 0 := ⟨zc_Ab_appendNull, ⟨_, _, _, rfl, Or.inr ⟨zt3 181 rfl, zt6 160 rfl⟩⟩, zt3 182 rfl, Or.inl (zt3 180 rfl)⟩
theorem zk_Ab_32 : zLkV "java/lang/AbstractStringBuilder" 32 8 M_St_length 0 := ⟨zc_St_length, ⟨_, _, _, rfl, Or.inl (zt2 239 rfl)⟩, zt2 238 rfl, Or.inl (zt3 187 rfl)⟩
theorem zk_Ab_208 : zLkV "java/lang/AbstractStringBuilder" 208 1 M_Ab_putStringAt 2 := ⟨zc_Ab_putStringAt, ⟨_, _, _, rfl, Or.inr ⟨zt3 189 rfl, zt6 161 rfl⟩⟩, zt3 190 rfl, Or.inl (zt3 188 rfl)⟩
theorem zp_Ab_append_1_79 : zPf M_Ab_append_1 79 1 3 .int := ⟨zf_Ab_79, _, _, _, ty_Sb, rfl, tyok_Sb, nm_Sb, rfl, Or.inl rfl⟩
theorem zp_Ab_appendNull_79 : zPf M_Ab_appendNull 79 1 3 .int := ⟨zf_Ab_79, _, _, _, ty_Sb, rfl, tyok_Sb, nm_Sb, rfl, Or.inl rfl⟩
theorem zk_Ab_226 : zLkS "java/lang/AbstractStringBuilder" 226 M_U16_putCharsAt 6 := ⟨zc_U16_putCharsAt, zt3 185 rfl, Or.inl (zt3 184 rfl)⟩
theorem zk_Ab_397 : zLkV "java/lang/AbstractStringBuilder" 397 1 M_Ab_inflateIfNeededFor 1 := ⟨zc_Ab_inflateIfNeededFor, ⟨_, _, _, rfl, Or.inr ⟨zt3 193 rfl, zt6 162 rfl⟩⟩, zt3 194 rfl, Or.inl (zt3 192 rfl)⟩
theorem zk_Ab_399 : zLkV "java/lang/AbstractStringBuilder" 399 8 M_St_getBytes 3 := ⟨zc_St_getBytes, ⟨_, _, _, rfl, Or.inl (zt3 199 rfl)⟩, zt3 198 rfl, Or.inl (zt3 197 rfl)⟩
theorem zk_Ab_40 : zLkV "java/lang/AbstractStringBuilder" 40 8 M_St_coder 0 := ⟨zc_St_coder, ⟨_, _, _, rfl, Or.inl (zt3 3 rfl)⟩, zt3 2 rfl, Or.inl (zt3 196 rfl)⟩
theorem sSb_init_0 {G : zG} {d : Nat} {Q : Option Value → Heap → Prop} {H : Heap} {st : List Value} {a0 : Nat} {P : Heap → Prop} (hd : 1 ≤ d) (hl : st.length ≤ 4) (hc : zC G (d - 1) M_Ab_init [(.ref a0), (.int (16 : Int32))] H (zPv P)) (kk : ∀ H1 : Heap, P H1 → zOk G H1 → H.size ≤ H1.size → zT H ≤ zT H1 → zW G d M_Sb_init 6 [some (.ref a0)] st H1 Q) : zW G d M_Sb_init 0 [some (.ref a0)] st H Q :=
  zw_aload_n (i := 0) dSb_init_0 rfl rfl zRf_ref <| zw_bipush (16 : Int32) dSb_init_1 zkb_16 <| zw_callI [(.int (16 : Int32))] _ dSb_init_3 hd zk_Sb_1 rfl rfl hl hc (zPv_k kk)
theorem sSb_init_6 {G : zG} {d : Nat} {Q : Option Value → Heap → Prop} {H : Heap} {o0 : Option Value} (hq : Q none H) : zW G d M_Sb_init 6 [o0] [] H Q :=
  zw_vret dSb_init_6 rfl hq
theorem sAb_init_0 {G : zG} {d : Nat} {Q : Option Value → Heap → Prop} {H : Heap} {st : List Value} {o1 : Option Value} {a0 : Nat} (hd : 1 ≤ d) (hl : st.length ≤ 4) (kk : zW G d M_Ab_init 4 [some (.ref a0), o1] st H Q) : zW G d M_Ab_init 0 [some (.ref a0), o1] st H Q :=
  zw_aload_n (i := 0) dAb_init_0 rfl rfl zRf_ref <| zw_objInit dAb_init_1 hd (zt1 44 rfl) zo_inst zo_code hl kk
theorem sAb_init_4 {G : zG} {d : Nat} {Q : Option Value → Heap → Prop} {H : Heap} {st : List Value} {o0 : Option Value} {o1 : Option Value} (hz1 : va_Z "java/lang/String" "COMPACT_STRINGS" "Z" (.int 1) (zFr G) (zS G) (zS G).heap) (kt : ((1 : Int32) = 0) → zW G d M_Ab_init 25 [o0, o1] st H Q) (kf : (¬ (1 : Int32) = 0) → zW G d M_Ab_init 10 [o0, o1] st H Q) : zW G d M_Ab_init 4 [o0, o1] st H Q :=
  zw_gets dAb_init_4 hz1 (zt1 45 rfl) (Or.inl rfl) <| zw_if_eq 25 dAb_init_7 (by decide) kt kf
theorem sAb_init_10 {G : zG} {d : Nat} {Q : Option Value → Heap → Prop} {H : Heap} {st : List Value} {v0 : Value} {x1 : Int32} {N : Nat} (hr0 : zRf v0 := by first | exact zRf_ref | exact zRf_null | exact zRf_rf _ | assumption) (hn : ¬ x1 < 0) (hN : (x1).toNatClampNeg = N) (hb : N * componentBytes .byte ≤ 536870912) (hc1 : H.size + 1 ≤ zCp G) (hs1 : zT H + N ≤ zSp G) (kk : ∀ H1 : Heap, zArr G H1 H.size .byte N (fun _ => defaultValue .byte) → zNw N H H1 → zW G d M_Ab_init 14 [some v0, some (.int x1)] ((.ref H.size) :: v0 :: st) H1 Q) : zW G d M_Ab_init 10 [some v0, some (.int x1)] st H Q :=
  zw_aload_n (i := 0) dAb_init_10 rfl rfl hr0 <| zw_iload_n (i := 1) dAb_init_11 rfl rfl <| zw_newa .byte dAb_init_12 rfl (zt1 68 rfl) hn hN hb hc1 hs1 kk
theorem sAb_init_14 {G : zG} {d : Nat} {Q : Option Value → Heap → Prop} {H : Heap} {st : List Value} {o0 : Option Value} {o1 : Option Value} {vs0 : Value} {as1 : Nat} {b0 : Value} {b1 : Value} {b2 : Value} {b3 : Value} (hrs0 : zRf vs0 := by first | exact zRf_ref | exact zRf_null | exact zRf_rf _ | assumption) (ho : zObj G H as1 1 [b0, b1, b2, b3]) (hw : zFr G as1) (kk : ∀ H1 : Heap, zObj G H1 as1 1 [vs0, b1, b2, b3] → zUp as1 H H1 → zW G d M_Ab_init 17 [o0, o1] st H1 Q) : zW G d M_Ab_init 14 [o0, o1] (vs0 :: (.ref as1) :: st) H Q :=
  zw_putf (k := 0) dAb_init_14 zp_Ab_init_15 ho (Nat.le_of_ble_eq_true rfl) (Nat.le_of_ble_eq_true rfl) hw (zNarA hrs0) (zFitA hrs0) kk
theorem sAb_init_17 {G : zG} {d : Nat} {Q : Option Value → Heap → Prop} {H : Heap} {st : List Value} {o1 : Option Value} {a0 : Nat} {b0 : Value} {b1 : Value} {b2 : Value} {b3 : Value} (ho : zObj G H a0 1 [b0, b1, b2, b3]) (hw : zFr G a0) (hn : narrow .byte (.int (0 : Int32)) = (.int (0 : Int32))) (hfit : fits .byte (.int (0 : Int32)) = true) (kk : ∀ H1 : Heap, zObj G H1 a0 1 [b0, (.int (0 : Int32)), b2, b3] → zUp a0 H H1 → zW G d M_Ab_init 22 [some (.ref a0), o1] st H1 Q) : zW G d M_Ab_init 17 [some (.ref a0), o1] st H Q :=
  zw_aload_n (i := 0) dAb_init_17 rfl rfl zRf_ref <| zw_iconst (0 : Int32) dAb_init_18 zki_0 <| zw_putf (k := 1) dAb_init_19 zp_Ab_init_22 ho (Nat.le_of_ble_eq_true rfl) (Nat.le_of_ble_eq_true rfl) hw hn hfit kk
theorem sAb_init_22 {G : zG} {d : Nat} {Q : Option Value → Heap → Prop} {H : Heap} {o0 : Option Value} {o1 : Option Value} (hq : Q none H) : zW G d M_Ab_init 22 [o0, o1] [] H Q :=
  zw_goto 38 dAb_init_22 (by decide) <| zw_vret dAb_init_38 rfl hq
theorem sAb_init_25 {G : zG} {d : Nat} {Q : Option Value → Heap → Prop} {H : Heap} {st : List Value} {v0 : Value} {x1 : Int32} {P : Value → Heap → Prop} (hr0 : zRf v0 := by first | exact zRf_ref | exact zRf_null | exact zRf_rf _ | assumption) (hd : 1 ≤ d) (hl : (v0 :: st).length ≤ 4) (hc : zC G (d - 1) M_U16_newBytesFor [(.int x1)] H (zPr P)) (kk : ∀ (r : Value) (H1 : Heap), zRf r → P r H1 → zOk G H1 → H.size ≤ H1.size → zT H ≤ zT H1 → zW G d M_Ab_init 30 [some v0, some (.int x1)] (r :: v0 :: st) H1 Q) : zW G d M_Ab_init 25 [some v0, some (.int x1)] st H Q :=
  zw_aload_n (i := 0) dAb_init_25 rfl rfl hr0 <| zw_iload_n (i := 1) dAb_init_26 rfl rfl <| zw_callS [(.int x1)] _ dAb_init_27 hd zk_Ab_26 rfl rfl hl hc (zPr_k kk)
theorem sAb_init_30 {G : zG} {d : Nat} {Q : Option Value → Heap → Prop} {H : Heap} {st : List Value} {o0 : Option Value} {o1 : Option Value} {vs0 : Value} {as1 : Nat} {b0 : Value} {b1 : Value} {b2 : Value} {b3 : Value} (hrs0 : zRf vs0 := by first | exact zRf_ref | exact zRf_null | exact zRf_rf _ | assumption) (ho : zObj G H as1 1 [b0, b1, b2, b3]) (hw : zFr G as1) (kk : ∀ H1 : Heap, zObj G H1 as1 1 [vs0, b1, b2, b3] → zUp as1 H H1 → zW G d M_Ab_init 33 [o0, o1] st H1 Q) : zW G d M_Ab_init 30 [o0, o1] (vs0 :: (.ref as1) :: st) H Q :=
  zw_putf (k := 0) dAb_init_30 zp_Ab_init_15 ho (Nat.le_of_ble_eq_true rfl) (Nat.le_of_ble_eq_true rfl) hw (zNarA hrs0) (zFitA hrs0) kk
theorem sAb_init_33 {G : zG} {d : Nat} {Q : Option Value → Heap → Prop} {H : Heap} {st : List Value} {o1 : Option Value} {a0 : Nat} {b0 : Value} {b1 : Value} {b2 : Value} {b3 : Value} (ho : zObj G H a0 1 [b0, b1, b2, b3]) (hw : zFr G a0) (hn : narrow .byte (.int (1 : Int32)) = (.int (1 : Int32))) (hfit : fits .byte (.int (1 : Int32)) = true) (kk : ∀ H1 : Heap, zObj G H1 a0 1 [b0, (.int (1 : Int32)), b2, b3] → zUp a0 H H1 → zW G d M_Ab_init 38 [some (.ref a0), o1] st H1 Q) : zW G d M_Ab_init 33 [some (.ref a0), o1] st H Q :=
  zw_aload_n (i := 0) dAb_init_33 rfl rfl zRf_ref <| zw_iconst (1 : Int32) dAb_init_34 zki_1 <| zw_putf (k := 1) dAb_init_35 zp_Ab_init_22 ho (Nat.le_of_ble_eq_true rfl) (Nat.le_of_ble_eq_true rfl) hw hn hfit kk
theorem sAb_init_38 {G : zG} {d : Nat} {Q : Option Value → Heap → Prop} {H : Heap} {o0 : Option Value} {o1 : Option Value} (hq : Q none H) : zW G d M_Ab_init 38 [o0, o1] [] H Q :=
  zw_vret dAb_init_38 rfl hq
theorem sSb_length_0 {G : zG} {d : Nat} {Q : Option Value → Heap → Prop} {H : Heap} {st : List Value} {a0 : Nat} {P : Int32 → Heap → Prop} (hd : 1 ≤ d) (hl : st.length ≤ 4) (ho : zIs G H a0 1) (hc : zC G (d - 1) M_Ab_length [(.ref a0)] H (zPi P)) (kk : ∀ (r : Int32) (H1 : Heap), P r H1 → zOk G H1 → H.size ≤ H1.size → zT H ≤ zT H1 → zW G d M_Sb_length 4 [some (.ref a0)] ((.int r) :: st) H1 Q) : zW G d M_Sb_length 0 [some (.ref a0)] st H Q :=
  zw_aload_n (i := 0) dSb_length_0 rfl rfl zRf_ref <| zw_callSU [] _ dSb_length_1 hd zk_Sb_343 ho rfl rfl hl hc (zPi_k kk)
theorem sSb_length_4 {G : zG} {d : Nat} {Q : Option Value → Heap → Prop} {H : Heap} {o0 : Option Value} {xs0 : Int32} (hq : Q (some (.int xs0)) H) : zW G d M_Sb_length 4 [o0] ((.int xs0) :: []) H Q :=
  zw_iret dSb_length_4 .int rfl rfl hq
theorem sAb_length_0 {G : zG} {d : Nat} {Q : Option Value → Heap → Prop} {H : Heap} {a0 : Nat} {xf1 : Int32} (hf1 : zFd G H a0 1 3 (.int xf1)) (hq : Q (some (.int xf1)) H) : zW G d M_Ab_length 0 [some (.ref a0)] [] H Q :=
  zw_aload_n (i := 0) dAb_length_0 rfl rfl zRf_ref <| zw_getf dAb_length_1 zf_Ab_79 hf1 <| zw_iret dAb_length_4 .int rfl rfl hq
theorem sSb_append_0_0 {G : zG} {d : Nat} {Q : Option Value → Heap → Prop} {H : Heap} {st : List Value} {a0 : Nat} {x1 : Int32} {P : Value → Heap → Prop} (hd : 1 ≤ d) (hl : st.length ≤ 4) (ho : zIs G H a0 1) (hc : zC G (d - 1) M_Ab_append_0 [(.ref a0), (.int x1)] H (zPr P)) (kk : ∀ (r : Value) (H1 : Heap), zRf r → P r H1 → zOk G H1 → H.size ≤ H1.size → zT H ≤ zT H1 → zW G d M_Sb_append_0 5 [some (.ref a0), some (.int x1)] (r :: st) H1 Q) : zW G d M_Sb_append_0 0 [some (.ref a0), some (.int x1)] st H Q :=
  zw_aload_n (i := 0) dSb_append_0_0 rfl rfl zRf_ref <| zw_iload_n (i := 1) dSb_append_0_1 rfl rfl <| zw_callSU [(.int x1)] _ dSb_append_0_2 hd zk_Sb_50 ho rfl rfl hl hc (zPr_k kk)
theorem sSb_append_0_5 {G : zG} {d : Nat} {Q : Option Value → Heap → Prop} {H : Heap} {o1 : Option Value} {ws0 : Value} {v0 : Value} (hcs0 : ws0.category = 1 := by first | rfl | exact zRf.cat (by assumption)) (hr0 : zRf v0 := by first | exact zRf_ref | exact zRf_null | exact zRf_rf _ | assumption) (hq : Q (some v0) H) : zW G d M_Sb_append_0 5 [some v0, o1] (ws0 :: []) H Q :=
  zw_pop dSb_append_0_5 hcs0 <| zw_aload_n (i := 0) dSb_append_0_6 rfl rfl hr0 <| zw_aret dSb_append_0_7 (.object "java/lang/StringBuilder") rfl (Or.inl ⟨_, rfl⟩) hr0 hq
theorem sAb_append_0_0 {G : zG} {d : Nat} {Q : Option Value → Heap → Prop} {H : Heap} {st : List Value} {o1 : Option Value} {a0 : Nat} {xf1 : Int32} {P : Heap → Prop} (hf1 : zFd G H a0 1 3 (.int xf1)) (hd : 1 ≤ d) (hl : st.length ≤ 4) (ho : zIs G H a0 1) (hc : zC G (d - 1) M_Ab_ensureCapacityInternal [(.ref a0), (.int (xf1 + (1 : Int32)))] H (zPv P)) (kk : ∀ H1 : Heap, P H1 → zOk G H1 → H.size ≤ H1.size → zT H ≤ zT H1 → zW G d M_Ab_append_0 10 [some (.ref a0), o1] st H1 Q) : zW G d M_Ab_append_0 0 [some (.ref a0), o1] st H Q :=
  zw_aload_n (i := 0) dAb_append_0_0 rfl rfl zRf_ref <| zw_aload_n (i := 0) dAb_append_0_1 rfl rfl zRf_ref <| zw_getf dAb_append_0_2 zf_Ab_79 hf1 <| zw_iconst (1 : Int32) dAb_append_0_5 zki_1 <| zw_iadd dAb_append_0_6 <| zw_callV [(.int (xf1 + (1 : Int32)))] _ dAb_append_0_7 hd zk_Ab_100 ho rfl rfl hl hc (zPv_k kk)
theorem sAb_append_0_10 {G : zG} {d : Nat} {Q : Option Value → Heap → Prop} {H : Heap} {st : List Value} {o1 : Option Value} {a0 : Nat} {P : Int32 → Heap → Prop} (hd : 1 ≤ d) (hl : st.length ≤ 4) (ho : zIs G H a0 1) (hc : zC G (d - 1) M_Ab_isLatin1 [(.ref a0)] H (zPi P)) (kk : ∀ (r : Int32) (H1 : Heap), P r H1 → zOk G H1 → H.size ≤ H1.size → zT H ≤ zT H1 → zW G d M_Ab_append_0 14 [some (.ref a0), o1] ((.int r) :: st) H1 Q) : zW G d M_Ab_append_0 10 [some (.ref a0), o1] st H Q :=
  zw_aload_n (i := 0) dAb_append_0_10 rfl rfl zRf_ref <| zw_callV [] _ dAb_append_0_11 hd zk_Ab_83 ho rfl rfl hl hc (zPi_k kk)
theorem sAb_append_0_14 {G : zG} {d : Nat} {Q : Option Value → Heap → Prop} {H : Heap} {st : List Value} {o0 : Option Value} {o1 : Option Value} {xs0 : Int32} (kt : (xs0 = 0) → zW G d M_Ab_append_0 45 [o0, o1] st H Q) (kf : (¬ xs0 = 0) → zW G d M_Ab_append_0 17 [o0, o1] st H Q) : zW G d M_Ab_append_0 14 [o0, o1] ((.int xs0) :: st) H Q :=
  zw_if_eq 45 dAb_append_0_14 (by decide) kt kf
theorem sAb_append_0_17 {G : zG} {d : Nat} {Q : Option Value → Heap → Prop} {H : Heap} {st : List Value} {o0 : Option Value} {x1 : Int32} {P : Int32 → Heap → Prop} (hd : 1 ≤ d) (hl : st.length ≤ 4) (hc : zC G (d - 1) M_L1_canEncode_0 [(.int x1)] H (zPi P)) (kk : ∀ (r : Int32) (H1 : Heap), P r H1 → zOk G H1 → H.size ≤ H1.size → zT H ≤ zT H1 → zW G d M_Ab_append_0 21 [o0, some (.int x1)] ((.int r) :: st) H1 Q) : zW G d M_Ab_append_0 17 [o0, some (.int x1)] st H Q :=
  zw_iload_n (i := 1) dAb_append_0_17 rfl rfl <| zw_callS [(.int x1)] _ dAb_append_0_18 hd zk_Ab_191 rfl rfl hl hc (zPi_k kk)
theorem sAb_append_0_21 {G : zG} {d : Nat} {Q : Option Value → Heap → Prop} {H : Heap} {st : List Value} {o0 : Option Value} {o1 : Option Value} {xs0 : Int32} (kt : (xs0 = 0) → zW G d M_Ab_append_0 45 [o0, o1] st H Q) (kf : (¬ xs0 = 0) → zW G d M_Ab_append_0 24 [o0, o1] st H Q) : zW G d M_Ab_append_0 21 [o0, o1] ((.int xs0) :: st) H Q :=
  zw_if_eq 45 dAb_append_0_21 (by decide) kt kf
theorem sAb_append_0_24 {G : zG} {d : Nat} {Q : Option Value → Heap → Prop} {H : Heap} {st : List Value} {o1 : Option Value} {a0 : Nat} {vf1 : Value} {xf2 : Int32} {b0 : Value} {b1 : Value} {b2 : Value} {b3 : Value} (hrf1 : zRf vf1 := by first | exact zRf_ref | exact zRf_null | exact zRf_rf _ | assumption) (hf1 : zFd G H a0 1 0 vf1) (hf2 : zFd G H a0 1 3 (.int xf2)) (ho : zObj G H a0 1 [b0, b1, b2, b3]) (hw : zFr G a0) (kk : ∀ H1 : Heap, zObj G H1 a0 1 [b0, b1, b2, (.int (xf2 + (1 : Int32)))] → zUp a0 H H1 → zW G d M_Ab_append_0 39 [some (.ref a0), o1] ((.int xf2) :: vf1 :: st) H1 Q) : zW G d M_Ab_append_0 24 [some (.ref a0), o1] st H Q :=
  zw_aload_n (i := 0) dAb_append_0_24 rfl rfl zRf_ref <| zw_getf dAb_append_0_25 zf_Ab_15 hf1 <| zw_aload_n (i := 0) dAb_append_0_28 rfl rfl zRf_ref <| zw_dup dAb_append_0_29 rfl <| zw_getf dAb_append_0_30 zf_Ab_79 hf2 <| zw_dup_x1 dAb_append_0_33 rfl rfl <| zw_iconst (1 : Int32) dAb_append_0_34 zki_1 <| zw_iadd dAb_append_0_35 <| zw_putf (k := 3) dAb_append_0_36 zp_Ab_append_0_79 ho (Nat.le_of_ble_eq_true rfl) (Nat.le_of_ble_eq_true rfl) hw rfl rfl kk
theorem sAb_append_0_39 {G : zG} {d : Nat} {Q : Option Value → Heap → Prop} {H : Heap} {st : List Value} {o0 : Option Value} {x1 : Int32} {xs0 : Int32} {as1 : Nat} {n : Nat} {g : Nat → Value} (ha : zArr G H as1 .byte n g) (hi : vp_in xs0 n) (hw : zFr G as1) (kk : ∀ H1 : Heap, zArr G H1 as1 .byte n (updV g (xs0).toNatClampNeg (.int ((x1).toInt8.toInt32).toInt8.toInt32)) → zUp as1 H H1 → zW G d M_Ab_append_0 42 [o0, some (.int x1)] st H1 Q) : zW G d M_Ab_append_0 39 [o0, some (.int x1)] ((.int xs0) :: (.ref as1) :: st) H Q :=
  zw_iload_n (i := 1) dAb_append_0_39 rfl rfl <| zw_i2b dAb_append_0_40 <| zw_bast dAb_append_0_41 ha hi hw kk
theorem sAb_append_0_42 {G : zG} {d : Nat} {Q : Option Value → Heap → Prop} {H : Heap} {o1 : Option Value} {v0 : Value} (hr0 : zRf v0 := by first | exact zRf_ref | exact zRf_null | exact zRf_rf _ | assumption) (hq : Q (some v0) H) : zW G d M_Ab_append_0 42 [some v0, o1] [] H Q :=
  zw_goto 75 dAb_append_0_42 (by decide) <| zw_aload_n (i := 0) dAb_append_0_75 rfl rfl hr0 <| zw_aret dAb_append_0_76 (.object "java/lang/AbstractStringBuilder") rfl (Or.inl ⟨_, rfl⟩) hr0 hq
theorem sAb_append_0_45 {G : zG} {d : Nat} {Q : Option Value → Heap → Prop} {H : Heap} {st : List Value} {o1 : Option Value} {a0 : Nat} {P : Int32 → Heap → Prop} (hd : 1 ≤ d) (hl : st.length ≤ 4) (ho : zIs G H a0 1) (hc : zC G (d - 1) M_Ab_isLatin1 [(.ref a0)] H (zPi P)) (kk : ∀ (r : Int32) (H1 : Heap), P r H1 → zOk G H1 → H.size ≤ H1.size → zT H ≤ zT H1 → zW G d M_Ab_append_0 49 [some (.ref a0), o1] ((.int r) :: st) H1 Q) : zW G d M_Ab_append_0 45 [some (.ref a0), o1] st H Q :=
  zw_aload_n (i := 0) dAb_append_0_45 rfl rfl zRf_ref <| zw_callV [] _ dAb_append_0_46 hd zk_Ab_83 ho rfl rfl hl hc (zPi_k kk)
theorem sAb_append_0_49 {G : zG} {d : Nat} {Q : Option Value → Heap → Prop} {H : Heap} {st : List Value} {o0 : Option Value} {o1 : Option Value} {xs0 : Int32} (kt : (xs0 = 0) → zW G d M_Ab_append_0 56 [o0, o1] st H Q) (kf : (¬ xs0 = 0) → zW G d M_Ab_append_0 52 [o0, o1] st H Q) : zW G d M_Ab_append_0 49 [o0, o1] ((.int xs0) :: st) H Q :=
  zw_if_eq 56 dAb_append_0_49 (by decide) kt kf
theorem sAb_append_0_52 {G : zG} {d : Nat} {Q : Option Value → Heap → Prop} {H : Heap} {st : List Value} {o1 : Option Value} {a0 : Nat} {P : Heap → Prop} (hd : 1 ≤ d) (hl : st.length ≤ 4) (ho : zIs G H a0 1) (hc : zC G (d - 1) M_Ab_inflate [(.ref a0)] H (zPv P)) (kk : ∀ H1 : Heap, P H1 → zOk G H1 → H.size ≤ H1.size → zT H ≤ zT H1 → zW G d M_Ab_append_0 56 [some (.ref a0), o1] st H1 Q) : zW G d M_Ab_append_0 52 [some (.ref a0), o1] st H Q :=
  zw_aload_n (i := 0) dAb_append_0_52 rfl rfl zRf_ref <| zw_callV [] _ dAb_append_0_53 hd zk_Ab_195 ho rfl rfl hl hc (zPv_k kk)
theorem sAb_append_0_56 {G : zG} {d : Nat} {Q : Option Value → Heap → Prop} {H : Heap} {st : List Value} {o1 : Option Value} {a0 : Nat} {vf1 : Value} {xf2 : Int32} {b0 : Value} {b1 : Value} {b2 : Value} {b3 : Value} (hrf1 : zRf vf1 := by first | exact zRf_ref | exact zRf_null | exact zRf_rf _ | assumption) (hf1 : zFd G H a0 1 0 vf1) (hf2 : zFd G H a0 1 3 (.int xf2)) (ho : zObj G H a0 1 [b0, b1, b2, b3]) (hw : zFr G a0) (kk : ∀ H1 : Heap, zObj G H1 a0 1 [b0, b1, b2, (.int (xf2 + (1 : Int32)))] → zUp a0 H H1 → zW G d M_Ab_append_0 71 [some (.ref a0), o1] ((.int xf2) :: vf1 :: st) H1 Q) : zW G d M_Ab_append_0 56 [some (.ref a0), o1] st H Q :=
  zw_aload_n (i := 0) dAb_append_0_56 rfl rfl zRf_ref <| zw_getf dAb_append_0_57 zf_Ab_15 hf1 <| zw_aload_n (i := 0) dAb_append_0_60 rfl rfl zRf_ref <| zw_dup dAb_append_0_61 rfl <| zw_getf dAb_append_0_62 zf_Ab_79 hf2 <| zw_dup_x1 dAb_append_0_65 rfl rfl <| zw_iconst (1 : Int32) dAb_append_0_66 zki_1 <| zw_iadd dAb_append_0_67 <| zw_putf (k := 3) dAb_append_0_68 zp_Ab_append_0_79 ho (Nat.le_of_ble_eq_true rfl) (Nat.le_of_ble_eq_true rfl) hw rfl rfl kk
theorem sAb_append_0_71 {G : zG} {d : Nat} {Q : Option Value → Heap → Prop} {H : Heap} {st : List Value} {o0 : Option Value} {x1 : Int32} {xs0 : Int32} {vs1 : Value} {P : Heap → Prop} (hrs1 : zRf vs1 := by first | exact zRf_ref | exact zRf_null | exact zRf_rf _ | assumption) (hd : 1 ≤ d) (hl : st.length ≤ 4) (hc : zC G (d - 1) M_U16_putCharSB [vs1, (.int xs0), (.int x1)] H (zPv P)) (kk : ∀ H1 : Heap, P H1 → zOk G H1 → H.size ≤ H1.size → zT H ≤ zT H1 → zW G d M_Ab_append_0 75 [o0, some (.int x1)] st H1 Q) : zW G d M_Ab_append_0 71 [o0, some (.int x1)] ((.int xs0) :: vs1 :: st) H Q :=
  zw_iload_n (i := 1) dAb_append_0_71 rfl rfl <| zw_callS [vs1, (.int xs0), (.int x1)] _ dAb_append_0_72 hd zk_Ab_197 rfl rfl hl hc (zPv_k kk)
theorem sAb_append_0_75 {G : zG} {d : Nat} {Q : Option Value → Heap → Prop} {H : Heap} {o1 : Option Value} {v0 : Value} (hr0 : zRf v0 := by first | exact zRf_ref | exact zRf_null | exact zRf_rf _ | assumption) (hq : Q (some v0) H) : zW G d M_Ab_append_0 75 [some v0, o1] [] H Q :=
  zw_aload_n (i := 0) dAb_append_0_75 rfl rfl hr0 <| zw_aret dAb_append_0_76 (.object "java/lang/AbstractStringBuilder") rfl (Or.inl ⟨_, rfl⟩) hr0 hq
theorem sAb_ensureCapacityInternal_0 {G : zG} {d : Nat} {Q : Option Value → Heap → Prop} {H : Heap} {st : List Value} {o2 : Option Value} {a0 : Nat} {af1 : Nat} {xf3 : Int32} {x1 : Int32} {n2 : Nat} {t2 : FieldType} {g2 : Nat → Value} (hf1 : zFd G H a0 1 0 (.ref af1)) (ha2 : zArr G H af1 t2 n2 g2) (hf3 : zFd G H a0 1 1 (.int xf3)) (kt : ((x1 - ((nI n2) >>> (xf3 &&& 31))) ≤ 0) → zW G d M_Ab_ensureCapacityInternal 38 [some (.ref a0), some (.int x1), some (.int ((nI n2) >>> (xf3 &&& 31)))] st H Q) (kf : (¬ (x1 - ((nI n2) >>> (xf3 &&& 31))) ≤ 0) → zW G d M_Ab_ensureCapacityInternal 17 [some (.ref a0), some (.int x1), some (.int ((nI n2) >>> (xf3 &&& 31)))] st H Q) : zW G d M_Ab_ensureCapacityInternal 0 [some (.ref a0), some (.int x1), o2] st H Q :=
  zw_aload_n (i := 0) dAb_ensureCapacityInternal_0 rfl rfl zRf_ref <| zw_getf dAb_ensureCapacityInternal_1 zf_Ab_15 hf1 <| zw_alen dAb_ensureCapacityInternal_4 ha2 <| zw_aload_n (i := 0) dAb_ensureCapacityInternal_5 rfl rfl zRf_ref <| zw_getf dAb_ensureCapacityInternal_6 zf_Ab_22 hf3 <| zw_ishr dAb_ensureCapacityInternal_9 <| zw_istore_n (i := 2) dAb_ensureCapacityInternal_10 rfl (Nat.le_of_ble_eq_true rfl) <| zw_iload_n (i := 1) dAb_ensureCapacityInternal_11 rfl rfl <| zw_iload_n (i := 2) dAb_ensureCapacityInternal_12 rfl rfl <| zw_isub dAb_ensureCapacityInternal_13 <| zw_if_le 38 dAb_ensureCapacityInternal_14 (by decide) kt kf
theorem sAb_ensureCapacityInternal_17 {G : zG} {d : Nat} {Q : Option Value → Heap → Prop} {H : Heap} {st : List Value} {o2 : Option Value} {a0 : Nat} {vf1 : Value} {x1 : Int32} {P : Int32 → Heap → Prop} (hrf1 : zRf vf1 := by first | exact zRf_ref | exact zRf_null | exact zRf_rf _ | assumption) (hf1 : zFd G H a0 1 0 vf1) (hd : 1 ≤ d) (hl : (vf1 :: (.ref a0) :: st).length ≤ 4) (ho : zIs G H a0 1) (hc : zC G (d - 1) M_Ab_newCapacity [(.ref a0), (.int x1)] H (zPi P)) (kk : ∀ (r : Int32) (H1 : Heap), P r H1 → zOk G H1 → H.size ≤ H1.size → zT H ≤ zT H1 → zW G d M_Ab_ensureCapacityInternal 27 [some (.ref a0), some (.int x1), o2] ((.int r) :: vf1 :: (.ref a0) :: st) H1 Q) : zW G d M_Ab_ensureCapacityInternal 17 [some (.ref a0), some (.int x1), o2] st H Q :=
  zw_aload_n (i := 0) dAb_ensureCapacityInternal_17 rfl rfl zRf_ref <| zw_aload_n (i := 0) dAb_ensureCapacityInternal_18 rfl rfl zRf_ref <| zw_getf dAb_ensureCapacityInternal_19 zf_Ab_15 hf1 <| zw_aload_n (i := 0) dAb_ensureCapacityInternal_22 rfl rfl zRf_ref <| zw_iload_n (i := 1) dAb_ensureCapacityInternal_23 rfl rfl <| zw_callV [(.int x1)] _ dAb_ensureCapacityInternal_24 hd zk_Ab_104 ho rfl rfl hl hc (zPi_k kk)
theorem sAb_ensureCapacityInternal_27 {G : zG} {d : Nat} {Q : Option Value → Heap → Prop} {H : Heap} {st : List Value} {o1 : Option Value} {o2 : Option Value} {a0 : Nat} {xf1 : Int32} {xs0 : Int32} {vs1 : Value} {P : Value → Heap → Prop} (hrs1 : zRf vs1 := by first | exact zRf_ref | exact zRf_null | exact zRf_rf _ | assumption) (hf1 : zFd G H a0 1 1 (.int xf1)) (hd : 1 ≤ d) (hl : st.length ≤ 4) (hc : zC G (d - 1) M_Ar_copyOf_0 [vs1, (.int (xs0 <<< (xf1 &&& 31)))] H (zPr P)) (kk : ∀ (r : Value) (H1 : Heap), zRf r → P r H1 → zOk G H1 → H.size ≤ H1.size → zT H ≤ zT H1 → zW G d M_Ab_ensureCapacityInternal 35 [some (.ref a0), o1, o2] (r :: st) H1 Q) : zW G d M_Ab_ensureCapacityInternal 27 [some (.ref a0), o1, o2] ((.int xs0) :: vs1 :: st) H Q :=
  zw_aload_n (i := 0) dAb_ensureCapacityInternal_27 rfl rfl zRf_ref <| zw_getf dAb_ensureCapacityInternal_28 zf_Ab_22 hf1 <| zw_ishl dAb_ensureCapacityInternal_31 <| zw_callS [vs1, (.int (xs0 <<< (xf1 &&& 31)))] _ dAb_ensureCapacityInternal_32 hd zk_Ab_108 rfl rfl hl hc (zPr_k kk)
theorem sAb_ensureCapacityInternal_35 {G : zG} {d : Nat} {Q : Option Value → Heap → Prop} {H : Heap} {st : List Value} {o0 : Option Value} {o1 : Option Value} {o2 : Option Value} {vs0 : Value} {as1 : Nat} {b0 : Value} {b1 : Value} {b2 : Value} {b3 : Value} (hrs0 : zRf vs0 := by first | exact zRf_ref | exact zRf_null | exact zRf_rf _ | assumption) (ho : zObj G H as1 1 [b0, b1, b2, b3]) (hw : zFr G as1) (kk : ∀ H1 : Heap, zObj G H1 as1 1 [vs0, b1, b2, b3] → zUp as1 H H1 → zW G d M_Ab_ensureCapacityInternal 38 [o0, o1, o2] st H1 Q) : zW G d M_Ab_ensureCapacityInternal 35 [o0, o1, o2] (vs0 :: (.ref as1) :: st) H Q :=
  zw_putf (k := 0) dAb_ensureCapacityInternal_35 zp_Ab_ensureCapacityInternal_15 ho (Nat.le_of_ble_eq_true rfl) (Nat.le_of_ble_eq_true rfl) hw (zNarA hrs0) (zFitA hrs0) kk
theorem sAb_ensureCapacityInternal_38 {G : zG} {d : Nat} {Q : Option Value → Heap → Prop} {H : Heap} {o0 : Option Value} {o1 : Option Value} {o2 : Option Value} (hq : Q none H) : zW G d M_Ab_ensureCapacityInternal 38 [o0, o1, o2] [] H Q :=
  zw_vret dAb_ensureCapacityInternal_38 rfl hq
theorem sAb_newCapacity_0 {G : zG} {d : Nat} {Q : Option Value → Heap → Prop} {H : Heap} {st : List Value} {o2 : Option Value} {o3 : Option Value} {o4 : Option Value} {o5 : Option Value} {a0 : Nat} {af1 : Nat} {x1 : Int32} {xf3 : Int32} {xf4 : Int32} {n2 : Nat} {t2 : FieldType} {g2 : Nat → Value} {P : Int32 → Heap → Prop} (hf1 : zFd G H a0 1 0 (.ref af1)) (ha2 : zArr G H af1 t2 n2 g2) (hf3 : zFd G H a0 1 1 (.int xf3)) (hf4 : zFd G H a0 1 1 (.int xf4)) (hd : 1 ≤ d) (hl : st.length ≤ 4) (hc : zC G (d - 1) M_AS_newLength [(.int (nI n2)), (.int ((x1 <<< (xf3 &&& 31)) - (nI n2))), (.int ((nI n2) + ((2 : Int32) <<< (xf4 &&& 31))))] H (zPi P)) (kk : ∀ (r : Int32) (H1 : Heap), P r H1 → zOk G H1 → H.size ≤ H1.size → zT H ≤ zT H1 → zW G d M_Ab_newCapacity 32 [some (.ref a0), some (.int x1), some (.int (nI n2)), some (.int (x1 <<< (xf3 &&& 31))), some (.int ((x1 <<< (xf3 &&& 31)) - (nI n2))), o5] ((.int r) :: st) H1 Q) : zW G d M_Ab_newCapacity 0 [some (.ref a0), some (.int x1), o2, o3, o4, o5] st H Q :=
  zw_aload_n (i := 0) dAb_newCapacity_0 rfl rfl zRf_ref <| zw_getf dAb_newCapacity_1 zf_Ab_15 hf1 <| zw_alen dAb_newCapacity_4 ha2 <| zw_istore_n (i := 2) dAb_newCapacity_5 rfl (Nat.le_of_ble_eq_true rfl) <| zw_iload_n (i := 1) dAb_newCapacity_6 rfl rfl <| zw_aload_n (i := 0) dAb_newCapacity_7 rfl rfl zRf_ref <| zw_getf dAb_newCapacity_8 zf_Ab_22 hf3 <| zw_ishl dAb_newCapacity_11 <| zw_istore_n (i := 3) dAb_newCapacity_12 rfl (Nat.le_of_ble_eq_true rfl) <| zw_iload_n (i := 3) dAb_newCapacity_13 rfl rfl <| zw_iload_n (i := 2) dAb_newCapacity_14 rfl rfl <| zw_isub dAb_newCapacity_15 <| zw_istore (i := 4) dAb_newCapacity_16 (Nat.le_of_ble_eq_true rfl) <| zw_iload_n (i := 2) dAb_newCapacity_18 rfl rfl <| zw_iload (i := 4) dAb_newCapacity_19 rfl <| zw_iload_n (i := 2) dAb_newCapacity_21 rfl rfl <| zw_iconst (2 : Int32) dAb_newCapacity_22 zki_2 <| zw_aload_n (i := 0) dAb_newCapacity_23 rfl rfl zRf_ref <| zw_getf dAb_newCapacity_24 zf_Ab_22 hf4 <| zw_ishl dAb_newCapacity_27 <| zw_iadd dAb_newCapacity_28 <| zw_callS [(.int (nI n2)), (.int ((x1 <<< (xf3 &&& 31)) - (nI n2))), (.int ((nI n2) + ((2 : Int32) <<< (xf4 &&& 31))))] _ dAb_newCapacity_29 hd zk_Ab_114 rfl rfl hl hc (zPi_k kk)
theorem sAb_newCapacity_32 {G : zG} {d : Nat} {Q : Option Value → Heap → Prop} {H : Heap} {st : List Value} {o0 : Option Value} {o1 : Option Value} {o2 : Option Value} {o3 : Option Value} {o4 : Option Value} {o5 : Option Value} {xs0 : Int32} (kt : (¬ xs0 = (2147483647 : Int32)) → zW G d M_Ab_newCapacity 51 [o0, o1, o2, o3, o4, some (.int xs0)] st H Q) (kf : (xs0 = (2147483647 : Int32)) → zW G d M_Ab_newCapacity 41 [o0, o1, o2, o3, o4, some (.int xs0)] st H Q) : zW G d M_Ab_newCapacity 32 [o0, o1, o2, o3, o4, o5] ((.int xs0) :: st) H Q :=
  zw_istore (i := 5) dAb_newCapacity_32 (Nat.le_of_ble_eq_true rfl) <| zw_iload (i := 5) dAb_newCapacity_34 rfl <| zw_ldc dAb_newCapacity_36 (zt2 64 rfl) <| zw_icmp_ne 51 dAb_newCapacity_38 (by decide) kt kf
theorem sAb_newCapacity_44 {G : zG} {d : Nat} {Q : Option Value → Heap → Prop} {H : Heap} {st : List Value} {o0 : Option Value} {o1 : Option Value} {o2 : Option Value} {o3 : Option Value} {o4 : Option Value} {o5 : Option Value} {ws0 : Value} (hcs0 : ws0.category = 1 := by first | rfl | exact zRf.cat (by assumption)) (kk : zW G d M_Ab_newCapacity 45 [o0, o1, o2, o3, o4, o5] (ws0 :: ws0 :: st) H Q) : zW G d M_Ab_newCapacity 44 [o0, o1, o2, o3, o4, o5] (ws0 :: st) H Q :=
  zw_dup dAb_newCapacity_44 hcs0 <| kk
theorem sAb_newCapacity_51 {G : zG} {d : Nat} {Q : Option Value → Heap → Prop} {H : Heap} {o1 : Option Value} {o2 : Option Value} {o3 : Option Value} {o4 : Option Value} {x5 : Int32} {a0 : Nat} {xf1 : Int32} (hf1 : zFd G H a0 1 1 (.int xf1)) (hq : Q (some (.int (x5 >>> (xf1 &&& 31)))) H) : zW G d M_Ab_newCapacity 51 [some (.ref a0), o1, o2, o3, o4, some (.int x5)] [] H Q :=
  zw_iload (i := 5) dAb_newCapacity_51 rfl <| zw_aload_n (i := 0) dAb_newCapacity_53 rfl rfl zRf_ref <| zw_getf dAb_newCapacity_54 zf_Ab_22 hf1 <| zw_ishr dAb_newCapacity_57 <| zw_iret dAb_newCapacity_58 .int rfl rfl hq
theorem sAb_isLatin1_0 {G : zG} {d : Nat} {Q : Option Value → Heap → Prop} {H : Heap} {st : List Value} {o0 : Option Value} (hz1 : va_Z "java/lang/String" "COMPACT_STRINGS" "Z" (.int 1) (zFr G) (zS G) (zS G).heap) (kt : ((1 : Int32) = 0) → zW G d M_Ab_isLatin1 17 [o0] st H Q) (kf : (¬ (1 : Int32) = 0) → zW G d M_Ab_isLatin1 6 [o0] st H Q) : zW G d M_Ab_isLatin1 0 [o0] st H Q :=
  zw_gets dAb_isLatin1_0 hz1 (zt1 45 rfl) (Or.inl rfl) <| zw_if_eq 17 dAb_isLatin1_3 (by decide) kt kf
theorem sAb_isLatin1_6 {G : zG} {d : Nat} {Q : Option Value → Heap → Prop} {H : Heap} {st : List Value} {a0 : Nat} {xf1 : Int32} (hf1 : zFd G H a0 1 1 (.int xf1)) (kt : (¬ xf1 = 0) → zW G d M_Ab_isLatin1 17 [some (.ref a0)] st H Q) (kf : (xf1 = 0) → zW G d M_Ab_isLatin1 13 [some (.ref a0)] st H Q) : zW G d M_Ab_isLatin1 6 [some (.ref a0)] st H Q :=
  zw_aload_n (i := 0) dAb_isLatin1_6 rfl rfl zRf_ref <| zw_getf dAb_isLatin1_7 zf_Ab_22 hf1 <| zw_if_ne 17 dAb_isLatin1_10 (by decide) kt kf
theorem sAb_isLatin1_13 {G : zG} {d : Nat} {Q : Option Value → Heap → Prop} {H : Heap} {o0 : Option Value} (hn : narrow .boolean (.int (1 : Int32)) = .int (1 : Int32)) (hq : Q (some (.int (1 : Int32))) H) : zW G d M_Ab_isLatin1 13 [o0] [] H Q :=
  zw_iconst (1 : Int32) dAb_isLatin1_13 zki_1 <| zw_goto 18 dAb_isLatin1_14 (by decide) <| zw_iret dAb_isLatin1_18 .boolean rfl hn hq
theorem sAb_isLatin1_17 {G : zG} {d : Nat} {Q : Option Value → Heap → Prop} {H : Heap} {o0 : Option Value} (hn : narrow .boolean (.int (0 : Int32)) = .int (0 : Int32)) (hq : Q (some (.int (0 : Int32))) H) : zW G d M_Ab_isLatin1 17 [o0] [] H Q :=
  zw_iconst (0 : Int32) dAb_isLatin1_17 zki_0 <| zw_iret dAb_isLatin1_18 .boolean rfl hn hq
theorem sAb_isLatin1_18 {G : zG} {d : Nat} {Q : Option Value → Heap → Prop} {H : Heap} {o0 : Option Value} {xs0 : Int32} (hn : narrow .boolean (.int xs0) = .int xs0) (hq : Q (some (.int xs0)) H) : zW G d M_Ab_isLatin1 18 [o0] ((.int xs0) :: []) H Q :=
  zw_iret dAb_isLatin1_18 .boolean rfl hn hq
theorem sAb_inflate_0 {G : zG} {d : Nat} {Q : Option Value → Heap → Prop} {H : Heap} {st : List Value} {o1 : Option Value} {a0 : Nat} {P : Int32 → Heap → Prop} (hd : 1 ≤ d) (hl : st.length ≤ 4) (ho : zIs G H a0 1) (hc : zC G (d - 1) M_Ab_isLatin1 [(.ref a0)] H (zPi P)) (kk : ∀ (r : Int32) (H1 : Heap), P r H1 → zOk G H1 → H.size ≤ H1.size → zT H ≤ zT H1 → zW G d M_Ab_inflate 4 [some (.ref a0), o1] ((.int r) :: st) H1 Q) : zW G d M_Ab_inflate 0 [some (.ref a0), o1] st H Q :=
  zw_aload_n (i := 0) dAb_inflate_0 rfl rfl zRf_ref <| zw_callV [] _ dAb_inflate_1 hd zk_Ab_83 ho rfl rfl hl hc (zPi_k kk)
theorem sAb_inflate_4 {G : zG} {d : Nat} {Q : Option Value → Heap → Prop} {H : Heap} {st : List Value} {o0 : Option Value} {o1 : Option Value} {xs0 : Int32} (kt : (¬ xs0 = 0) → zW G d M_Ab_inflate 8 [o0, o1] st H Q) (kf : (xs0 = 0) → zW G d M_Ab_inflate 7 [o0, o1] st H Q) : zW G d M_Ab_inflate 4 [o0, o1] ((.int xs0) :: st) H Q :=
  zw_if_ne 8 dAb_inflate_4 (by decide) kt kf
theorem sAb_inflate_7 {G : zG} {d : Nat} {Q : Option Value → Heap → Prop} {H : Heap} {o0 : Option Value} {o1 : Option Value} (hq : Q none H) : zW G d M_Ab_inflate 7 [o0, o1] [] H Q :=
  zw_vret dAb_inflate_7 rfl hq
theorem sAb_inflate_8 {G : zG} {d : Nat} {Q : Option Value → Heap → Prop} {H : Heap} {st : List Value} {o1 : Option Value} {a0 : Nat} {af1 : Nat} {n2 : Nat} {t2 : FieldType} {g2 : Nat → Value} {P : Value → Heap → Prop} (hf1 : zFd G H a0 1 0 (.ref af1)) (ha2 : zArr G H af1 t2 n2 g2) (hd : 1 ≤ d) (hl : st.length ≤ 4) (hc : zC G (d - 1) M_U16_newBytesFor [(.int (nI n2))] H (zPr P)) (kk : ∀ (r : Value) (H1 : Heap), zRf r → P r H1 → zOk G H1 → H.size ≤ H1.size → zT H ≤ zT H1 → zW G d M_Ab_inflate 16 [some (.ref a0), o1] (r :: st) H1 Q) : zW G d M_Ab_inflate 8 [some (.ref a0), o1] st H Q :=
  zw_aload_n (i := 0) dAb_inflate_8 rfl rfl zRf_ref <| zw_getf dAb_inflate_9 zf_Ab_15 hf1 <| zw_alen dAb_inflate_12 ha2 <| zw_callS [(.int (nI n2))] _ dAb_inflate_13 hd zk_Ab_26 rfl rfl hl hc (zPr_k kk)
theorem sAb_inflate_16 {G : zG} {d : Nat} {Q : Option Value → Heap → Prop} {H : Heap} {st : List Value} {o1 : Option Value} {vs0 : Value} {a0 : Nat} {vf1 : Value} {xf2 : Int32} {P : Heap → Prop} (hrs0 : zRf vs0 := by first | exact zRf_ref | exact zRf_null | exact zRf_rf _ | assumption) (hrf1 : zRf vf1 := by first | exact zRf_ref | exact zRf_null | exact zRf_rf _ | assumption) (hf1 : zFd G H a0 1 0 vf1) (hf2 : zFd G H a0 1 3 (.int xf2)) (hd : 1 ≤ d) (hl : st.length ≤ 4) (hc : zC G (d - 1) M_L1_inflate [vf1, (.int (0 : Int32)), vs0, (.int (0 : Int32)), (.int xf2)] H (zPv P)) (kk : ∀ H1 : Heap, P H1 → zOk G H1 → H.size ≤ H1.size → zT H ≤ zT H1 → zW G d M_Ab_inflate 31 [some (.ref a0), some vs0] st H1 Q) : zW G d M_Ab_inflate 16 [some (.ref a0), o1] (vs0 :: st) H Q :=
  zw_astore_n (i := 1) dAb_inflate_16 rfl (Nat.le_of_ble_eq_true rfl) hrs0 <| zw_aload_n (i := 0) dAb_inflate_17 rfl rfl zRf_ref <| zw_getf dAb_inflate_18 zf_Ab_15 hf1 <| zw_iconst (0 : Int32) dAb_inflate_21 zki_0 <| zw_aload_n (i := 1) dAb_inflate_22 rfl rfl hrs0 <| zw_iconst (0 : Int32) dAb_inflate_23 zki_0 <| zw_aload_n (i := 0) dAb_inflate_24 rfl rfl zRf_ref <| zw_getf dAb_inflate_25 zf_Ab_79 hf2 <| zw_callS [vf1, (.int (0 : Int32)), vs0, (.int (0 : Int32)), (.int xf2)] _ dAb_inflate_28 hd zk_Ab_125 rfl rfl hl hc (zPv_k kk)
theorem sAb_inflate_31 {G : zG} {d : Nat} {Q : Option Value → Heap → Prop} {H : Heap} {st : List Value} {a0 : Nat} {v1 : Value} {b0 : Value} {b1 : Value} {b2 : Value} {b3 : Value} (hr1 : zRf v1 := by first | exact zRf_ref | exact zRf_null | exact zRf_rf _ | assumption) (ho : zObj G H a0 1 [b0, b1, b2, b3]) (hw : zFr G a0) (kk : ∀ H1 : Heap, zObj G H1 a0 1 [v1, b1, b2, b3] → zUp a0 H H1 → zW G d M_Ab_inflate 36 [some (.ref a0), some v1] st H1 Q) : zW G d M_Ab_inflate 31 [some (.ref a0), some v1] st H Q :=
  zw_aload_n (i := 0) dAb_inflate_31 rfl rfl zRf_ref <| zw_aload_n (i := 1) dAb_inflate_32 rfl rfl hr1 <| zw_putf (k := 0) dAb_inflate_33 zp_Ab_inflate_15 ho (Nat.le_of_ble_eq_true rfl) (Nat.le_of_ble_eq_true rfl) hw (zNarA hr1) (zFitA hr1) kk
theorem sAb_inflate_36 {G : zG} {d : Nat} {Q : Option Value → Heap → Prop} {H : Heap} {st : List Value} {o1 : Option Value} {a0 : Nat} {b0 : Value} {b1 : Value} {b2 : Value} {b3 : Value} (ho : zObj G H a0 1 [b0, b1, b2, b3]) (hw : zFr G a0) (hn : narrow .byte (.int (1 : Int32)) = (.int (1 : Int32))) (hfit : fits .byte (.int (1 : Int32)) = true) (kk : ∀ H1 : Heap, zObj G H1 a0 1 [b0, (.int (1 : Int32)), b2, b3] → zUp a0 H H1 → zW G d M_Ab_inflate 41 [some (.ref a0), o1] st H1 Q) : zW G d M_Ab_inflate 36 [some (.ref a0), o1] st H Q :=
  zw_aload_n (i := 0) dAb_inflate_36 rfl rfl zRf_ref <| zw_iconst (1 : Int32) dAb_inflate_37 zki_1 <| zw_putf (k := 1) dAb_inflate_38 zp_Ab_inflate_22 ho (Nat.le_of_ble_eq_true rfl) (Nat.le_of_ble_eq_true rfl) hw hn hfit kk
theorem sAb_inflate_41 {G : zG} {d : Nat} {Q : Option Value → Heap → Prop} {H : Heap} {o0 : Option Value} {o1 : Option Value} (hq : Q none H) : zW G d M_Ab_inflate 41 [o0, o1] [] H Q :=
  zw_vret dAb_inflate_41 rfl hq
theorem sSb_setLength_0 {G : zG} {d : Nat} {Q : Option Value → Heap → Prop} {H : Heap} {st : List Value} {a0 : Nat} {x1 : Int32} {P : Heap → Prop} (hd : 1 ≤ d) (hl : st.length ≤ 4) (ho : zIs G H a0 1) (hc : zC G (d - 1) M_Ab_setLength [(.ref a0), (.int x1)] H (zPv P)) (kk : ∀ H1 : Heap, P H1 → zOk G H1 → H.size ≤ H1.size → zT H ≤ zT H1 → zW G d M_Sb_setLength 5 [some (.ref a0), some (.int x1)] st H1 Q) : zW G d M_Sb_setLength 0 [some (.ref a0), some (.int x1)] st H Q :=
  zw_aload_n (i := 0) dSb_setLength_0 rfl rfl zRf_ref <| zw_iload_n (i := 1) dSb_setLength_1 rfl rfl <| zw_callSU [(.int x1)] _ dSb_setLength_2 hd zk_Sb_333 ho rfl rfl hl hc (zPv_k kk)
theorem sSb_setLength_5 {G : zG} {d : Nat} {Q : Option Value → Heap → Prop} {H : Heap} {o0 : Option Value} {o1 : Option Value} (hq : Q none H) : zW G d M_Sb_setLength 5 [o0, o1] [] H Q :=
  zw_vret dSb_setLength_5 rfl hq
theorem sAb_setLength_0 {G : zG} {d : Nat} {Q : Option Value → Heap → Prop} {H : Heap} {st : List Value} {o0 : Option Value} {x1 : Int32} (kt : (0 ≤ x1) → zW G d M_Ab_setLength 13 [o0, some (.int x1)] st H Q) (kf : (¬ 0 ≤ x1) → zW G d M_Ab_setLength 4 [o0, some (.int x1)] st H Q) : zW G d M_Ab_setLength 0 [o0, some (.int x1)] st H Q :=
  zw_iload_n (i := 1) dAb_setLength_0 rfl rfl <| zw_if_ge 13 dAb_setLength_1 (by decide) kt kf
theorem sAb_setLength_7 {G : zG} {d : Nat} {Q : Option Value → Heap → Prop} {H : Heap} {st : List Value} {o0 : Option Value} {ws0 : Value} {x1 : Int32} (hcs0 : ws0.category = 1 := by first | rfl | exact zRf.cat (by assumption)) (kk : zW G d M_Ab_setLength 9 [o0, some (.int x1)] ((.int x1) :: ws0 :: ws0 :: st) H Q) : zW G d M_Ab_setLength 7 [o0, some (.int x1)] (ws0 :: st) H Q :=
  zw_dup dAb_setLength_7 hcs0 <| zw_iload_n (i := 1) dAb_setLength_8 rfl rfl <| kk
theorem sAb_setLength_13 {G : zG} {d : Nat} {Q : Option Value → Heap → Prop} {H : Heap} {st : List Value} {a0 : Nat} {x1 : Int32} {P : Heap → Prop} (hd : 1 ≤ d) (hl : st.length ≤ 4) (ho : zIs G H a0 1) (hc : zC G (d - 1) M_Ab_ensureCapacityInternal [(.ref a0), (.int x1)] H (zPv P)) (kk : ∀ H1 : Heap, P H1 → zOk G H1 → H.size ≤ H1.size → zT H ≤ zT H1 → zW G d M_Ab_setLength 18 [some (.ref a0), some (.int x1)] st H1 Q) : zW G d M_Ab_setLength 13 [some (.ref a0), some (.int x1)] st H Q :=
  zw_aload_n (i := 0) dAb_setLength_13 rfl rfl zRf_ref <| zw_iload_n (i := 1) dAb_setLength_14 rfl rfl <| zw_callV [(.int x1)] _ dAb_setLength_15 hd zk_Ab_100 ho rfl rfl hl hc (zPv_k kk)
theorem sAb_setLength_18 {G : zG} {d : Nat} {Q : Option Value → Heap → Prop} {H : Heap} {st : List Value} {a0 : Nat} {xf1 : Int32} {x1 : Int32} (hf1 : zFd G H a0 1 3 (.int xf1)) (kt : (x1 ≤ xf1) → zW G d M_Ab_setLength 63 [some (.ref a0), some (.int x1)] st H Q) (kf : (¬ x1 ≤ xf1) → zW G d M_Ab_setLength 26 [some (.ref a0), some (.int x1)] st H Q) : zW G d M_Ab_setLength 18 [some (.ref a0), some (.int x1)] st H Q :=
  zw_aload_n (i := 0) dAb_setLength_18 rfl rfl zRf_ref <| zw_getf dAb_setLength_19 zf_Ab_79 hf1 <| zw_iload_n (i := 1) dAb_setLength_22 rfl rfl <| zw_icmp_ge 63 dAb_setLength_23 (by decide) kt kf
theorem sAb_setLength_26 {G : zG} {d : Nat} {Q : Option Value → Heap → Prop} {H : Heap} {st : List Value} {o1 : Option Value} {a0 : Nat} {P : Int32 → Heap → Prop} (hd : 1 ≤ d) (hl : st.length ≤ 4) (ho : zIs G H a0 1) (hc : zC G (d - 1) M_Ab_isLatin1 [(.ref a0)] H (zPi P)) (kk : ∀ (r : Int32) (H1 : Heap), P r H1 → zOk G H1 → H.size ≤ H1.size → zT H ≤ zT H1 → zW G d M_Ab_setLength 30 [some (.ref a0), o1] ((.int r) :: st) H1 Q) : zW G d M_Ab_setLength 26 [some (.ref a0), o1] st H Q :=
  zw_aload_n (i := 0) dAb_setLength_26 rfl rfl zRf_ref <| zw_callV [] _ dAb_setLength_27 hd zk_Ab_83 ho rfl rfl hl hc (zPi_k kk)
theorem sAb_setLength_30 {G : zG} {d : Nat} {Q : Option Value → Heap → Prop} {H : Heap} {st : List Value} {o0 : Option Value} {o1 : Option Value} {xs0 : Int32} (kt : (xs0 = 0) → zW G d M_Ab_setLength 48 [o0, o1] st H Q) (kf : (¬ xs0 = 0) → zW G d M_Ab_setLength 33 [o0, o1] st H Q) : zW G d M_Ab_setLength 30 [o0, o1] ((.int xs0) :: st) H Q :=
  zw_if_eq 48 dAb_setLength_30 (by decide) kt kf
theorem sAb_setLength_33 {G : zG} {d : Nat} {Q : Option Value → Heap → Prop} {H : Heap} {st : List Value} {a0 : Nat} {vf1 : Value} {xf2 : Int32} {x1 : Int32} {P : Heap → Prop} (hrf1 : zRf vf1 := by first | exact zRf_ref | exact zRf_null | exact zRf_rf _ | assumption) (hf1 : zFd G H a0 1 0 vf1) (hf2 : zFd G H a0 1 3 (.int xf2)) (hd : 1 ≤ d) (hl : st.length ≤ 4) (hc : zC G (d - 1) M_L1_fillNull [vf1, (.int xf2), (.int x1)] H (zPv P)) (kk : ∀ H1 : Heap, P H1 → zOk G H1 → H.size ≤ H1.size → zT H ≤ zT H1 → zW G d M_Ab_setLength 45 [some (.ref a0), some (.int x1)] st H1 Q) : zW G d M_Ab_setLength 33 [some (.ref a0), some (.int x1)] st H Q :=
  zw_aload_n (i := 0) dAb_setLength_33 rfl rfl zRf_ref <| zw_getf dAb_setLength_34 zf_Ab_15 hf1 <| zw_aload_n (i := 0) dAb_setLength_37 rfl rfl zRf_ref <| zw_getf dAb_setLength_38 zf_Ab_79 hf2 <| zw_iload_n (i := 1) dAb_setLength_41 rfl rfl <| zw_callS [vf1, (.int xf2), (.int x1)] _ dAb_setLength_42 hd zk_Ab_133 rfl rfl hl hc (zPv_k kk)
theorem sAb_setLength_45 {G : zG} {d : Nat} {Q : Option Value → Heap → Prop} {H : Heap} {st : List Value} {a0 : Nat} {x1 : Int32} {b0 : Value} {b1 : Value} {b2 : Value} {b3 : Value} (ho : zObj G H a0 1 [b0, b1, b2, b3]) (hw : zFr G a0) (kk : ∀ H1 : Heap, zObj G H1 a0 1 [b0, b1, b2, (.int x1)] → zUp a0 H H1 → zW G d M_Ab_setLength 81 [some (.ref a0), some (.int x1)] st H1 Q) : zW G d M_Ab_setLength 45 [some (.ref a0), some (.int x1)] st H Q :=
  zw_goto 76 dAb_setLength_45 (by decide) <| zw_aload_n (i := 0) dAb_setLength_76 rfl rfl zRf_ref <| zw_iload_n (i := 1) dAb_setLength_77 rfl rfl <| zw_putf (k := 3) dAb_setLength_78 zp_Ab_setLength_79 ho (Nat.le_of_ble_eq_true rfl) (Nat.le_of_ble_eq_true rfl) hw rfl rfl kk
theorem sAb_setLength_48 {G : zG} {d : Nat} {Q : Option Value → Heap → Prop} {H : Heap} {st : List Value} {a0 : Nat} {vf1 : Value} {xf2 : Int32} {x1 : Int32} {P : Heap → Prop} (hrf1 : zRf vf1 := by first | exact zRf_ref | exact zRf_null | exact zRf_rf _ | assumption) (hf1 : zFd G H a0 1 0 vf1) (hf2 : zFd G H a0 1 3 (.int xf2)) (hd : 1 ≤ d) (hl : st.length ≤ 4) (hc : zC G (d - 1) M_U16_fillNull [vf1, (.int xf2), (.int x1)] H (zPv P)) (kk : ∀ H1 : Heap, P H1 → zOk G H1 → H.size ≤ H1.size → zT H ≤ zT H1 → zW G d M_Ab_setLength 60 [some (.ref a0), some (.int x1)] st H1 Q) : zW G d M_Ab_setLength 48 [some (.ref a0), some (.int x1)] st H Q :=
  zw_aload_n (i := 0) dAb_setLength_48 rfl rfl zRf_ref <| zw_getf dAb_setLength_49 zf_Ab_15 hf1 <| zw_aload_n (i := 0) dAb_setLength_52 rfl rfl zRf_ref <| zw_getf dAb_setLength_53 zf_Ab_79 hf2 <| zw_iload_n (i := 1) dAb_setLength_56 rfl rfl <| zw_callS [vf1, (.int xf2), (.int x1)] _ dAb_setLength_57 hd zk_Ab_137 rfl rfl hl hc (zPv_k kk)
theorem sAb_setLength_60 {G : zG} {d : Nat} {Q : Option Value → Heap → Prop} {H : Heap} {st : List Value} {a0 : Nat} {x1 : Int32} {b0 : Value} {b1 : Value} {b2 : Value} {b3 : Value} (ho : zObj G H a0 1 [b0, b1, b2, b3]) (hw : zFr G a0) (kk : ∀ H1 : Heap, zObj G H1 a0 1 [b0, b1, b2, (.int x1)] → zUp a0 H H1 → zW G d M_Ab_setLength 81 [some (.ref a0), some (.int x1)] st H1 Q) : zW G d M_Ab_setLength 60 [some (.ref a0), some (.int x1)] st H Q :=
  zw_goto 76 dAb_setLength_60 (by decide) <| zw_aload_n (i := 0) dAb_setLength_76 rfl rfl zRf_ref <| zw_iload_n (i := 1) dAb_setLength_77 rfl rfl <| zw_putf (k := 3) dAb_setLength_78 zp_Ab_setLength_79 ho (Nat.le_of_ble_eq_true rfl) (Nat.le_of_ble_eq_true rfl) hw rfl rfl kk
theorem sAb_setLength_63 {G : zG} {d : Nat} {Q : Option Value → Heap → Prop} {H : Heap} {st : List Value} {a0 : Nat} {xf1 : Int32} {x1 : Int32} (hf1 : zFd G H a0 1 3 (.int xf1)) (kt : (xf1 ≤ x1) → zW G d M_Ab_setLength 76 [some (.ref a0), some (.int x1)] st H Q) (kf : (¬ xf1 ≤ x1) → zW G d M_Ab_setLength 71 [some (.ref a0), some (.int x1)] st H Q) : zW G d M_Ab_setLength 63 [some (.ref a0), some (.int x1)] st H Q :=
  zw_aload_n (i := 0) dAb_setLength_63 rfl rfl zRf_ref <| zw_getf dAb_setLength_64 zf_Ab_79 hf1 <| zw_iload_n (i := 1) dAb_setLength_67 rfl rfl <| zw_icmp_le 76 dAb_setLength_68 (by decide) kt kf
theorem sAb_setLength_71 {G : zG} {d : Nat} {Q : Option Value → Heap → Prop} {H : Heap} {st : List Value} {o1 : Option Value} {a0 : Nat} {b0 : Value} {b1 : Value} {b2 : Value} {b3 : Value} (ho : zObj G H a0 1 [b0, b1, b2, b3]) (hw : zFr G a0) (hn : narrow .boolean (.int (1 : Int32)) = (.int (1 : Int32))) (hfit : fits .boolean (.int (1 : Int32)) = true) (kk : ∀ H1 : Heap, zObj G H1 a0 1 [b0, b1, (.int (1 : Int32)), b3] → zUp a0 H H1 → zW G d M_Ab_setLength 76 [some (.ref a0), o1] st H1 Q) : zW G d M_Ab_setLength 71 [some (.ref a0), o1] st H Q :=
  zw_aload_n (i := 0) dAb_setLength_71 rfl rfl zRf_ref <| zw_iconst (1 : Int32) dAb_setLength_72 zki_1 <| zw_putf (k := 2) dAb_setLength_73 zp_Ab_setLength_73 ho (Nat.le_of_ble_eq_true rfl) (Nat.le_of_ble_eq_true rfl) hw hn hfit kk
theorem sAb_setLength_76 {G : zG} {d : Nat} {Q : Option Value → Heap → Prop} {H : Heap} {st : List Value} {a0 : Nat} {x1 : Int32} {b0 : Value} {b1 : Value} {b2 : Value} {b3 : Value} (ho : zObj G H a0 1 [b0, b1, b2, b3]) (hw : zFr G a0) (kk : ∀ H1 : Heap, zObj G H1 a0 1 [b0, b1, b2, (.int x1)] → zUp a0 H H1 → zW G d M_Ab_setLength 81 [some (.ref a0), some (.int x1)] st H1 Q) : zW G d M_Ab_setLength 76 [some (.ref a0), some (.int x1)] st H Q :=
  zw_aload_n (i := 0) dAb_setLength_76 rfl rfl zRf_ref <| zw_iload_n (i := 1) dAb_setLength_77 rfl rfl <| zw_putf (k := 3) dAb_setLength_78 zp_Ab_setLength_79 ho (Nat.le_of_ble_eq_true rfl) (Nat.le_of_ble_eq_true rfl) hw rfl rfl kk
theorem sAb_setLength_81 {G : zG} {d : Nat} {Q : Option Value → Heap → Prop} {H : Heap} {o0 : Option Value} {o1 : Option Value} (hq : Q none H) : zW G d M_Ab_setLength 81 [o0, o1] [] H Q :=
  zw_vret dAb_setLength_81 rfl hq
theorem sSb_charAt_0 {G : zG} {d : Nat} {Q : Option Value → Heap → Prop} {H : Heap} {st : List Value} {a0 : Nat} {x1 : Int32} {P : Int32 → Heap → Prop} (hd : 1 ≤ d) (hl : st.length ≤ 4) (ho : zIs G H a0 1) (hc : zC G (d - 1) M_Ab_charAt [(.ref a0), (.int x1)] H (zPi P)) (kk : ∀ (r : Int32) (H1 : Heap), P r H1 → zOk G H1 → H.size ≤ H1.size → zT H ≤ zT H1 → zW G d M_Sb_charAt 5 [some (.ref a0), some (.int x1)] ((.int r) :: st) H1 Q) : zW G d M_Sb_charAt 0 [some (.ref a0), some (.int x1)] st H Q :=
  zw_aload_n (i := 0) dSb_charAt_0 rfl rfl zRf_ref <| zw_iload_n (i := 1) dSb_charAt_1 rfl rfl <| zw_callSU [(.int x1)] _ dSb_charAt_2 hd zk_Sb_329 ho rfl rfl hl hc (zPi_k kk)
theorem sSb_charAt_5 {G : zG} {d : Nat} {Q : Option Value → Heap → Prop} {H : Heap} {o0 : Option Value} {o1 : Option Value} {xs0 : Int32} (hn : narrow .char (.int xs0) = .int xs0) (hq : Q (some (.int xs0)) H) : zW G d M_Sb_charAt 5 [o0, o1] ((.int xs0) :: []) H Q :=
  zw_iret dSb_charAt_5 .char rfl hn hq
theorem sAb_charAt_0 {G : zG} {d : Nat} {Q : Option Value → Heap → Prop} {H : Heap} {st : List Value} {o1 : Option Value} {o2 : Option Value} {o3 : Option Value} {o4 : Option Value} {a0 : Nat} {xf1 : Int32} {af2 : Nat} {xf3 : Int32} {n4 : Nat} {t4 : FieldType} {g4 : Nat → Value} {P : Int32 → Heap → Prop} (hf1 : zFd G H a0 1 1 (.int xf1)) (hf2 : zFd G H a0 1 0 (.ref af2)) (hf3 : zFd G H a0 1 3 (.int xf3)) (ha4 : zArr G H af2 t4 n4 g4) (hd : 1 ≤ d) (hl : st.length ≤ 4) (hc : zC G (d - 1) M_Ma_min [(.int xf3), (.int ((nI n4) >>> (xf1 &&& 31)))] H (zPi P)) (kk : ∀ (r : Int32) (H1 : Heap), P r H1 → zOk G H1 → H.size ≤ H1.size → zT H ≤ zT H1 → zW G d M_Ab_charAt 21 [some (.ref a0), o1, some (.int xf1), some (.ref af2), o4] ((.int r) :: st) H1 Q) : zW G d M_Ab_charAt 0 [some (.ref a0), o1, o2, o3, o4] st H Q :=
  zw_aload_n (i := 0) dAb_charAt_0 rfl rfl zRf_ref <| zw_getf dAb_charAt_1 zf_Ab_22 hf1 <| zw_istore_n (i := 2) dAb_charAt_4 rfl (Nat.le_of_ble_eq_true rfl) <| zw_aload_n (i := 0) dAb_charAt_5 rfl rfl zRf_ref <| zw_getf dAb_charAt_6 zf_Ab_15 hf2 <| zw_astore_n (i := 3) dAb_charAt_9 rfl (Nat.le_of_ble_eq_true rfl) zRf_ref <| zw_aload_n (i := 0) dAb_charAt_10 rfl rfl zRf_ref <| zw_getf dAb_charAt_11 zf_Ab_79 hf3 <| zw_aload_n (i := 3) dAb_charAt_14 rfl rfl zRf_ref <| zw_alen dAb_charAt_15 ha4 <| zw_iload_n (i := 2) dAb_charAt_16 rfl rfl <| zw_ishr dAb_charAt_17 <| zw_callS [(.int xf3), (.int ((nI n4) >>> (xf1 &&& 31)))] _ dAb_charAt_18 hd zk_Ab_138 rfl rfl hl hc (zPi_k kk)
theorem sAb_charAt_21 {G : zG} {d : Nat} {Q : Option Value → Heap → Prop} {H : Heap} {st : List Value} {o0 : Option Value} {o2 : Option Value} {o3 : Option Value} {o4 : Option Value} {xs0 : Int32} {x1 : Int32} {P : Heap → Prop} (hd : 1 ≤ d) (hl : st.length ≤ 4) (hc : zC G (d - 1) M_St_checkIndex [(.int x1), (.int xs0)] H (zPv P)) (kk : ∀ H1 : Heap, P H1 → zOk G H1 → H.size ≤ H1.size → zT H ≤ zT H1 → zW G d M_Ab_charAt 29 [o0, some (.int x1), o2, o3, some (.int xs0)] st H1 Q) : zW G d M_Ab_charAt 21 [o0, some (.int x1), o2, o3, o4] ((.int xs0) :: st) H Q :=
  zw_istore (i := 4) dAb_charAt_21 (Nat.le_of_ble_eq_true rfl) <| zw_iload_n (i := 1) dAb_charAt_23 rfl rfl <| zw_iload (i := 4) dAb_charAt_24 rfl <| zw_callS [(.int x1), (.int xs0)] _ dAb_charAt_26 hd zk_Ab_144 rfl rfl hl hc (zPv_k kk)
theorem sAb_charAt_29 {G : zG} {d : Nat} {Q : Option Value → Heap → Prop} {H : Heap} {st : List Value} {o0 : Option Value} {o1 : Option Value} {o3 : Option Value} {o4 : Option Value} {x2 : Int32} (kt : (¬ x2 = 0) → zW G d M_Ab_charAt 42 [o0, o1, some (.int x2), o3, o4] st H Q) (kf : (x2 = 0) → zW G d M_Ab_charAt 33 [o0, o1, some (.int x2), o3, o4] st H Q) : zW G d M_Ab_charAt 29 [o0, o1, some (.int x2), o3, o4] st H Q :=
  zw_iload_n (i := 2) dAb_charAt_29 rfl rfl <| zw_if_ne 42 dAb_charAt_30 (by decide) kt kf
theorem sAb_charAt_33 {G : zG} {d : Nat} {Q : Option Value → Heap → Prop} {H : Heap} {o0 : Option Value} {o2 : Option Value} {o4 : Option Value} {a3 : Nat} {x1 : Int32} {n1 : Nat} {g1 : Nat → Int32} (ha1 : zArr G H a3 .byte n1 (fun j => .int (g1 j))) (hi1 : vp_in x1 n1) (hn : narrow .char (.int ((((g1 (x1).toNatClampNeg) &&& (255 : Int32))).toUInt32 % 65536).toInt32) = .int ((((g1 (x1).toNatClampNeg) &&& (255 : Int32))).toUInt32 % 65536).toInt32) (hq : Q (some (.int ((((g1 (x1).toNatClampNeg) &&& (255 : Int32))).toUInt32 % 65536).toInt32)) H) : zW G d M_Ab_charAt 33 [o0, some (.int x1), o2, some (.ref a3), o4] [] H Q :=
  zw_aload_n (i := 3) dAb_charAt_33 rfl rfl zRf_ref <| zw_iload_n (i := 1) dAb_charAt_34 rfl rfl <| zw_bald dAb_charAt_35 ha1 hi1 <| zw_sipush (255 : Int32) dAb_charAt_36 zks_255 <| zw_iand dAb_charAt_39 <| zw_i2c dAb_charAt_40 <| zw_iret dAb_charAt_41 .char rfl hn hq
theorem sAb_charAt_42 {G : zG} {d : Nat} {Q : Option Value → Heap → Prop} {H : Heap} {st : List Value} {o0 : Option Value} {o2 : Option Value} {o4 : Option Value} {v3 : Value} {x1 : Int32} {P : Int32 → Heap → Prop} (hr3 : zRf v3 := by first | exact zRf_ref | exact zRf_null | exact zRf_rf _ | assumption) (hd : 1 ≤ d) (hl : st.length ≤ 4) (hc : zC G (d - 1) M_U16_getChar [v3, (.int x1)] H (zPi P)) (kk : ∀ (r : Int32) (H1 : Heap), P r H1 → zOk G H1 → H.size ≤ H1.size → zT H ≤ zT H1 → zW G d M_Ab_charAt 47 [o0, some (.int x1), o2, some v3, o4] ((.int r) :: st) H1 Q) : zW G d M_Ab_charAt 42 [o0, some (.int x1), o2, some v3, o4] st H Q :=
  zw_aload_n (i := 3) dAb_charAt_42 rfl rfl hr3 <| zw_iload_n (i := 1) dAb_charAt_43 rfl rfl <| zw_callS [v3, (.int x1)] _ dAb_charAt_44 hd zk_Ab_148 rfl rfl hl hc (zPi_k kk)
theorem sAb_charAt_47 {G : zG} {d : Nat} {Q : Option Value → Heap → Prop} {H : Heap} {o0 : Option Value} {o1 : Option Value} {o2 : Option Value} {o3 : Option Value} {o4 : Option Value} {xs0 : Int32} (hn : narrow .char (.int xs0) = .int xs0) (hq : Q (some (.int xs0)) H) : zW G d M_Ab_charAt 47 [o0, o1, o2, o3, o4] ((.int xs0) :: []) H Q :=
  zw_iret dAb_charAt_47 .char rfl hn hq
theorem sSb_toString_0 {G : zG} {d : Nat} {Q : Option Value → Heap → Prop} {H : Heap} {st : List Value} {o0 : Option Value} (hc1 : H.size + 1 ≤ zCp G) (hs1 : zT H + 4 ≤ zSp G) (kk : ∀ H1 : Heap, zObj G H1 H.size 8 [.null, .int 0, .int 0, .int 0] → zNw 4 H H1 → zW G d M_Sb_toString 3 [o0] ((.ref H.size) :: st) H1 Q) : zW G d M_Sb_toString 0 [o0] st H Q :=
  zw_new dSb_toString_0 zn_Sb_toString_18 hc1 hs1 kk
theorem sSb_toString_3 {G : zG} {d : Nat} {Q : Option Value → Heap → Prop} {H : Heap} {st : List Value} {as0 : Nat} {v0 : Value} {P : Heap → Prop} (hr0 : zRf v0 := by first | exact zRf_ref | exact zRf_null | exact zRf_rf _ | assumption) (hd : 1 ≤ d) (hl : ((.ref as0) :: st).length ≤ 4) (hc : zC G (d - 1) M_St_init_0 [(.ref as0), v0] H (zPv P)) (kk : ∀ H1 : Heap, P H1 → zOk G H1 → H.size ≤ H1.size → zT H ≤ zT H1 → zW G d M_Sb_toString 8 [some v0] ((.ref as0) :: st) H1 Q) : zW G d M_Sb_toString 3 [some v0] ((.ref as0) :: st) H Q :=
  zw_dup dSb_toString_3 rfl <| zw_aload_n (i := 0) dSb_toString_4 rfl rfl hr0 <| zw_callI [v0] _ dSb_toString_5 hd zk_Sb_137 rfl rfl hl hc (zPv_k kk)
theorem sSb_toString_8 {G : zG} {d : Nat} {Q : Option Value → Heap → Prop} {H : Heap} {o0 : Option Value} {vs0 : Value} (hrs0 : zRf vs0 := by first | exact zRf_ref | exact zRf_null | exact zRf_rf _ | assumption) (hq : Q (some vs0) H) : zW G d M_Sb_toString 8 [o0] (vs0 :: []) H Q :=
  zw_aret dSb_toString_8 (.object "java/lang/String") rfl (Or.inl ⟨_, rfl⟩) hrs0 hq
theorem sAb_getValue_0 {G : zG} {d : Nat} {Q : Option Value → Heap → Prop} {H : Heap} {a0 : Nat} {vf1 : Value} (hrf1 : zRf vf1 := by first | exact zRf_ref | exact zRf_null | exact zRf_rf _ | assumption) (hf1 : zFd G H a0 1 0 vf1) (hq : Q (some vf1) H) : zW G d M_Ab_getValue 0 [some (.ref a0)] [] H Q :=
  zw_aload_n (i := 0) dAb_getValue_0 rfl rfl zRf_ref <| zw_getf dAb_getValue_1 zf_Ab_15 hf1 <| zw_aret dAb_getValue_4 (.array .byte) rfl (Or.inr ⟨_, rfl⟩) hrf1 hq
theorem sSb_append_1_0 {G : zG} {d : Nat} {Q : Option Value → Heap → Prop} {H : Heap} {st : List Value} {a0 : Nat} {v1 : Value} {P : Value → Heap → Prop} (hr1 : zRf v1 := by first | exact zRf_ref | exact zRf_null | exact zRf_rf _ | assumption) (hd : 1 ≤ d) (hl : st.length ≤ 4) (ho : zIs G H a0 1) (hc : zC G (d - 1) M_Ab_append_1 [(.ref a0), v1] H (zPr P)) (kk : ∀ (r : Value) (H1 : Heap), zRf r → P r H1 → zOk G H1 → H.size ≤ H1.size → zT H ≤ zT H1 → zW G d M_Sb_append_1 5 [some (.ref a0), some v1] (r :: st) H1 Q) : zW G d M_Sb_append_1 0 [some (.ref a0), some v1] st H Q :=
  zw_aload_n (i := 0) dSb_append_1_0 rfl rfl zRf_ref <| zw_aload_n (i := 1) dSb_append_1_1 rfl rfl hr1 <| zw_callSU [v1] _ dSb_append_1_2 hd zk_Sb_29 ho rfl rfl hl hc (zPr_k kk)
theorem sSb_append_1_5 {G : zG} {d : Nat} {Q : Option Value → Heap → Prop} {H : Heap} {o1 : Option Value} {ws0 : Value} {v0 : Value} (hcs0 : ws0.category = 1 := by first | rfl | exact zRf.cat (by assumption)) (hr0 : zRf v0 := by first | exact zRf_ref | exact zRf_null | exact zRf_rf _ | assumption) (hq : Q (some v0) H) : zW G d M_Sb_append_1 5 [some v0, o1] (ws0 :: []) H Q :=
  zw_pop dSb_append_1_5 hcs0 <| zw_aload_n (i := 0) dSb_append_1_6 rfl rfl hr0 <| zw_aret dSb_append_1_7 (.object "java/lang/StringBuilder") rfl (Or.inl ⟨_, rfl⟩) hr0 hq
theorem sAb_append_1_0 {G : zG} {d : Nat} {Q : Option Value → Heap → Prop} {H : Heap} {st : List Value} {o0 : Option Value} {o2 : Option Value} {v1 : Value} (hr1 : zRf v1 := by first | exact zRf_ref | exact zRf_null | exact zRf_rf _ | assumption) (kt : (∀ a : Nat, v1 = .ref a → zW G d M_Ab_append_1 9 [o0, some v1, o2] st H Q)) (kf : (v1 = .null) → zW G d M_Ab_append_1 4 [o0, some v1, o2] st H Q) : zW G d M_Ab_append_1 0 [o0, some v1, o2] st H Q :=
  zw_aload_n (i := 1) dAb_append_1_0 rfl rfl hr1 <| zw_ifnonnull 9 dAb_append_1_1 (by decide) hr1 kt kf
theorem sAb_append_1_4 {G : zG} {d : Nat} {Q : Option Value → Heap → Prop} {H : Heap} {st : List Value} {o1 : Option Value} {o2 : Option Value} {a0 : Nat} {P : Value → Heap → Prop} (hd : 1 ≤ d) (hl : st.length ≤ 4) (ho : zIs G H a0 1) (hc : zC G (d - 1) M_Ab_appendNull [(.ref a0)] H (zPr P)) (kk : ∀ (r : Value) (H1 : Heap), zRf r → P r H1 → zOk G H1 → H.size ≤ H1.size → zT H ≤ zT H1 → zW G d M_Ab_append_1 8 [some (.ref a0), o1, o2] (r :: st) H1 Q) : zW G d M_Ab_append_1 4 [some (.ref a0), o1, o2] st H Q :=
  zw_aload_n (i := 0) dAb_append_1_4 rfl rfl zRf_ref <| zw_callV [] _ dAb_append_1_5 hd zk_Ab_204 ho rfl rfl hl hc (zPr_k kk)
theorem sAb_append_1_8 {G : zG} {d : Nat} {Q : Option Value → Heap → Prop} {H : Heap} {o0 : Option Value} {o1 : Option Value} {o2 : Option Value} {vs0 : Value} (hrs0 : zRf vs0 := by first | exact zRf_ref | exact zRf_null | exact zRf_rf _ | assumption) (hq : Q (some vs0) H) : zW G d M_Ab_append_1 8 [o0, o1, o2] (vs0 :: []) H Q :=
  zw_aret dAb_append_1_8 (.object "java/lang/AbstractStringBuilder") rfl (Or.inl ⟨_, rfl⟩) hrs0 hq
theorem sAb_append_1_9 {G : zG} {d : Nat} {Q : Option Value → Heap → Prop} {H : Heap} {st : List Value} {o0 : Option Value} {o2 : Option Value} {a1 : Nat} {P : Int32 → Heap → Prop} (hd : 1 ≤ d) (hl : st.length ≤ 4) (ho : zIs G H a1 8) (hc : zC G (d - 1) M_St_length [(.ref a1)] H (zPi P)) (kk : ∀ (r : Int32) (H1 : Heap), P r H1 → zOk G H1 → H.size ≤ H1.size → zT H ≤ zT H1 → zW G d M_Ab_append_1 13 [o0, some (.ref a1), o2] ((.int r) :: st) H1 Q) : zW G d M_Ab_append_1 9 [o0, some (.ref a1), o2] st H Q :=
  zw_aload_n (i := 1) dAb_append_1_9 rfl rfl zRf_ref <| zw_callV [] _ dAb_append_1_10 hd zk_Ab_32 ho rfl rfl hl hc (zPi_k kk)
theorem sAb_append_1_13 {G : zG} {d : Nat} {Q : Option Value → Heap → Prop} {H : Heap} {st : List Value} {o1 : Option Value} {o2 : Option Value} {xs0 : Int32} {a0 : Nat} {xf1 : Int32} {P : Heap → Prop} (hf1 : zFd G H a0 1 3 (.int xf1)) (hd : 1 ≤ d) (hl : st.length ≤ 4) (ho : zIs G H a0 1) (hc : zC G (d - 1) M_Ab_ensureCapacityInternal [(.ref a0), (.int (xf1 + xs0))] H (zPv P)) (kk : ∀ H1 : Heap, P H1 → zOk G H1 → H.size ≤ H1.size → zT H ≤ zT H1 → zW G d M_Ab_append_1 24 [some (.ref a0), o1, some (.int xs0)] st H1 Q) : zW G d M_Ab_append_1 13 [some (.ref a0), o1, o2] ((.int xs0) :: st) H Q :=
  zw_istore_n (i := 2) dAb_append_1_13 rfl (Nat.le_of_ble_eq_true rfl) <| zw_aload_n (i := 0) dAb_append_1_14 rfl rfl zRf_ref <| zw_aload_n (i := 0) dAb_append_1_15 rfl rfl zRf_ref <| zw_getf dAb_append_1_16 zf_Ab_79 hf1 <| zw_iload_n (i := 2) dAb_append_1_19 rfl rfl <| zw_iadd dAb_append_1_20 <| zw_callV [(.int (xf1 + xs0))] _ dAb_append_1_21 hd zk_Ab_100 ho rfl rfl hl hc (zPv_k kk)
theorem sAb_append_1_24 {G : zG} {d : Nat} {Q : Option Value → Heap → Prop} {H : Heap} {st : List Value} {o2 : Option Value} {a0 : Nat} {xf1 : Int32} {v1 : Value} {P : Heap → Prop} (hr1 : zRf v1 := by first | exact zRf_ref | exact zRf_null | exact zRf_rf _ | assumption) (hf1 : zFd G H a0 1 3 (.int xf1)) (hd : 1 ≤ d) (hl : st.length ≤ 4) (ho : zIs G H a0 1) (hc : zC G (d - 1) M_Ab_putStringAt [(.ref a0), (.int xf1), v1] H (zPv P)) (kk : ∀ H1 : Heap, P H1 → zOk G H1 → H.size ≤ H1.size → zT H ≤ zT H1 → zW G d M_Ab_append_1 33 [some (.ref a0), some v1, o2] st H1 Q) : zW G d M_Ab_append_1 24 [some (.ref a0), some v1, o2] st H Q :=
  zw_aload_n (i := 0) dAb_append_1_24 rfl rfl zRf_ref <| zw_aload_n (i := 0) dAb_append_1_25 rfl rfl zRf_ref <| zw_getf dAb_append_1_26 zf_Ab_79 hf1 <| zw_aload_n (i := 1) dAb_append_1_29 rfl rfl hr1 <| zw_callV [(.int xf1), v1] _ dAb_append_1_30 hd zk_Ab_208 ho rfl rfl hl hc (zPv_k kk)
theorem sAb_append_1_33 {G : zG} {d : Nat} {Q : Option Value → Heap → Prop} {H : Heap} {st : List Value} {o1 : Option Value} {a0 : Nat} {xf1 : Int32} {x2 : Int32} {b0 : Value} {b1 : Value} {b2 : Value} {b3 : Value} (hf1 : zFd G H a0 1 3 (.int xf1)) (ho : zObj G H a0 1 [b0, b1, b2, b3]) (hw : zFr G a0) (kk : ∀ H1 : Heap, zObj G H1 a0 1 [b0, b1, b2, (.int (xf1 + x2))] → zUp a0 H H1 → zW G d M_Ab_append_1 43 [some (.ref a0), o1, some (.int x2)] st H1 Q) : zW G d M_Ab_append_1 33 [some (.ref a0), o1, some (.int x2)] st H Q :=
  zw_aload_n (i := 0) dAb_append_1_33 rfl rfl zRf_ref <| zw_dup dAb_append_1_34 rfl <| zw_getf dAb_append_1_35 zf_Ab_79 hf1 <| zw_iload_n (i := 2) dAb_append_1_38 rfl rfl <| zw_iadd dAb_append_1_39 <| zw_putf (k := 3) dAb_append_1_40 zp_Ab_append_1_79 ho (Nat.le_of_ble_eq_true rfl) (Nat.le_of_ble_eq_true rfl) hw rfl rfl kk
theorem sAb_append_1_43 {G : zG} {d : Nat} {Q : Option Value → Heap → Prop} {H : Heap} {o1 : Option Value} {o2 : Option Value} {v0 : Value} (hr0 : zRf v0 := by first | exact zRf_ref | exact zRf_null | exact zRf_rf _ | assumption) (hq : Q (some v0) H) : zW G d M_Ab_append_1 43 [some v0, o1, o2] [] H Q :=
  zw_aload_n (i := 0) dAb_append_1_43 rfl rfl hr0 <| zw_aret dAb_append_1_44 (.object "java/lang/AbstractStringBuilder") rfl (Or.inl ⟨_, rfl⟩) hr0 hq
theorem sAb_appendNull_0 {G : zG} {d : Nat} {Q : Option Value → Heap → Prop} {H : Heap} {st : List Value} {o1 : Option Value} {o2 : Option Value} {a0 : Nat} {xf1 : Int32} {P : Heap → Prop} (hf1 : zFd G H a0 1 3 (.int xf1)) (hd : 1 ≤ d) (hl : st.length ≤ 4) (ho : zIs G H a0 1) (hc : zC G (d - 1) M_Ab_ensureCapacityInternal [(.ref a0), (.int (xf1 + (4 : Int32)))] H (zPv P)) (kk : ∀ H1 : Heap, P H1 → zOk G H1 → H.size ≤ H1.size → zT H ≤ zT H1 → zW G d M_Ab_appendNull 10 [some (.ref a0), o1, o2] st H1 Q) : zW G d M_Ab_appendNull 0 [some (.ref a0), o1, o2] st H Q :=
  zw_aload_n (i := 0) dAb_appendNull_0 rfl rfl zRf_ref <| zw_aload_n (i := 0) dAb_appendNull_1 rfl rfl zRf_ref <| zw_getf dAb_appendNull_2 zf_Ab_79 hf1 <| zw_iconst (4 : Int32) dAb_appendNull_5 zki_4 <| zw_iadd dAb_appendNull_6 <| zw_callV [(.int (xf1 + (4 : Int32)))] _ dAb_appendNull_7 hd zk_Ab_100 ho rfl rfl hl hc (zPv_k kk)
theorem sAb_appendNull_10 {G : zG} {d : Nat} {Q : Option Value → Heap → Prop} {H : Heap} {st : List Value} {o1 : Option Value} {o2 : Option Value} {a0 : Nat} {xf1 : Int32} {vf2 : Value} {P : Int32 → Heap → Prop} (hrf2 : zRf vf2 := by first | exact zRf_ref | exact zRf_null | exact zRf_rf _ | assumption) (hf1 : zFd G H a0 1 3 (.int xf1)) (hf2 : zFd G H a0 1 0 vf2) (hd : 1 ≤ d) (hl : st.length ≤ 4) (ho : zIs G H a0 1) (hc : zC G (d - 1) M_Ab_isLatin1 [(.ref a0)] H (zPi P)) (kk : ∀ (r : Int32) (H1 : Heap), P r H1 → zOk G H1 → H.size ≤ H1.size → zT H ≤ zT H1 → zW G d M_Ab_appendNull 24 [some (.ref a0), some (.int xf1), some vf2] ((.int r) :: st) H1 Q) : zW G d M_Ab_appendNull 10 [some (.ref a0), o1, o2] st H Q :=
  zw_aload_n (i := 0) dAb_appendNull_10 rfl rfl zRf_ref <| zw_getf dAb_appendNull_11 zf_Ab_79 hf1 <| zw_istore_n (i := 1) dAb_appendNull_14 rfl (Nat.le_of_ble_eq_true rfl) <| zw_aload_n (i := 0) dAb_appendNull_15 rfl rfl zRf_ref <| zw_getf dAb_appendNull_16 zf_Ab_15 hf2 <| zw_astore_n (i := 2) dAb_appendNull_19 rfl (Nat.le_of_ble_eq_true rfl) hrf2 <| zw_aload_n (i := 0) dAb_appendNull_20 rfl rfl zRf_ref <| zw_callV [] _ dAb_appendNull_21 hd zk_Ab_83 ho rfl rfl hl hc (zPi_k kk)
theorem sAb_appendNull_24 {G : zG} {d : Nat} {Q : Option Value → Heap → Prop} {H : Heap} {st : List Value} {o0 : Option Value} {o1 : Option Value} {o2 : Option Value} {xs0 : Int32} (kt : (xs0 = 0) → zW G d M_Ab_appendNull 62 [o0, o1, o2] st H Q) (kf : (¬ xs0 = 0) → zW G d M_Ab_appendNull 27 [o0, o1, o2] st H Q) : zW G d M_Ab_appendNull 24 [o0, o1, o2] ((.int xs0) :: st) H Q :=
  zw_if_eq 62 dAb_appendNull_24 (by decide) kt kf
theorem sAb_appendNull_27 {G : zG} {d : Nat} {Q : Option Value → Heap → Prop} {H : Heap} {st : List Value} {o0 : Option Value} {a2 : Nat} {x1 : Int32} {n : Nat} {g : Nat → Value} (ha : zArr G H a2 .byte n g) (hi : vp_in x1 n) (hw : zFr G a2) (kk : ∀ H1 : Heap, zArr G H1 a2 .byte n (updV g (x1).toNatClampNeg (.int ((110 : Int32)).toInt8.toInt32)) → zUp a2 H H1 → zW G d M_Ab_appendNull 35 [o0, some (.int (x1 + (1 : Int32))), some (.ref a2)] st H1 Q) : zW G d M_Ab_appendNull 27 [o0, some (.int x1), some (.ref a2)] st H Q :=
  zw_aload_n (i := 2) dAb_appendNull_27 rfl rfl zRf_ref <| zw_iload_n (i := 1) dAb_appendNull_28 rfl rfl <| zw_iinc (i := 1) (x1 + (1 : Int32)) dAb_appendNull_29 rfl (by rw [zki_1]) <| zw_bipush (110 : Int32) dAb_appendNull_32 zkb_110 <| zw_bast dAb_appendNull_34 ha hi hw kk
theorem sAb_appendNull_35 {G : zG} {d : Nat} {Q : Option Value → Heap → Prop} {H : Heap} {st : List Value} {o0 : Option Value} {a2 : Nat} {x1 : Int32} {n : Nat} {g : Nat → Value} (ha : zArr G H a2 .byte n g) (hi : vp_in x1 n) (hw : zFr G a2) (kk : ∀ H1 : Heap, zArr G H1 a2 .byte n (updV g (x1).toNatClampNeg (.int ((117 : Int32)).toInt8.toInt32)) → zUp a2 H H1 → zW G d M_Ab_appendNull 43 [o0, some (.int (x1 + (1 : Int32))), some (.ref a2)] st H1 Q) : zW G d M_Ab_appendNull 35 [o0, some (.int x1), some (.ref a2)] st H Q :=
  zw_aload_n (i := 2) dAb_appendNull_35 rfl rfl zRf_ref <| zw_iload_n (i := 1) dAb_appendNull_36 rfl rfl <| zw_iinc (i := 1) (x1 + (1 : Int32)) dAb_appendNull_37 rfl (by rw [zki_1]) <| zw_bipush (117 : Int32) dAb_appendNull_40 zkb_117 <| zw_bast dAb_appendNull_42 ha hi hw kk
theorem sAb_appendNull_43 {G : zG} {d : Nat} {Q : Option Value → Heap → Prop} {H : Heap} {st : List Value} {o0 : Option Value} {a2 : Nat} {x1 : Int32} {n : Nat} {g : Nat → Value} (ha : zArr G H a2 .byte n g) (hi : vp_in x1 n) (hw : zFr G a2) (kk : ∀ H1 : Heap, zArr G H1 a2 .byte n (updV g (x1).toNatClampNeg (.int ((108 : Int32)).toInt8.toInt32)) → zUp a2 H H1 → zW G d M_Ab_appendNull 51 [o0, some (.int (x1 + (1 : Int32))), some (.ref a2)] st H1 Q) : zW G d M_Ab_appendNull 43 [o0, some (.int x1), some (.ref a2)] st H Q :=
  zw_aload_n (i := 2) dAb_appendNull_43 rfl rfl zRf_ref <| zw_iload_n (i := 1) dAb_appendNull_44 rfl rfl <| zw_iinc (i := 1) (x1 + (1 : Int32)) dAb_appendNull_45 rfl (by rw [zki_1]) <| zw_bipush (108 : Int32) dAb_appendNull_48 zkb_108 <| zw_bast dAb_appendNull_50 ha hi hw kk
theorem sAb_appendNull_51 {G : zG} {d : Nat} {Q : Option Value → Heap → Prop} {H : Heap} {st : List Value} {o0 : Option Value} {a2 : Nat} {x1 : Int32} {n : Nat} {g : Nat → Value} (ha : zArr G H a2 .byte n g) (hi : vp_in x1 n) (hw : zFr G a2) (kk : ∀ H1 : Heap, zArr G H1 a2 .byte n (updV g (x1).toNatClampNeg (.int ((108 : Int32)).toInt8.toInt32)) → zUp a2 H H1 → zW G d M_Ab_appendNull 59 [o0, some (.int (x1 + (1 : Int32))), some (.ref a2)] st H1 Q) : zW G d M_Ab_appendNull 51 [o0, some (.int x1), some (.ref a2)] st H Q :=
  zw_aload_n (i := 2) dAb_appendNull_51 rfl rfl zRf_ref <| zw_iload_n (i := 1) dAb_appendNull_52 rfl rfl <| zw_iinc (i := 1) (x1 + (1 : Int32)) dAb_appendNull_53 rfl (by rw [zki_1]) <| zw_bipush (108 : Int32) dAb_appendNull_56 zkb_108 <| zw_bast dAb_appendNull_58 ha hi hw kk
theorem sAb_appendNull_59 {G : zG} {d : Nat} {Q : Option Value → Heap → Prop} {H : Heap} {st : List Value} {o2 : Option Value} {a0 : Nat} {x1 : Int32} {b0 : Value} {b1 : Value} {b2 : Value} {b3 : Value} (ho : zObj G H a0 1 [b0, b1, b2, b3]) (hw : zFr G a0) (kk : ∀ H1 : Heap, zObj G H1 a0 1 [b0, b1, b2, (.int x1)] → zUp a0 H H1 → zW G d M_Ab_appendNull 81 [some (.ref a0), some (.int x1), o2] st H1 Q) : zW G d M_Ab_appendNull 59 [some (.ref a0), some (.int x1), o2] st H Q :=
  zw_goto 76 dAb_appendNull_59 (by decide) <| zw_aload_n (i := 0) dAb_appendNull_76 rfl rfl zRf_ref <| zw_iload_n (i := 1) dAb_appendNull_77 rfl rfl <| zw_putf (k := 3) dAb_appendNull_78 zp_Ab_appendNull_79 ho (Nat.le_of_ble_eq_true rfl) (Nat.le_of_ble_eq_true rfl) hw rfl rfl kk
theorem sAb_appendNull_62 {G : zG} {d : Nat} {Q : Option Value → Heap → Prop} {H : Heap} {st : List Value} {o0 : Option Value} {v2 : Value} {x1 : Int32} {P : Int32 → Heap → Prop} (hr2 : zRf v2 := by first | exact zRf_ref | exact zRf_null | exact zRf_rf _ | assumption) (hd : 1 ≤ d) (hl : st.length ≤ 4) (hc : zC G (d - 1) M_U16_putCharsAt [v2, (.int x1), (.int (110 : Int32)), (.int (117 : Int32)), (.int (108 : Int32)), (.int (108 : Int32))] H (zPi P)) (kk : ∀ (r : Int32) (H1 : Heap), P r H1 → zOk G H1 → H.size ≤ H1.size → zT H ≤ zT H1 → zW G d M_Ab_appendNull 75 [o0, some (.int x1), some v2] ((.int r) :: st) H1 Q) : zW G d M_Ab_appendNull 62 [o0, some (.int x1), some v2] st H Q :=
  zw_aload_n (i := 2) dAb_appendNull_62 rfl rfl hr2 <| zw_iload_n (i := 1) dAb_appendNull_63 rfl rfl <| zw_bipush (110 : Int32) dAb_appendNull_64 zkb_110 <| zw_bipush (117 : Int32) dAb_appendNull_66 zkb_117 <| zw_bipush (108 : Int32) dAb_appendNull_68 zkb_108 <| zw_bipush (108 : Int32) dAb_appendNull_70 zkb_108 <| zw_callS [v2, (.int x1), (.int (110 : Int32)), (.int (117 : Int32)), (.int (108 : Int32)), (.int (108 : Int32))] _ dAb_appendNull_72 hd zk_Ab_226 rfl rfl hl hc (zPi_k kk)
theorem sAb_appendNull_75 {G : zG} {d : Nat} {Q : Option Value → Heap → Prop} {H : Heap} {st : List Value} {o1 : Option Value} {o2 : Option Value} {xs0 : Int32} {a0 : Nat} {b0 : Value} {b1 : Value} {b2 : Value} {b3 : Value} (ho : zObj G H a0 1 [b0, b1, b2, b3]) (hw : zFr G a0) (kk : ∀ H1 : Heap, zObj G H1 a0 1 [b0, b1, b2, (.int xs0)] → zUp a0 H H1 → zW G d M_Ab_appendNull 81 [some (.ref a0), some (.int xs0), o2] st H1 Q) : zW G d M_Ab_appendNull 75 [some (.ref a0), o1, o2] ((.int xs0) :: st) H Q :=
  zw_istore_n (i := 1) dAb_appendNull_75 rfl (Nat.le_of_ble_eq_true rfl) <| zw_aload_n (i := 0) dAb_appendNull_76 rfl rfl zRf_ref <| zw_iload_n (i := 1) dAb_appendNull_77 rfl rfl <| zw_putf (k := 3) dAb_appendNull_78 zp_Ab_appendNull_79 ho (Nat.le_of_ble_eq_true rfl) (Nat.le_of_ble_eq_true rfl) hw rfl rfl kk
theorem sAb_appendNull_76 {G : zG} {d : Nat} {Q : Option Value → Heap → Prop} {H : Heap} {st : List Value} {o2 : Option Value} {a0 : Nat} {x1 : Int32} {b0 : Value} {b1 : Value} {b2 : Value} {b3 : Value} (ho : zObj G H a0 1 [b0, b1, b2, b3]) (hw : zFr G a0) (kk : ∀ H1 : Heap, zObj G H1 a0 1 [b0, b1, b2, (.int x1)] → zUp a0 H H1 → zW G d M_Ab_appendNull 81 [some (.ref a0), some (.int x1), o2] st H1 Q) : zW G d M_Ab_appendNull 76 [some (.ref a0), some (.int x1), o2] st H Q :=
  zw_aload_n (i := 0) dAb_appendNull_76 rfl rfl zRf_ref <| zw_iload_n (i := 1) dAb_appendNull_77 rfl rfl <| zw_putf (k := 3) dAb_appendNull_78 zp_Ab_appendNull_79 ho (Nat.le_of_ble_eq_true rfl) (Nat.le_of_ble_eq_true rfl) hw rfl rfl kk
theorem sAb_appendNull_81 {G : zG} {d : Nat} {Q : Option Value → Heap → Prop} {H : Heap} {o1 : Option Value} {o2 : Option Value} {v0 : Value} (hr0 : zRf v0 := by first | exact zRf_ref | exact zRf_null | exact zRf_rf _ | assumption) (hq : Q (some v0) H) : zW G d M_Ab_appendNull 81 [some v0, o1, o2] [] H Q :=
  zw_aload_n (i := 0) dAb_appendNull_81 rfl rfl hr0 <| zw_aret dAb_appendNull_82 (.object "java/lang/AbstractStringBuilder") rfl (Or.inl ⟨_, rfl⟩) hr0 hq
theorem sAb_putStringAt_0 {G : zG} {d : Nat} {Q : Option Value → Heap → Prop} {H : Heap} {st : List Value} {o1 : Option Value} {a0 : Nat} {v2 : Value} {P : Heap → Prop} (hr2 : zRf v2 := by first | exact zRf_ref | exact zRf_null | exact zRf_rf _ | assumption) (hd : 1 ≤ d) (hl : st.length ≤ 4) (ho : zIs G H a0 1) (hc : zC G (d - 1) M_Ab_inflateIfNeededFor [(.ref a0), v2] H (zPv P)) (kk : ∀ H1 : Heap, P H1 → zOk G H1 → H.size ≤ H1.size → zT H ≤ zT H1 → zW G d M_Ab_putStringAt 5 [some (.ref a0), o1, some v2] st H1 Q) : zW G d M_Ab_putStringAt 0 [some (.ref a0), o1, some v2] st H Q :=
  zw_aload_n (i := 0) dAb_putStringAt_0 rfl rfl zRf_ref <| zw_aload_n (i := 2) dAb_putStringAt_1 rfl rfl hr2 <| zw_callV [v2] _ dAb_putStringAt_2 hd zk_Ab_397 ho rfl rfl hl hc (zPv_k kk)
theorem sAb_putStringAt_5 {G : zG} {d : Nat} {Q : Option Value → Heap → Prop} {H : Heap} {st : List Value} {a2 : Nat} {a0 : Nat} {vf1 : Value} {x1 : Int32} {xf2 : Int32} {P : Heap → Prop} (hrf1 : zRf vf1 := by first | exact zRf_ref | exact zRf_null | exact zRf_rf _ | assumption) (hf1 : zFd G H a0 1 0 vf1) (hf2 : zFd G H a0 1 1 (.int xf2)) (hd : 1 ≤ d) (hl : st.length ≤ 4) (ho : zIs G H a2 8) (hc : zC G (d - 1) M_St_getBytes [(.ref a2), vf1, (.int x1), (.int xf2)] H (zPv P)) (kk : ∀ H1 : Heap, P H1 → zOk G H1 → H.size ≤ H1.size → zT H ≤ zT H1 → zW G d M_Ab_putStringAt 18 [some (.ref a0), some (.int x1), some (.ref a2)] st H1 Q) : zW G d M_Ab_putStringAt 5 [some (.ref a0), some (.int x1), some (.ref a2)] st H Q :=
  zw_aload_n (i := 2) dAb_putStringAt_5 rfl rfl zRf_ref <| zw_aload_n (i := 0) dAb_putStringAt_6 rfl rfl zRf_ref <| zw_getf dAb_putStringAt_7 zf_Ab_15 hf1 <| zw_iload_n (i := 1) dAb_putStringAt_10 rfl rfl <| zw_aload_n (i := 0) dAb_putStringAt_11 rfl rfl zRf_ref <| zw_getf dAb_putStringAt_12 zf_Ab_22 hf2 <| zw_callV [vf1, (.int x1), (.int xf2)] _ dAb_putStringAt_15 hd zk_Ab_399 ho rfl rfl hl hc (zPv_k kk)
theorem sAb_putStringAt_18 {G : zG} {d : Nat} {Q : Option Value → Heap → Prop} {H : Heap} {o0 : Option Value} {o1 : Option Value} {o2 : Option Value} (hq : Q none H) : zW G d M_Ab_putStringAt 18 [o0, o1, o2] [] H Q :=
  zw_vret dAb_putStringAt_18 rfl hq
theorem sAb_inflateIfNeededFor_0 {G : zG} {d : Nat} {Q : Option Value → Heap → Prop} {H : Heap} {st : List Value} {o0 : Option Value} {o1 : Option Value} (hz1 : va_Z "java/lang/String" "COMPACT_STRINGS" "Z" (.int 1) (zFr G) (zS G) (zS G).heap) (kt : ((1 : Int32) = 0) → zW G d M_Ab_inflateIfNeededFor 21 [o0, o1] st H Q) (kf : (¬ (1 : Int32) = 0) → zW G d M_Ab_inflateIfNeededFor 6 [o0, o1] st H Q) : zW G d M_Ab_inflateIfNeededFor 0 [o0, o1] st H Q :=
  zw_gets dAb_inflateIfNeededFor_0 hz1 (zt1 45 rfl) (Or.inl rfl) <| zw_if_eq 21 dAb_inflateIfNeededFor_3 (by decide) kt kf
theorem sAb_inflateIfNeededFor_6 {G : zG} {d : Nat} {Q : Option Value → Heap → Prop} {H : Heap} {st : List Value} {a0 : Nat} {xf1 : Int32} {a1 : Nat} {P : Int32 → Heap → Prop} (hf1 : zFd G H a0 1 1 (.int xf1)) (hd : 1 ≤ d) (hl : ((.int xf1) :: st).length ≤ 4) (ho : zIs G H a1 8) (hc : zC G (d - 1) M_St_coder [(.ref a1)] H (zPi P)) (kk : ∀ (r : Int32) (H1 : Heap), P r H1 → zOk G H1 → H.size ≤ H1.size → zT H ≤ zT H1 → zW G d M_Ab_inflateIfNeededFor 14 [some (.ref a0), some (.ref a1)] ((.int r) :: (.int xf1) :: st) H1 Q) : zW G d M_Ab_inflateIfNeededFor 6 [some (.ref a0), some (.ref a1)] st H Q :=
  zw_aload_n (i := 0) dAb_inflateIfNeededFor_6 rfl rfl zRf_ref <| zw_getf dAb_inflateIfNeededFor_7 zf_Ab_22 hf1 <| zw_aload_n (i := 1) dAb_inflateIfNeededFor_10 rfl rfl zRf_ref <| zw_callV [] _ dAb_inflateIfNeededFor_11 hd zk_Ab_40 ho rfl rfl hl hc (zPi_k kk)
theorem sAb_inflateIfNeededFor_14 {G : zG} {d : Nat} {Q : Option Value → Heap → Prop} {H : Heap} {st : List Value} {o0 : Option Value} {o1 : Option Value} {xs0 : Int32} {xs1 : Int32} (kt : (xs1 = xs0) → zW G d M_Ab_inflateIfNeededFor 21 [o0, o1] st H Q) (kf : (¬ xs1 = xs0) → zW G d M_Ab_inflateIfNeededFor 17 [o0, o1] st H Q) : zW G d M_Ab_inflateIfNeededFor 14 [o0, o1] ((.int xs0) :: (.int xs1) :: st) H Q :=
  zw_icmp_eq 21 dAb_inflateIfNeededFor_14 (by decide) kt kf
theorem sAb_inflateIfNeededFor_17 {G : zG} {d : Nat} {Q : Option Value → Heap → Prop} {H : Heap} {st : List Value} {o1 : Option Value} {a0 : Nat} {P : Heap → Prop} (hd : 1 ≤ d) (hl : st.length ≤ 4) (ho : zIs G H a0 1) (hc : zC G (d - 1) M_Ab_inflate [(.ref a0)] H (zPv P)) (kk : ∀ H1 : Heap, P H1 → zOk G H1 → H.size ≤ H1.size → zT H ≤ zT H1 → zW G d M_Ab_inflateIfNeededFor 21 [some (.ref a0), o1] st H1 Q) : zW G d M_Ab_inflateIfNeededFor 17 [some (.ref a0), o1] st H Q :=
  zw_aload_n (i := 0) dAb_inflateIfNeededFor_17 rfl rfl zRf_ref <| zw_callV [] _ dAb_inflateIfNeededFor_18 hd zk_Ab_195 ho rfl rfl hl hc (zPv_k kk)
theorem sAb_inflateIfNeededFor_21 {G : zG} {d : Nat} {Q : Option Value → Heap → Prop} {H : Heap} {o0 : Option Value} {o1 : Option Value} (hq : Q none H) : zW G d M_Ab_inflateIfNeededFor 21 [o0, o1] [] H Q :=
  zw_vret dAb_inflateIfNeededFor_21 rfl hq
end
section
theorem dSt_checkBoundsOffCount_0 : decode prog_20_method_157_code 0 = .ok (.iload_n 0, 1) := by decide +kernel
theorem dSt_checkBoundsOffCount_1 : decode prog_20_method_157_code 1 = .ok (.iload_n 1, 1) := by decide +kernel
theorem dSt_checkBoundsOffCount_2 : decode prog_20_method_157_code 2 = .ok (.iload_n 2, 1) := by decide +kernel
theorem dSt_checkBoundsOffCount_3 : decode prog_20_method_157_code 3 = .ok (.getstatic 1053, 3) := by decide +kernel
theorem dSt_checkBoundsOffCount_6 : decode prog_20_method_157_code 6 = .ok (.invokestatic 1065, 3) := by decide +kernel
theorem dSt_checkBoundsOffCount_9 : decode prog_20_method_157_code 9 = .ok (.ireturn, 1) := by decide +kernel
theorem dSt_checkIndex_0 : decode prog_20_method_155_code 0 = .ok (.iload_n 0, 1) := by decide +kernel
theorem dSt_checkIndex_1 : decode prog_20_method_155_code 1 = .ok (.iload_n 1, 1) := by decide +kernel
theorem dSt_checkIndex_2 : decode prog_20_method_155_code 2 = .ok (.getstatic 1053, 3) := by decide +kernel
theorem dSt_checkIndex_5 : decode prog_20_method_155_code 5 = .ok (.invokestatic 1059, 3) := by decide +kernel
theorem dSt_checkIndex_8 : decode prog_20_method_155_code 8 = .ok (.pop, 1) := by decide +kernel
theorem dSt_checkIndex_9 : decode prog_20_method_155_code 9 = .ok (.return_, 1) := by decide +kernel
theorem dSt_init_0_0 : decode prog_20_method_53_code 0 = .ok (.aload_n 0, 1) := by decide +kernel
theorem dSt_init_0_1 : decode prog_20_method_53_code 1 = .ok (.aload_n 1, 1) := by decide +kernel
theorem dSt_init_0_2 : decode prog_20_method_53_code 2 = .ok (.aconst_null, 1) := by decide +kernel
theorem dSt_init_0_3 : decode prog_20_method_53_code 3 = .ok (.invokespecial 489, 3) := by decide +kernel
theorem dSt_init_0_6 : decode prog_20_method_53_code 6 = .ok (.return_, 1) := by decide +kernel
theorem dSt_init_1_0 : decode prog_20_method_150_code 0 = .ok (.aload_n 0, 1) := by decide +kernel
theorem dSt_init_1_1 : decode prog_20_method_150_code 1 = .ok (.invokespecial 1, 3) := by decide +kernel
theorem dSt_init_1_4 : decode prog_20_method_150_code 4 = .ok (.aload_n 1, 1) := by decide +kernel
theorem dSt_init_1_5 : decode prog_20_method_150_code 5 = .ok (.invokevirtual 552, 3) := by decide +kernel
theorem dSt_init_1_8 : decode prog_20_method_150_code 8 = .ok (.astore_n 3, 1) := by decide +kernel
theorem dSt_init_1_9 : decode prog_20_method_150_code 9 = .ok (.aload_n 1, 1) := by decide +kernel
theorem dSt_init_1_13 : decode prog_20_method_150_code 13 = .ok (.istore 4, 2) := by decide +kernel
theorem dSt_init_1_15 : decode prog_20_method_150_code 15 = .ok (.aload_n 1, 1) := by decide +kernel
theorem dSt_init_1_16 : decode prog_20_method_150_code 16 = .ok (.invokevirtual 1047, 3) := by decide +kernel
theorem dSt_init_1_19 : decode prog_20_method_150_code 19 = .ok (.ifCond .eq 22, 3) := by decide +kernel
theorem dSt_init_1_22 : decode prog_20_method_150_code 22 = .ok (.aload_n 0, 1) := by decide +kernel
theorem dSt_init_1_23 : decode prog_20_method_150_code 23 = .ok (.iconst 0, 1) := by decide +kernel
theorem dSt_init_1_24 : decode prog_20_method_150_code 24 = .ok (.putfield 15, 3) := by decide +kernel
theorem dSt_init_1_27 : decode prog_20_method_150_code 27 = .ok (.aload_n 0, 1) := by decide +kernel
theorem dSt_init_1_28 : decode prog_20_method_150_code 28 = .ok (.aload_n 3, 1) := by decide +kernel
theorem dSt_init_1_29 : decode prog_20_method_150_code 29 = .ok (.iconst 0, 1) := by decide +kernel
theorem dSt_init_1_30 : decode prog_20_method_150_code 30 = .ok (.iload 4, 2) := by decide +kernel
theorem dSt_init_1_32 : decode prog_20_method_150_code 32 = .ok (.invokestatic 54, 3) := by decide +kernel
theorem dSt_init_1_35 : decode prog_20_method_150_code 35 = .ok (.putfield 9, 3) := by decide +kernel
theorem dSt_init_1_38 : decode prog_20_method_150_code 38 = .ok (.goto 59, 3) := by decide +kernel
theorem dSt_init_1_41 : decode prog_20_method_150_code 41 = .ok (.getstatic 38, 3) := by decide +kernel
theorem dSt_init_1_44 : decode prog_20_method_150_code 44 = .ok (.ifCond .eq 35, 3) := by decide +kernel
theorem dSt_init_1_47 : decode prog_20_method_150_code 47 = .ok (.aload_n 1, 1) := by decide +kernel
theorem dSt_init_1_48 : decode prog_20_method_150_code 48 = .ok (.getfield 1048, 3) := by decide +kernel
theorem dSt_init_1_51 : decode prog_20_method_150_code 51 = .ok (.ifCond .eq 28, 3) := by decide +kernel
theorem dSt_init_1_54 : decode prog_20_method_150_code 54 = .ok (.aload_n 0, 1) := by decide +kernel
theorem dSt_init_1_55 : decode prog_20_method_150_code 55 = .ok (.aload_n 3, 1) := by decide +kernel
theorem dSt_init_1_56 : decode prog_20_method_150_code 56 = .ok (.iconst 0, 1) := by decide +kernel
theorem dSt_init_1_57 : decode prog_20_method_150_code 57 = .ok (.iload 4, 2) := by decide +kernel
theorem dSt_init_1_59 : decode prog_20_method_150_code 59 = .ok (.invokestatic 1051, 3) := by decide +kernel
theorem dSt_init_1_62 : decode prog_20_method_150_code 62 = .ok (.putfield 9, 3) := by decide +kernel
theorem dSt_init_1_65 : decode prog_20_method_150_code 65 = .ok (.aload_n 0, 1) := by decide +kernel
theorem dSt_init_1_66 : decode prog_20_method_150_code 66 = .ok (.aload_n 0, 1) := by decide +kernel
theorem dSt_init_1_67 : decode prog_20_method_150_code 67 = .ok (.getfield 9, 3) := by decide +kernel
theorem dSt_init_1_70 : decode prog_20_method_150_code 70 = .ok (.iload 4, 2) := by decide +kernel
theorem dSt_init_1_72 : decode prog_20_method_150_code 72 = .ok (.invokestatic 47, 3) := by decide +kernel
theorem dSt_init_1_75 : decode prog_20_method_150_code 75 = .ok (.putfield 15, 3) := by decide +kernel
theorem dSt_init_1_78 : decode prog_20_method_150_code 78 = .ok (.return_, 1) := by decide +kernel
theorem dSt_init_1_79 : decode prog_20_method_150_code 79 = .ok (.aload_n 0, 1) := by decide +kernel
theorem dSt_init_1_80 : decode prog_20_method_150_code 80 = .ok (.iconst 1, 1) := by decide +kernel
theorem dSt_init_1_81 : decode prog_20_method_150_code 81 = .ok (.putfield 15, 3) := by decide +kernel
theorem dSt_init_1_84 : decode prog_20_method_150_code 84 = .ok (.aload_n 0, 1) := by decide +kernel
theorem dSt_init_1_85 : decode prog_20_method_150_code 85 = .ok (.aload_n 3, 1) := by decide +kernel
theorem dSt_init_1_86 : decode prog_20_method_150_code 86 = .ok (.iconst 0, 1) := by decide +kernel
theorem dSt_init_1_87 : decode prog_20_method_150_code 87 = .ok (.iload 4, 2) := by decide +kernel
theorem dSt_init_1_89 : decode prog_20_method_150_code 89 = .ok (.iconst 1, 1) := by decide +kernel
theorem dSt_init_1_90 : decode prog_20_method_150_code 90 = .ok (.ishl, 1) := by decide +kernel
theorem dSt_init_1_91 : decode prog_20_method_150_code 91 = .ok (.invokestatic 54, 3) := by decide +kernel
theorem dSt_init_1_94 : decode prog_20_method_150_code 94 = .ok (.putfield 9, 3) := by decide +kernel
theorem dSt_init_1_97 : decode prog_20_method_150_code 97 = .ok (.return_, 1) := by decide +kernel
theorem dSt_length_0 : decode prog_20_method_54_code 0 = .ok (.aload_n 0, 1) := by decide +kernel
theorem dSt_length_1 : decode prog_20_method_54_code 1 = .ok (.getfield 9, 3) := by decide +kernel
theorem dSt_length_4 : decode prog_20_method_54_code 4 = .ok (.arraylength, 1) := by decide +kernel
theorem dSt_length_5 : decode prog_20_method_54_code 5 = .ok (.aload_n 0, 1) := by decide +kernel
theorem dSt_length_6 : decode prog_20_method_54_code 6 = .ok (.invokevirtual 335, 3) := by decide +kernel
theorem dSt_length_9 : decode prog_20_method_54_code 9 = .ok (.ishr, 1) := by decide +kernel
theorem dSt_length_10 : decode prog_20_method_54_code 10 = .ok (.ireturn, 1) := by decide +kernel
theorem dSt_coder_0 : decode prog_20_method_152_code 0 = .ok (.getstatic 38, 3) := by decide +kernel
theorem dSt_coder_3 : decode prog_20_method_152_code 3 = .ok (.ifCond .eq 10, 3) := by decide +kernel
theorem dSt_coder_6 : decode prog_20_method_152_code 6 = .ok (.aload_n 0, 1) := by decide +kernel
theorem dSt_coder_7 : decode prog_20_method_152_code 7 = .ok (.getfield 15, 3) := by decide +kernel
theorem dSt_coder_10 : decode prog_20_method_152_code 10 = .ok (.goto 4, 3) := by decide +kernel
theorem dSt_coder_13 : decode prog_20_method_152_code 13 = .ok (.iconst 1, 1) := by decide +kernel
theorem dSt_coder_14 : decode prog_20_method_152_code 14 = .ok (.ireturn, 1) := by decide +kernel
theorem dSt_charAt_0 : decode prog_20_method_56_code 0 = .ok (.aload_n 0, 1) := by decide +kernel
theorem dSt_charAt_1 : decode prog_20_method_56_code 1 = .ok (.invokevirtual 492, 3) := by decide +kernel
theorem dSt_charAt_4 : decode prog_20_method_56_code 4 = .ok (.ifCond .eq 12, 3) := by decide +kernel
theorem dSt_charAt_7 : decode prog_20_method_56_code 7 = .ok (.aload_n 0, 1) := by decide +kernel
theorem dSt_charAt_8 : decode prog_20_method_56_code 8 = .ok (.getfield 9, 3) := by decide +kernel
theorem dSt_charAt_11 : decode prog_20_method_56_code 11 = .ok (.iload_n 1, 1) := by decide +kernel
theorem dSt_charAt_12 : decode prog_20_method_56_code 12 = .ok (.invokestatic 495, 3) := by decide +kernel
theorem dSt_charAt_15 : decode prog_20_method_56_code 15 = .ok (.ireturn, 1) := by decide +kernel
theorem dSt_charAt_16 : decode prog_20_method_56_code 16 = .ok (.aload_n 0, 1) := by decide +kernel
theorem dSt_charAt_17 : decode prog_20_method_56_code 17 = .ok (.getfield 9, 3) := by decide +kernel
theorem dSt_charAt_20 : decode prog_20_method_56_code 20 = .ok (.iload_n 1, 1) := by decide +kernel
theorem dSt_charAt_21 : decode prog_20_method_56_code 21 = .ok (.invokestatic 498, 3) := by decide +kernel
theorem dSt_charAt_24 : decode prog_20_method_56_code 24 = .ok (.ireturn, 1) := by decide +kernel
theorem dSt_isLatin1_0 : decode prog_20_method_154_code 0 = .ok (.getstatic 38, 3) := by decide +kernel
theorem dSt_isLatin1_3 : decode prog_20_method_154_code 3 = .ok (.ifCond .eq 14, 3) := by decide +kernel
theorem dSt_isLatin1_6 : decode prog_20_method_154_code 6 = .ok (.aload_n 0, 1) := by decide +kernel
theorem dSt_isLatin1_7 : decode prog_20_method_154_code 7 = .ok (.getfield 15, 3) := by decide +kernel
theorem dSt_isLatin1_10 : decode prog_20_method_154_code 10 = .ok (.ifCond .ne 7, 3) := by decide +kernel
theorem dSt_isLatin1_13 : decode prog_20_method_154_code 13 = .ok (.iconst 1, 1) := by decide +kernel
theorem dSt_isLatin1_14 : decode prog_20_method_154_code 14 = .ok (.goto 4, 3) := by decide +kernel
theorem dSt_isLatin1_17 : decode prog_20_method_154_code 17 = .ok (.iconst 0, 1) := by decide +kernel
theorem dSt_isLatin1_18 : decode prog_20_method_154_code 18 = .ok (.ireturn, 1) := by decide +kernel
theorem dSt_indexOf_0_0 : decode prog_20_method_79_code 0 = .ok (.aload_n 0, 1) := by decide +kernel
theorem dSt_indexOf_0_1 : decode prog_20_method_79_code 1 = .ok (.iload_n 1, 1) := by decide +kernel
theorem dSt_indexOf_0_2 : decode prog_20_method_79_code 2 = .ok (.iconst 0, 1) := by decide +kernel
theorem dSt_indexOf_0_3 : decode prog_20_method_79_code 3 = .ok (.invokevirtual 633, 3) := by decide +kernel
theorem dSt_indexOf_0_6 : decode prog_20_method_79_code 6 = .ok (.ireturn, 1) := by decide +kernel
theorem dSt_indexOf_1_0 : decode prog_20_method_80_code 0 = .ok (.aload_n 0, 1) := by decide +kernel
theorem dSt_indexOf_1_1 : decode prog_20_method_80_code 1 = .ok (.invokevirtual 492, 3) := by decide +kernel
theorem dSt_indexOf_1_4 : decode prog_20_method_80_code 4 = .ok (.ifCond .eq 19, 3) := by decide +kernel
theorem dSt_indexOf_1_7 : decode prog_20_method_80_code 7 = .ok (.aload_n 0, 1) := by decide +kernel
theorem dSt_indexOf_1_8 : decode prog_20_method_80_code 8 = .ok (.getfield 9, 3) := by decide +kernel
theorem dSt_indexOf_1_11 : decode prog_20_method_80_code 11 = .ok (.iload_n 1, 1) := by decide +kernel
theorem dSt_indexOf_1_12 : decode prog_20_method_80_code 12 = .ok (.iload_n 2, 1) := by decide +kernel
theorem dSt_indexOf_1_13 : decode prog_20_method_80_code 13 = .ok (.aload_n 0, 1) := by decide +kernel
theorem dSt_indexOf_1_14 : decode prog_20_method_80_code 14 = .ok (.invokevirtual 505, 3) := by decide +kernel
theorem dSt_indexOf_1_17 : decode prog_20_method_80_code 17 = .ok (.invokestatic 637, 3) := by decide +kernel
theorem dSt_indexOf_1_20 : decode prog_20_method_80_code 20 = .ok (.goto 16, 3) := by decide +kernel
theorem dSt_indexOf_1_23 : decode prog_20_method_80_code 23 = .ok (.aload_n 0, 1) := by decide +kernel
theorem dSt_indexOf_1_24 : decode prog_20_method_80_code 24 = .ok (.getfield 9, 3) := by decide +kernel
theorem dSt_indexOf_1_27 : decode prog_20_method_80_code 27 = .ok (.iload_n 1, 1) := by decide +kernel
theorem dSt_indexOf_1_28 : decode prog_20_method_80_code 28 = .ok (.iload_n 2, 1) := by decide +kernel
theorem dSt_indexOf_1_29 : decode prog_20_method_80_code 29 = .ok (.aload_n 0, 1) := by decide +kernel
theorem dSt_indexOf_1_30 : decode prog_20_method_80_code 30 = .ok (.invokevirtual 505, 3) := by decide +kernel
theorem dSt_indexOf_1_33 : decode prog_20_method_80_code 33 = .ok (.invokestatic 640, 3) := by decide +kernel
theorem dSt_indexOf_1_36 : decode prog_20_method_80_code 36 = .ok (.ireturn, 1) := by decide +kernel
theorem dSt_checkBoundsBeginEnd_0 : decode prog_20_method_158_code 0 = .ok (.iload_n 0, 1) := by decide +kernel
theorem dSt_checkBoundsBeginEnd_1 : decode prog_20_method_158_code 1 = .ok (.iload_n 1, 1) := by decide +kernel
theorem dSt_checkBoundsBeginEnd_2 : decode prog_20_method_158_code 2 = .ok (.iload_n 2, 1) := by decide +kernel
theorem dSt_checkBoundsBeginEnd_3 : decode prog_20_method_158_code 3 = .ok (.getstatic 1053, 3) := by decide +kernel
theorem dSt_checkBoundsBeginEnd_6 : decode prog_20_method_158_code 6 = .ok (.invokestatic 1062, 3) := by decide +kernel
theorem dSt_checkBoundsBeginEnd_9 : decode prog_20_method_158_code 9 = .ok (.pop, 1) := by decide +kernel
theorem dSt_checkBoundsBeginEnd_10 : decode prog_20_method_158_code 10 = .ok (.return_, 1) := by decide +kernel
theorem dSt_substring_0_0 : decode prog_20_method_92_code 0 = .ok (.aload_n 0, 1) := by decide +kernel
theorem dSt_substring_0_1 : decode prog_20_method_92_code 1 = .ok (.invokevirtual 505, 3) := by decide +kernel
theorem dSt_substring_0_4 : decode prog_20_method_92_code 4 = .ok (.istore_n 3, 1) := by decide +kernel
theorem dSt_substring_0_5 : decode prog_20_method_92_code 5 = .ok (.iload_n 1, 1) := by decide +kernel
theorem dSt_substring_0_6 : decode prog_20_method_92_code 6 = .ok (.iload_n 2, 1) := by decide +kernel
theorem dSt_substring_0_7 : decode prog_20_method_92_code 7 = .ok (.iload_n 3, 1) := by decide +kernel
theorem dSt_substring_0_8 : decode prog_20_method_92_code 8 = .ok (.invokestatic 521, 3) := by decide +kernel
theorem dSt_substring_0_11 : decode prog_20_method_92_code 11 = .ok (.iload_n 1, 1) := by decide +kernel
theorem dSt_substring_0_12 : decode prog_20_method_92_code 12 = .ok (.ifCond .ne 10, 3) := by decide +kernel
theorem dSt_substring_0_15 : decode prog_20_method_92_code 15 = .ok (.iload_n 2, 1) := by decide +kernel
theorem dSt_substring_0_16 : decode prog_20_method_92_code 16 = .ok (.iload_n 3, 1) := by decide +kernel
theorem dSt_substring_0_17 : decode prog_20_method_92_code 17 = .ok (.if_icmp .ne 5, 3) := by decide +kernel
theorem dSt_substring_0_20 : decode prog_20_method_92_code 20 = .ok (.aload_n 0, 1) := by decide +kernel
theorem dSt_substring_0_21 : decode prog_20_method_92_code 21 = .ok (.areturn, 1) := by decide +kernel
theorem dSt_substring_0_22 : decode prog_20_method_92_code 22 = .ok (.iload_n 2, 1) := by decide +kernel
theorem dSt_substring_0_23 : decode prog_20_method_92_code 23 = .ok (.iload_n 1, 1) := by decide +kernel
theorem dSt_substring_0_24 : decode prog_20_method_92_code 24 = .ok (.isub, 1) := by decide +kernel
theorem dSt_substring_0_25 : decode prog_20_method_92_code 25 = .ok (.istore 4, 2) := by decide +kernel
theorem dSt_substring_0_27 : decode prog_20_method_92_code 27 = .ok (.aload_n 0, 1) := by decide +kernel
theorem dSt_substring_0_28 : decode prog_20_method_92_code 28 = .ok (.invokevirtual 492, 3) := by decide +kernel
theorem dSt_substring_0_31 : decode prog_20_method_92_code 31 = .ok (.ifCond .eq 16, 3) := by decide +kernel
theorem dSt_substring_0_34 : decode prog_20_method_92_code 34 = .ok (.aload_n 0, 1) := by decide +kernel
theorem dSt_substring_0_35 : decode prog_20_method_92_code 35 = .ok (.getfield 9, 3) := by decide +kernel
theorem dSt_substring_0_38 : decode prog_20_method_92_code 38 = .ok (.iload_n 1, 1) := by decide +kernel
theorem dSt_substring_0_39 : decode prog_20_method_92_code 39 = .ok (.iload 4, 2) := by decide +kernel
theorem dSt_substring_0_41 : decode prog_20_method_92_code 41 = .ok (.invokestatic 685, 3) := by decide +kernel
theorem dSt_substring_0_44 : decode prog_20_method_92_code 44 = .ok (.goto 13, 3) := by decide +kernel
theorem dSt_substring_0_47 : decode prog_20_method_92_code 47 = .ok (.aload_n 0, 1) := by decide +kernel
theorem dSt_substring_0_48 : decode prog_20_method_92_code 48 = .ok (.getfield 9, 3) := by decide +kernel
theorem dSt_substring_0_51 : decode prog_20_method_92_code 51 = .ok (.iload_n 1, 1) := by decide +kernel
theorem dSt_substring_0_52 : decode prog_20_method_92_code 52 = .ok (.iload 4, 2) := by decide +kernel
theorem dSt_substring_0_54 : decode prog_20_method_92_code 54 = .ok (.invokestatic 689, 3) := by decide +kernel
theorem dSt_substring_0_57 : decode prog_20_method_92_code 57 = .ok (.areturn, 1) := by decide +kernel
theorem dSt_init_2_0 : decode prog_20_method_151_code 0 = .ok (.aload_n 0, 1) := by decide +kernel
theorem dSt_init_2_1 : decode prog_20_method_151_code 1 = .ok (.invokespecial 1, 3) := by decide +kernel
theorem dSt_init_2_4 : decode prog_20_method_151_code 4 = .ok (.aload_n 0, 1) := by decide +kernel
theorem dSt_init_2_5 : decode prog_20_method_151_code 5 = .ok (.aload_n 1, 1) := by decide +kernel
theorem dSt_init_2_6 : decode prog_20_method_151_code 6 = .ok (.putfield 9, 3) := by decide +kernel
theorem dSt_init_2_9 : decode prog_20_method_151_code 9 = .ok (.aload_n 0, 1) := by decide +kernel
theorem dSt_init_2_10 : decode prog_20_method_151_code 10 = .ok (.iload_n 2, 1) := by decide +kernel
theorem dSt_init_2_11 : decode prog_20_method_151_code 11 = .ok (.putfield 15, 3) := by decide +kernel
theorem dSt_init_2_14 : decode prog_20_method_151_code 14 = .ok (.return_, 1) := by decide +kernel
theorem dSt_substring_1_0 : decode prog_20_method_91_code 0 = .ok (.aload_n 0, 1) := by decide +kernel
theorem dSt_substring_1_1 : decode prog_20_method_91_code 1 = .ok (.iload_n 1, 1) := by decide +kernel
theorem dSt_substring_1_2 : decode prog_20_method_91_code 2 = .ok (.aload_n 0, 1) := by decide +kernel
theorem dSt_substring_1_3 : decode prog_20_method_91_code 3 = .ok (.invokevirtual 505, 3) := by decide +kernel
theorem dSt_substring_1_6 : decode prog_20_method_91_code 6 = .ok (.invokevirtual 681, 3) := by decide +kernel
theorem dSt_substring_1_9 : decode prog_20_method_91_code 9 = .ok (.areturn, 1) := by decide +kernel
theorem dSt_isEmpty_0 : decode prog_20_method_55_code 0 = .ok (.aload_n 0, 1) := by decide +kernel
theorem dSt_isEmpty_1 : decode prog_20_method_55_code 1 = .ok (.getfield 9, 3) := by decide +kernel
theorem dSt_isEmpty_4 : decode prog_20_method_55_code 4 = .ok (.arraylength, 1) := by decide +kernel
theorem dSt_isEmpty_5 : decode prog_20_method_55_code 5 = .ok (.ifCond .ne 7, 3) := by decide +kernel
theorem dSt_isEmpty_8 : decode prog_20_method_55_code 8 = .ok (.iconst 1, 1) := by decide +kernel
theorem dSt_isEmpty_9 : decode prog_20_method_55_code 9 = .ok (.goto 4, 3) := by decide +kernel
theorem dSt_isEmpty_12 : decode prog_20_method_55_code 12 = .ok (.iconst 0, 1) := by decide +kernel
theorem dSt_isEmpty_13 : decode prog_20_method_55_code 13 = .ok (.ireturn, 1) := by decide +kernel
theorem dSt_equals_0 : decode prog_20_method_66_code 0 = .ok (.aload_n 0, 1) := by decide +kernel
theorem dSt_equals_1 : decode prog_20_method_66_code 1 = .ok (.aload_n 1, 1) := by decide +kernel
theorem dSt_equals_2 : decode prog_20_method_66_code 2 = .ok (.if_acmp .ne 5, 3) := by decide +kernel
theorem dSt_equals_5 : decode prog_20_method_66_code 5 = .ok (.iconst 1, 1) := by decide +kernel
theorem dSt_equals_6 : decode prog_20_method_66_code 6 = .ok (.ireturn, 1) := by decide +kernel
theorem dSt_equals_7 : decode prog_20_method_66_code 7 = .ok (.aload_n 1, 1) := by decide +kernel
theorem dSt_equals_8 : decode prog_20_method_66_code 8 = .ok (.instanceof 10, 3) := by decide +kernel
theorem dSt_equals_11 : decode prog_20_method_66_code 11 = .ok (.ifCond .eq 43, 3) := by decide +kernel
theorem dSt_equals_14 : decode prog_20_method_66_code 14 = .ok (.aload_n 1, 1) := by decide +kernel
theorem dSt_equals_15 : decode prog_20_method_66_code 15 = .ok (.checkcast 10, 3) := by decide +kernel
theorem dSt_equals_18 : decode prog_20_method_66_code 18 = .ok (.astore_n 2, 1) := by decide +kernel
theorem dSt_equals_19 : decode prog_20_method_66_code 19 = .ok (.getstatic 38, 3) := by decide +kernel
theorem dSt_equals_22 : decode prog_20_method_66_code 22 = .ok (.ifCond .eq 14, 3) := by decide +kernel
theorem dSt_equals_25 : decode prog_20_method_66_code 25 = .ok (.aload_n 0, 1) := by decide +kernel
theorem dSt_equals_26 : decode prog_20_method_66_code 26 = .ok (.getfield 15, 3) := by decide +kernel
theorem dSt_equals_29 : decode prog_20_method_66_code 29 = .ok (.aload_n 2, 1) := by decide +kernel
theorem dSt_equals_30 : decode prog_20_method_66_code 30 = .ok (.getfield 15, 3) := by decide +kernel
theorem dSt_equals_33 : decode prog_20_method_66_code 33 = .ok (.if_icmp .ne 21, 3) := by decide +kernel
theorem dSt_equals_36 : decode prog_20_method_66_code 36 = .ok (.aload_n 0, 1) := by decide +kernel
theorem dSt_equals_37 : decode prog_20_method_66_code 37 = .ok (.getfield 9, 3) := by decide +kernel
theorem dSt_equals_40 : decode prog_20_method_66_code 40 = .ok (.aload_n 2, 1) := by decide +kernel
theorem dSt_equals_41 : decode prog_20_method_66_code 41 = .ok (.getfield 9, 3) := by decide +kernel
theorem dSt_equals_44 : decode prog_20_method_66_code 44 = .ok (.invokestatic 541, 3) := by decide +kernel
theorem dSt_equals_47 : decode prog_20_method_66_code 47 = .ok (.ifCond .eq 7, 3) := by decide +kernel
theorem dSt_equals_50 : decode prog_20_method_66_code 50 = .ok (.iconst 1, 1) := by decide +kernel
theorem dSt_equals_51 : decode prog_20_method_66_code 51 = .ok (.goto 4, 3) := by decide +kernel
theorem dSt_equals_54 : decode prog_20_method_66_code 54 = .ok (.iconst 0, 1) := by decide +kernel
theorem dSt_equals_55 : decode prog_20_method_66_code 55 = .ok (.ireturn, 1) := by decide +kernel
theorem dSt_getBytes_0 : decode prog_20_method_147_code 0 = .ok (.aload_n 0, 1) := by decide +kernel
theorem dSt_getBytes_1 : decode prog_20_method_147_code 1 = .ok (.invokevirtual 335, 3) := by decide +kernel
theorem dSt_getBytes_4 : decode prog_20_method_147_code 4 = .ok (.iload_n 3, 1) := by decide +kernel
theorem dSt_getBytes_5 : decode prog_20_method_147_code 5 = .ok (.if_icmp .ne 23, 3) := by decide +kernel
theorem dSt_getBytes_8 : decode prog_20_method_147_code 8 = .ok (.aload_n 0, 1) := by decide +kernel
theorem dSt_getBytes_9 : decode prog_20_method_147_code 9 = .ok (.getfield 9, 3) := by decide +kernel
theorem dSt_getBytes_12 : decode prog_20_method_147_code 12 = .ok (.iconst 0, 1) := by decide +kernel
theorem dSt_getBytes_13 : decode prog_20_method_147_code 13 = .ok (.aload_n 1, 1) := by decide +kernel
theorem dSt_getBytes_14 : decode prog_20_method_147_code 14 = .ok (.iload_n 2, 1) := by decide +kernel
theorem dSt_getBytes_15 : decode prog_20_method_147_code 15 = .ok (.iload_n 3, 1) := by decide +kernel
theorem dSt_getBytes_16 : decode prog_20_method_147_code 16 = .ok (.ishl, 1) := by decide +kernel
theorem dSt_getBytes_17 : decode prog_20_method_147_code 17 = .ok (.aload_n 0, 1) := by decide +kernel
theorem dSt_getBytes_18 : decode prog_20_method_147_code 18 = .ok (.getfield 9, 3) := by decide +kernel
theorem dSt_getBytes_21 : decode prog_20_method_147_code 21 = .ok (.arraylength, 1) := by decide +kernel
theorem dSt_getBytes_25 : decode prog_20_method_147_code 25 = .ok (.goto 18, 3) := by decide +kernel
theorem dSt_getBytes_28 : decode prog_20_method_147_code 28 = .ok (.aload_n 0, 1) := by decide +kernel
theorem dSt_getBytes_29 : decode prog_20_method_147_code 29 = .ok (.getfield 9, 3) := by decide +kernel
theorem dSt_getBytes_32 : decode prog_20_method_147_code 32 = .ok (.iconst 0, 1) := by decide +kernel
theorem dSt_getBytes_33 : decode prog_20_method_147_code 33 = .ok (.aload_n 1, 1) := by decide +kernel
theorem dSt_getBytes_34 : decode prog_20_method_147_code 34 = .ok (.iload_n 2, 1) := by decide +kernel
theorem dSt_getBytes_35 : decode prog_20_method_147_code 35 = .ok (.aload_n 0, 1) := by decide +kernel
theorem dSt_getBytes_36 : decode prog_20_method_147_code 36 = .ok (.getfield 9, 3) := by decide +kernel
theorem dSt_getBytes_39 : decode prog_20_method_147_code 39 = .ok (.arraylength, 1) := by decide +kernel
theorem dSt_getBytes_40 : decode prog_20_method_147_code 40 = .ok (.invokestatic 106, 3) := by decide +kernel
theorem dSt_getBytes_43 : decode prog_20_method_147_code 43 = .ok (.return_, 1) := by decide +kernel
theorem zk_St_1065 : zLkS "java/lang/String" 1065 M_Pc_checkFromIndexSize 4 := ⟨zc_Pc_checkFromIndexSize, zt2 111 rfl, Or.inl (zt2 110 rfl)⟩
theorem zk_St_1059 : zLkS "java/lang/String" 1059 M_Pc_checkIndex 3 := ⟨zc_Pc_checkIndex, zt2 132 rfl, Or.inl (zt2 131 rfl)⟩
theorem zk_St_489 : zLkI "java/lang/String" 489 M_St_init_1 2 := ⟨zc_St_init_1, rfl, rfl, zt2 192 rfl, Or.inl (zt2 191 rfl)⟩
theorem zk_St_552 : zLkV "java/lang/String" 552 1 M_Ab_getValue 0 := ⟨zc_Ab_getValue, ⟨_, _, _, rfl, Or.inl (zt2 198 rfl)⟩, zt2 196 rfl, Or.inl (zt2 195 rfl)⟩
theorem zk_St_1047 : zLkV "java/lang/String" 1047 1 M_Ab_isLatin1 0 := ⟨zc_Ab_isLatin1, ⟨_, _, _, rfl, Or.inl (zt2 84 rfl)⟩, zt2 82 rfl, Or.inl (zt2 201 rfl)⟩
theorem zf_St_15 : zFl "java/lang/String" 15 8 1 := ⟨_, _, _, "java/lang/String", rfl, Nat.le_of_ble_eq_true rfl, in_St, Or.inl (zt2 224 rfl), Or.inl rfl⟩
theorem zp_St_init_1_15 : zPf M_St_init_1 15 8 1 .byte := ⟨zf_St_15, _, _, _, ty_St, rfl, tyok_St, nm_St, rfl, Or.inr ⟨rfl, rfl, rfl⟩⟩
theorem zk_St_54 : zLkS "java/lang/String" 54 M_Ar_copyOfRange 3 := ⟨zc_Ar_copyOfRange, zt2 203 rfl, Or.inl (zt2 202 rfl)⟩
theorem zf_St_9 : zFl "java/lang/String" 9 8 0 := ⟨_, _, _, "java/lang/String", rfl, Nat.le_of_ble_eq_true rfl, in_St, Or.inl (zt2 223 rfl), Or.inl rfl⟩
theorem zp_St_init_1_9 : zPf M_St_init_1 9 8 0 (.array .byte) := ⟨zf_St_9, _, _, _, ty_St, rfl, tyok_St, nm_St, rfl, Or.inr ⟨rfl, rfl, rfl⟩⟩
theorem zf_St_1048 : zFl "java/lang/String" 1048 1 2 := ⟨_, _, _, "java/lang/AbstractStringBuilder", rfl, Nat.le_of_ble_eq_true rfl, in_Sb, Or.inl (zt1 57 rfl), Or.inl rfl⟩
theorem zk_St_1051 : zLkS "java/lang/String" 1051 M_U16_compress_0 3 := ⟨zc_U16_compress_0, zt2 213 rfl, Or.inl (zt2 212 rfl)⟩
theorem zk_St_47 : zLkS "java/lang/String" 47 M_U16_coderFromArrayLen 2 := ⟨zc_U16_coderFromArrayLen, zt2 221 rfl, Or.inl (zt2 220 rfl)⟩
theorem zk_St_335 : zLkV "java/lang/String" 335 8 M_St_coder 0 := ⟨zc_St_coder, ⟨_, _, _, rfl, Or.inl (zt3 3 rfl)⟩, zt3 2 rfl, Or.inl (zt3 1 rfl)⟩
theorem zk_St_492 : zLkV "java/lang/String" 492 8 M_St_isLatin1 0 := ⟨zc_St_isLatin1, ⟨_, _, _, rfl, Or.inl (zt3 11 rfl)⟩, zt3 10 rfl, Or.inl (zt3 9 rfl)⟩
theorem zk_St_495 : zLkS "java/lang/String" 495 M_L1_charAt 2 := ⟨zc_L1_charAt, zt3 14 rfl, Or.inl (zt3 13 rfl)⟩
theorem zk_St_498 : zLkS "java/lang/String" 498 M_U16_charAt 2 := ⟨zc_U16_charAt, zt3 18 rfl, Or.inl (zt3 17 rfl)⟩
theorem zk_St_633 : zLkV "java/lang/String" 633 8 M_St_indexOf_1 2 := ⟨zc_St_indexOf_1, ⟨_, _, _, rfl, Or.inl (zt3 32 rfl)⟩, zt3 31 rfl, Or.inl (zt3 30 rfl)⟩
theorem zk_St_505 : zLkV "java/lang/String" 505 8 M_St_length 0 := ⟨zc_St_length, ⟨_, _, _, rfl, Or.inl (zt2 239 rfl)⟩, zt2 238 rfl, Or.inl (zt3 34 rfl)⟩
theorem zk_St_637 : zLkS "java/lang/String" 637 M_L1_indexOf 4 := ⟨zc_L1_indexOf, zt3 36 rfl, Or.inl (zt3 35 rfl)⟩
theorem zk_St_640 : zLkS "java/lang/String" 640 M_U16_indexOf 4 := ⟨zc_U16_indexOf, zt3 47 rfl, Or.inl (zt3 46 rfl)⟩
theorem zk_St_1062 : zLkS "java/lang/String" 1062 M_Pc_checkFromToIndex 4 := ⟨zc_Pc_checkFromToIndex, zt3 62 rfl, Or.inl (zt3 61 rfl)⟩
theorem zk_St_521 : zLkS "java/lang/String" 521 M_St_checkBoundsBeginEnd 3 := ⟨zc_St_checkBoundsBeginEnd, zt3 59 rfl, Or.inl (zt3 87 rfl)⟩
theorem zk_St_685 : zLkS "java/lang/String" 685 M_L1_newString 3 := ⟨zc_L1_newString, zt3 89 rfl, Or.inl (zt3 88 rfl)⟩
theorem zk_St_689 : zLkS "java/lang/String" 689 M_U16_newString 3 := ⟨zc_U16_newString, zt3 98 rfl, Or.inl (zt3 97 rfl)⟩
theorem zp_St_init_2_9 : zPf M_St_init_2 9 8 0 (.array .byte) := ⟨zf_St_9, _, _, _, ty_St, rfl, tyok_St, nm_St, rfl, Or.inr ⟨rfl, rfl, rfl⟩⟩
theorem zp_St_init_2_15 : zPf M_St_init_2 15 8 1 .byte := ⟨zf_St_15, _, _, _, ty_St, rfl, tyok_St, nm_St, rfl, Or.inr ⟨rfl, rfl, rfl⟩⟩
theorem zk_St_681 : zLkV "java/lang/String" 681 8 M_St_substring_0 2 := ⟨zc_St_substring_0, ⟨_, _, _, rfl, Or.inl (zt3 85 rfl)⟩, zt3 84 rfl, Or.inl (zt3 110 rfl)⟩
theorem zk_St_541 : zLkS "java/lang/String" 541 M_L1_equals 2 := ⟨zc_L1_equals, zt3 165 rfl, Or.inl (zt3 164 rfl)⟩
theorem zk_St_106 : zLkS "java/lang/String" 106 M_L1_inflate 5 := ⟨zc_L1_inflate, zt2 94 rfl, Or.inl (zt3 202 rfl)⟩
theorem sSt_checkBoundsOffCount_0 {G : zG} {d : Nat} {Q : Option Value → Heap → Prop} {H : Heap} {st : List Value} {x0 : Int32} {x1 : Int32} {x2 : Int32} {vf1 : Value} {P : Int32 → Heap → Prop} (hrf1 : zRf vf1 := by first | exact zRf_ref | exact zRf_null | exact zRf_rf _ | assumption) (hz1 : va_Z "jdk/internal/util/Preconditions" "SIOOBE_FORMATTER" "Ljava/util/function/BiFunction;" vf1 (zFr G) (zS G) (zS G).heap) (hd : 1 ≤ d) (hl : st.length ≤ 4) (hc : zC G (d - 1) M_Pc_checkFromIndexSize [(.int x0), (.int x1), (.int x2), vf1] H (zPi P)) (kk : ∀ (r : Int32) (H1 : Heap), P r H1 → zOk G H1 → H.size ≤ H1.size → zT H ≤ zT H1 → zW G d M_St_checkBoundsOffCount 9 [some (.int x0), some (.int x1), some (.int x2)] ((.int r) :: st) H1 Q) : zW G d M_St_checkBoundsOffCount 0 [some (.int x0), some (.int x1), some (.int x2)] st H Q :=
  zw_iload_n (i := 0) dSt_checkBoundsOffCount_0 rfl rfl <| zw_iload_n (i := 1) dSt_checkBoundsOffCount_1 rfl rfl <| zw_iload_n (i := 2) dSt_checkBoundsOffCount_2 rfl rfl <| zw_gets dSt_checkBoundsOffCount_3 hz1 (zt2 108 rfl) (Or.inl rfl) <| zw_callS [(.int x0), (.int x1), (.int x2), vf1] _ dSt_checkBoundsOffCount_6 hd zk_St_1065 rfl rfl hl hc (zPi_k kk)
theorem sSt_checkBoundsOffCount_9 {G : zG} {d : Nat} {Q : Option Value → Heap → Prop} {H : Heap} {o0 : Option Value} {o1 : Option Value} {o2 : Option Value} {xs0 : Int32} (hq : Q (some (.int xs0)) H) : zW G d M_St_checkBoundsOffCount 9 [o0, o1, o2] ((.int xs0) :: []) H Q :=
  zw_iret dSt_checkBoundsOffCount_9 .int rfl rfl hq
theorem sSt_checkIndex_0 {G : zG} {d : Nat} {Q : Option Value → Heap → Prop} {H : Heap} {st : List Value} {x0 : Int32} {x1 : Int32} {vf1 : Value} {P : Int32 → Heap → Prop} (hrf1 : zRf vf1 := by first | exact zRf_ref | exact zRf_null | exact zRf_rf _ | assumption) (hz1 : va_Z "jdk/internal/util/Preconditions" "SIOOBE_FORMATTER" "Ljava/util/function/BiFunction;" vf1 (zFr G) (zS G) (zS G).heap) (hd : 1 ≤ d) (hl : st.length ≤ 4) (hc : zC G (d - 1) M_Pc_checkIndex [(.int x0), (.int x1), vf1] H (zPi P)) (kk : ∀ (r : Int32) (H1 : Heap), P r H1 → zOk G H1 → H.size ≤ H1.size → zT H ≤ zT H1 → zW G d M_St_checkIndex 8 [some (.int x0), some (.int x1)] ((.int r) :: st) H1 Q) : zW G d M_St_checkIndex 0 [some (.int x0), some (.int x1)] st H Q :=
  zw_iload_n (i := 0) dSt_checkIndex_0 rfl rfl <| zw_iload_n (i := 1) dSt_checkIndex_1 rfl rfl <| zw_gets dSt_checkIndex_2 hz1 (zt2 108 rfl) (Or.inl rfl) <| zw_callS [(.int x0), (.int x1), vf1] _ dSt_checkIndex_5 hd zk_St_1059 rfl rfl hl hc (zPi_k kk)
theorem sSt_checkIndex_8 {G : zG} {d : Nat} {Q : Option Value → Heap → Prop} {H : Heap} {o0 : Option Value} {o1 : Option Value} {ws0 : Value} (hcs0 : ws0.category = 1 := by first | rfl | exact zRf.cat (by assumption)) (hq : Q none H) : zW G d M_St_checkIndex 8 [o0, o1] (ws0 :: []) H Q :=
  zw_pop dSt_checkIndex_8 hcs0 <| zw_vret dSt_checkIndex_9 rfl hq
theorem sSt_init_0_0 {G : zG} {d : Nat} {Q : Option Value → Heap → Prop} {H : Heap} {st : List Value} {a0 : Nat} {v1 : Value} {P : Heap → Prop} (hr1 : zRf v1 := by first | exact zRf_ref | exact zRf_null | exact zRf_rf _ | assumption) (hd : 1 ≤ d) (hl : st.length ≤ 4) (hc : zC G (d - 1) M_St_init_1 [(.ref a0), v1, .null] H (zPv P)) (kk : ∀ H1 : Heap, P H1 → zOk G H1 → H.size ≤ H1.size → zT H ≤ zT H1 → zW G d M_St_init_0 6 [some (.ref a0), some v1] st H1 Q) : zW G d M_St_init_0 0 [some (.ref a0), some v1] st H Q :=
  zw_aload_n (i := 0) dSt_init_0_0 rfl rfl zRf_ref <| zw_aload_n (i := 1) dSt_init_0_1 rfl rfl hr1 <| zw_null dSt_init_0_2 <| zw_callI [v1, .null] _ dSt_init_0_3 hd zk_St_489 rfl rfl hl hc (zPv_k kk)
theorem sSt_init_0_6 {G : zG} {d : Nat} {Q : Option Value → Heap → Prop} {H : Heap} {o0 : Option Value} {o1 : Option Value} (hq : Q none H) : zW G d M_St_init_0 6 [o0, o1] [] H Q :=
  zw_vret dSt_init_0_6 rfl hq
theorem sSt_init_1_0 {G : zG} {d : Nat} {Q : Option Value → Heap → Prop} {H : Heap} {st : List Value} {o1 : Option Value} {o2 : Option Value} {o3 : Option Value} {o4 : Option Value} {a0 : Nat} (hd : 1 ≤ d) (hl : st.length ≤ 4) (kk : zW G d M_St_init_1 4 [some (.ref a0), o1, o2, o3, o4] st H Q) : zW G d M_St_init_1 0 [some (.ref a0), o1, o2, o3, o4] st H Q :=
  zw_aload_n (i := 0) dSt_init_1_0 rfl rfl zRf_ref <| zw_objInit dSt_init_1_1 hd (zt2 194 rfl) zo_inst zo_code hl kk
theorem sSt_init_1_4 {G : zG} {d : Nat} {Q : Option Value → Heap → Prop} {H : Heap} {st : List Value} {o0 : Option Value} {o2 : Option Value} {o3 : Option Value} {o4 : Option Value} {a1 : Nat} {P : Value → Heap → Prop} (hd : 1 ≤ d) (hl : st.length ≤ 4) (ho : zIs G H a1 1) (hc : zC G (d - 1) M_Ab_getValue [(.ref a1)] H (zPr P)) (kk : ∀ (r : Value) (H1 : Heap), zRf r → P r H1 → zOk G H1 → H.size ≤ H1.size → zT H ≤ zT H1 → zW G d M_St_init_1 8 [o0, some (.ref a1), o2, o3, o4] (r :: st) H1 Q) : zW G d M_St_init_1 4 [o0, some (.ref a1), o2, o3, o4] st H Q :=
  zw_aload_n (i := 1) dSt_init_1_4 rfl rfl zRf_ref <| zw_callV [] _ dSt_init_1_5 hd zk_St_552 ho rfl rfl hl hc (zPr_k kk)
theorem sSt_init_1_8 {G : zG} {d : Nat} {Q : Option Value → Heap → Prop} {H : Heap} {st : List Value} {o0 : Option Value} {o2 : Option Value} {o3 : Option Value} {o4 : Option Value} {vs0 : Value} {v1 : Value} (hrs0 : zRf vs0 := by first | exact zRf_ref | exact zRf_null | exact zRf_rf _ | assumption) (hr1 : zRf v1 := by first | exact zRf_ref | exact zRf_null | exact zRf_rf _ | assumption) (kk : zW G d M_St_init_1 10 [o0, some v1, o2, some vs0, o4] (v1 :: st) H Q) : zW G d M_St_init_1 8 [o0, some v1, o2, o3, o4] (vs0 :: st) H Q :=
  zw_astore_n (i := 3) dSt_init_1_8 rfl (Nat.le_of_ble_eq_true rfl) hrs0 <| zw_aload_n (i := 1) dSt_init_1_9 rfl rfl hr1 <| kk
theorem sSt_init_1_13 {G : zG} {d : Nat} {Q : Option Value → Heap → Prop} {H : Heap} {st : List Value} {o0 : Option Value} {o2 : Option Value} {o3 : Option Value} {o4 : Option Value} {xs0 : Int32} {a1 : Nat} {P : Int32 → Heap → Prop} (hd : 1 ≤ d) (hl : st.length ≤ 4) (ho : zIs G H a1 1) (hc : zC G (d - 1) M_Ab_isLatin1 [(.ref a1)] H (zPi P)) (kk : ∀ (r : Int32) (H1 : Heap), P r H1 → zOk G H1 → H.size ≤ H1.size → zT H ≤ zT H1 → zW G d M_St_init_1 19 [o0, some (.ref a1), o2, o3, some (.int xs0)] ((.int r) :: st) H1 Q) : zW G d M_St_init_1 13 [o0, some (.ref a1), o2, o3, o4] ((.int xs0) :: st) H Q :=
  zw_istore (i := 4) dSt_init_1_13 (Nat.le_of_ble_eq_true rfl) <| zw_aload_n (i := 1) dSt_init_1_15 rfl rfl zRf_ref <| zw_callV [] _ dSt_init_1_16 hd zk_St_1047 ho rfl rfl hl hc (zPi_k kk)
theorem sSt_init_1_19 {G : zG} {d : Nat} {Q : Option Value → Heap → Prop} {H : Heap} {st : List Value} {o0 : Option Value} {o1 : Option Value} {o2 : Option Value} {o3 : Option Value} {o4 : Option Value} {xs0 : Int32} (kt : (xs0 = 0) → zW G d M_St_init_1 41 [o0, o1, o2, o3, o4] st H Q) (kf : (¬ xs0 = 0) → zW G d M_St_init_1 22 [o0, o1, o2, o3, o4] st H Q) : zW G d M_St_init_1 19 [o0, o1, o2, o3, o4] ((.int xs0) :: st) H Q :=
  zw_if_eq 41 dSt_init_1_19 (by decide) kt kf
theorem sSt_init_1_22 {G : zG} {d : Nat} {Q : Option Value → Heap → Prop} {H : Heap} {st : List Value} {o1 : Option Value} {o2 : Option Value} {o3 : Option Value} {o4 : Option Value} {a0 : Nat} {b0 : Value} {b1 : Value} {b2 : Value} {b3 : Value} (ho : zObj G H a0 8 [b0, b1, b2, b3]) (hw : zFr G a0) (hn : narrow .byte (.int (0 : Int32)) = (.int (0 : Int32))) (hfit : fits .byte (.int (0 : Int32)) = true) (kk : ∀ H1 : Heap, zObj G H1 a0 8 [b0, (.int (0 : Int32)), b2, b3] → zUp a0 H H1 → zW G d M_St_init_1 27 [some (.ref a0), o1, o2, o3, o4] st H1 Q) : zW G d M_St_init_1 22 [some (.ref a0), o1, o2, o3, o4] st H Q :=
  zw_aload_n (i := 0) dSt_init_1_22 rfl rfl zRf_ref <| zw_iconst (0 : Int32) dSt_init_1_23 zki_0 <| zw_putf (k := 1) dSt_init_1_24 zp_St_init_1_15 ho (Nat.le_of_ble_eq_true rfl) (Nat.le_of_ble_eq_true rfl) hw hn hfit kk
theorem sSt_init_1_27 {G : zG} {d : Nat} {Q : Option Value → Heap → Prop} {H : Heap} {st : List Value} {o1 : Option Value} {o2 : Option Value} {v0 : Value} {v3 : Value} {x4 : Int32} {P : Value → Heap → Prop} (hr0 : zRf v0 := by first | exact zRf_ref | exact zRf_null | exact zRf_rf _ | assumption) (hr3 : zRf v3 := by first | exact zRf_ref | exact zRf_null | exact zRf_rf _ | assumption) (hd : 1 ≤ d) (hl : (v0 :: st).length ≤ 4) (hc : zC G (d - 1) M_Ar_copyOfRange [v3, (.int (0 : Int32)), (.int x4)] H (zPr P)) (kk : ∀ (r : Value) (H1 : Heap), zRf r → P r H1 → zOk G H1 → H.size ≤ H1.size → zT H ≤ zT H1 → zW G d M_St_init_1 35 [some v0, o1, o2, some v3, some (.int x4)] (r :: v0 :: st) H1 Q) : zW G d M_St_init_1 27 [some v0, o1, o2, some v3, some (.int x4)] st H Q :=
  zw_aload_n (i := 0) dSt_init_1_27 rfl rfl hr0 <| zw_aload_n (i := 3) dSt_init_1_28 rfl rfl hr3 <| zw_iconst (0 : Int32) dSt_init_1_29 zki_0 <| zw_iload (i := 4) dSt_init_1_30 rfl <| zw_callS [v3, (.int (0 : Int32)), (.int x4)] _ dSt_init_1_32 hd zk_St_54 rfl rfl hl hc (zPr_k kk)
theorem sSt_init_1_35 {G : zG} {d : Nat} {Q : Option Value → Heap → Prop} {H : Heap} {st : List Value} {o0 : Option Value} {o1 : Option Value} {o2 : Option Value} {o3 : Option Value} {o4 : Option Value} {vs0 : Value} {as1 : Nat} {b0 : Value} {b1 : Value} {b2 : Value} {b3 : Value} (hrs0 : zRf vs0 := by first | exact zRf_ref | exact zRf_null | exact zRf_rf _ | assumption) (ho : zObj G H as1 8 [b0, b1, b2, b3]) (hw : zFr G as1) (kk : ∀ H1 : Heap, zObj G H1 as1 8 [vs0, b1, b2, b3] → zUp as1 H H1 → zW G d M_St_init_1 38 [o0, o1, o2, o3, o4] st H1 Q) : zW G d M_St_init_1 35 [o0, o1, o2, o3, o4] (vs0 :: (.ref as1) :: st) H Q :=
  zw_putf (k := 0) dSt_init_1_35 zp_St_init_1_9 ho (Nat.le_of_ble_eq_true rfl) (Nat.le_of_ble_eq_true rfl) hw (zNarA hrs0) (zFitA hrs0) kk
theorem sSt_init_1_38 {G : zG} {d : Nat} {Q : Option Value → Heap → Prop} {H : Heap} {o0 : Option Value} {o1 : Option Value} {o2 : Option Value} {o3 : Option Value} {o4 : Option Value} (hq : Q none H) : zW G d M_St_init_1 38 [o0, o1, o2, o3, o4] [] H Q :=
  zw_goto 97 dSt_init_1_38 (by decide) <| zw_vret dSt_init_1_97 rfl hq
theorem sSt_init_1_41 {G : zG} {d : Nat} {Q : Option Value → Heap → Prop} {H : Heap} {st : List Value} {o0 : Option Value} {o1 : Option Value} {o2 : Option Value} {o3 : Option Value} {o4 : Option Value} (hz1 : va_Z "java/lang/String" "COMPACT_STRINGS" "Z" (.int 1) (zFr G) (zS G) (zS G).heap) (kt : ((1 : Int32) = 0) → zW G d M_St_init_1 79 [o0, o1, o2, o3, o4] st H Q) (kf : (¬ (1 : Int32) = 0) → zW G d M_St_init_1 47 [o0, o1, o2, o3, o4] st H Q) : zW G d M_St_init_1 41 [o0, o1, o2, o3, o4] st H Q :=
  zw_gets dSt_init_1_41 hz1 (zt2 211 rfl) (Or.inl rfl) <| zw_if_eq 79 dSt_init_1_44 (by decide) kt kf
theorem sSt_init_1_47 {G : zG} {d : Nat} {Q : Option Value → Heap → Prop} {H : Heap} {st : List Value} {o0 : Option Value} {o2 : Option Value} {o3 : Option Value} {o4 : Option Value} {a1 : Nat} {xf1 : Int32} (hf1 : zFd G H a1 1 2 (.int xf1)) (kt : (xf1 = 0) → zW G d M_St_init_1 79 [o0, some (.ref a1), o2, o3, o4] st H Q) (kf : (¬ xf1 = 0) → zW G d M_St_init_1 54 [o0, some (.ref a1), o2, o3, o4] st H Q) : zW G d M_St_init_1 47 [o0, some (.ref a1), o2, o3, o4] st H Q :=
  zw_aload_n (i := 1) dSt_init_1_47 rfl rfl zRf_ref <| zw_getf dSt_init_1_48 zf_St_1048 hf1 <| zw_if_eq 79 dSt_init_1_51 (by decide) kt kf
theorem sSt_init_1_54 {G : zG} {d : Nat} {Q : Option Value → Heap → Prop} {H : Heap} {st : List Value} {o1 : Option Value} {o2 : Option Value} {v0 : Value} {v3 : Value} {x4 : Int32} {P : Value → Heap → Prop} (hr0 : zRf v0 := by first | exact zRf_ref | exact zRf_null | exact zRf_rf _ | assumption) (hr3 : zRf v3 := by first | exact zRf_ref | exact zRf_null | exact zRf_rf _ | assumption) (hd : 1 ≤ d) (hl : (v0 :: st).length ≤ 4) (hc : zC G (d - 1) M_U16_compress_0 [v3, (.int (0 : Int32)), (.int x4)] H (zPr P)) (kk : ∀ (r : Value) (H1 : Heap), zRf r → P r H1 → zOk G H1 → H.size ≤ H1.size → zT H ≤ zT H1 → zW G d M_St_init_1 62 [some v0, o1, o2, some v3, some (.int x4)] (r :: v0 :: st) H1 Q) : zW G d M_St_init_1 54 [some v0, o1, o2, some v3, some (.int x4)] st H Q :=
  zw_aload_n (i := 0) dSt_init_1_54 rfl rfl hr0 <| zw_aload_n (i := 3) dSt_init_1_55 rfl rfl hr3 <| zw_iconst (0 : Int32) dSt_init_1_56 zki_0 <| zw_iload (i := 4) dSt_init_1_57 rfl <| zw_callS [v3, (.int (0 : Int32)), (.int x4)] _ dSt_init_1_59 hd zk_St_1051 rfl rfl hl hc (zPr_k kk)
theorem sSt_init_1_62 {G : zG} {d : Nat} {Q : Option Value → Heap → Prop} {H : Heap} {st : List Value} {o0 : Option Value} {o1 : Option Value} {o2 : Option Value} {o3 : Option Value} {o4 : Option Value} {vs0 : Value} {as1 : Nat} {b0 : Value} {b1 : Value} {b2 : Value} {b3 : Value} (hrs0 : zRf vs0 := by first | exact zRf_ref | exact zRf_null | exact zRf_rf _ | assumption) (ho : zObj G H as1 8 [b0, b1, b2, b3]) (hw : zFr G as1) (kk : ∀ H1 : Heap, zObj G H1 as1 8 [vs0, b1, b2, b3] → zUp as1 H H1 → zW G d M_St_init_1 65 [o0, o1, o2, o3, o4] st H1 Q) : zW G d M_St_init_1 62 [o0, o1, o2, o3, o4] (vs0 :: (.ref as1) :: st) H Q :=
  zw_putf (k := 0) dSt_init_1_62 zp_St_init_1_9 ho (Nat.le_of_ble_eq_true rfl) (Nat.le_of_ble_eq_true rfl) hw (zNarA hrs0) (zFitA hrs0) kk
theorem sSt_init_1_65 {G : zG} {d : Nat} {Q : Option Value → Heap → Prop} {H : Heap} {st : List Value} {o1 : Option Value} {o2 : Option Value} {o3 : Option Value} {a0 : Nat} {vf1 : Value} {x4 : Int32} {P : Int32 → Heap → Prop} (hrf1 : zRf vf1 := by first | exact zRf_ref | exact zRf_null | exact zRf_rf _ | assumption) (hf1 : zFd G H a0 8 0 vf1) (hd : 1 ≤ d) (hl : ((.ref a0) :: st).length ≤ 4) (hc : zC G (d - 1) M_U16_coderFromArrayLen [vf1, (.int x4)] H (zPi P)) (kk : ∀ (r : Int32) (H1 : Heap), P r H1 → zOk G H1 → H.size ≤ H1.size → zT H ≤ zT H1 → zW G d M_St_init_1 75 [some (.ref a0), o1, o2, o3, some (.int x4)] ((.int r) :: (.ref a0) :: st) H1 Q) : zW G d M_St_init_1 65 [some (.ref a0), o1, o2, o3, some (.int x4)] st H Q :=
  zw_aload_n (i := 0) dSt_init_1_65 rfl rfl zRf_ref <| zw_aload_n (i := 0) dSt_init_1_66 rfl rfl zRf_ref <| zw_getf dSt_init_1_67 zf_St_9 hf1 <| zw_iload (i := 4) dSt_init_1_70 rfl <| zw_callS [vf1, (.int x4)] _ dSt_init_1_72 hd zk_St_47 rfl rfl hl hc (zPi_k kk)
theorem sSt_init_1_75 {G : zG} {d : Nat} {Q : Option Value → Heap → Prop} {H : Heap} {st : List Value} {o0 : Option Value} {o1 : Option Value} {o2 : Option Value} {o3 : Option Value} {o4 : Option Value} {xs0 : Int32} {as1 : Nat} {b0 : Value} {b1 : Value} {b2 : Value} {b3 : Value} (ho : zObj G H as1 8 [b0, b1, b2, b3]) (hw : zFr G as1) (hn : narrow .byte (.int xs0) = (.int xs0)) (hfit : fits .byte (.int xs0) = true) (kk : ∀ H1 : Heap, zObj G H1 as1 8 [b0, (.int xs0), b2, b3] → zUp as1 H H1 → zW G d M_St_init_1 78 [o0, o1, o2, o3, o4] st H1 Q) : zW G d M_St_init_1 75 [o0, o1, o2, o3, o4] ((.int xs0) :: (.ref as1) :: st) H Q :=
  zw_putf (k := 1) dSt_init_1_75 zp_St_init_1_15 ho (Nat.le_of_ble_eq_true rfl) (Nat.le_of_ble_eq_true rfl) hw hn hfit kk
theorem sSt_init_1_78 {G : zG} {d : Nat} {Q : Option Value → Heap → Prop} {H : Heap} {o0 : Option Value} {o1 : Option Value} {o2 : Option Value} {o3 : Option Value} {o4 : Option Value} (hq : Q none H) : zW G d M_St_init_1 78 [o0, o1, o2, o3, o4] [] H Q :=
  zw_vret dSt_init_1_78 rfl hq
theorem sSt_init_1_79 {G : zG} {d : Nat} {Q : Option Value → Heap → Prop} {H : Heap} {st : List Value} {o1 : Option Value} {o2 : Option Value} {o3 : Option Value} {o4 : Option Value} {a0 : Nat} {b0 : Value} {b1 : Value} {b2 : Value} {b3 : Value} (ho : zObj G H a0 8 [b0, b1, b2, b3]) (hw : zFr G a0) (hn : narrow .byte (.int (1 : Int32)) = (.int (1 : Int32))) (hfit : fits .byte (.int (1 : Int32)) = true) (kk : ∀ H1 : Heap, zObj G H1 a0 8 [b0, (.int (1 : Int32)), b2, b3] → zUp a0 H H1 → zW G d M_St_init_1 84 [some (.ref a0), o1, o2, o3, o4] st H1 Q) : zW G d M_St_init_1 79 [some (.ref a0), o1, o2, o3, o4] st H Q :=
  zw_aload_n (i := 0) dSt_init_1_79 rfl rfl zRf_ref <| zw_iconst (1 : Int32) dSt_init_1_80 zki_1 <| zw_putf (k := 1) dSt_init_1_81 zp_St_init_1_15 ho (Nat.le_of_ble_eq_true rfl) (Nat.le_of_ble_eq_true rfl) hw hn hfit kk
theorem sSt_init_1_84 {G : zG} {d : Nat} {Q : Option Value → Heap → Prop} {H : Heap} {st : List Value} {o1 : Option Value} {o2 : Option Value} {v0 : Value} {v3 : Value} {x4 : Int32} {P : Value → Heap → Prop} (hr0 : zRf v0 := by first | exact zRf_ref | exact zRf_null | exact zRf_rf _ | assumption) (hr3 : zRf v3 := by first | exact zRf_ref | exact zRf_null | exact zRf_rf _ | assumption) (hd : 1 ≤ d) (hl : (v0 :: st).length ≤ 4) (hc : zC G (d - 1) M_Ar_copyOfRange [v3, (.int (0 : Int32)), (.int (x4 <<< ((1 : Int32) &&& 31)))] H (zPr P)) (kk : ∀ (r : Value) (H1 : Heap), zRf r → P r H1 → zOk G H1 → H.size ≤ H1.size → zT H ≤ zT H1 → zW G d M_St_init_1 94 [some v0, o1, o2, some v3, some (.int x4)] (r :: v0 :: st) H1 Q) : zW G d M_St_init_1 84 [some v0, o1, o2, some v3, some (.int x4)] st H Q :=
  zw_aload_n (i := 0) dSt_init_1_84 rfl rfl hr0 <| zw_aload_n (i := 3) dSt_init_1_85 rfl rfl hr3 <| zw_iconst (0 : Int32) dSt_init_1_86 zki_0 <| zw_iload (i := 4) dSt_init_1_87 rfl <| zw_iconst (1 : Int32) dSt_init_1_89 zki_1 <| zw_ishl dSt_init_1_90 <| zw_callS [v3, (.int (0 : Int32)), (.int (x4 <<< ((1 : Int32) &&& 31)))] _ dSt_init_1_91 hd zk_St_54 rfl rfl hl hc (zPr_k kk)
theorem sSt_init_1_94 {G : zG} {d : Nat} {Q : Option Value → Heap → Prop} {H : Heap} {st : List Value} {o0 : Option Value} {o1 : Option Value} {o2 : Option Value} {o3 : Option Value} {o4 : Option Value} {vs0 : Value} {as1 : Nat} {b0 : Value} {b1 : Value} {b2 : Value} {b3 : Value} (hrs0 : zRf vs0 := by first | exact zRf_ref | exact zRf_null | exact zRf_rf _ | assumption) (ho : zObj G H as1 8 [b0, b1, b2, b3]) (hw : zFr G as1) (kk : ∀ H1 : Heap, zObj G H1 as1 8 [vs0, b1, b2, b3] → zUp as1 H H1 → zW G d M_St_init_1 97 [o0, o1, o2, o3, o4] st H1 Q) : zW G d M_St_init_1 94 [o0, o1, o2, o3, o4] (vs0 :: (.ref as1) :: st) H Q :=
  zw_putf (k := 0) dSt_init_1_94 zp_St_init_1_9 ho (Nat.le_of_ble_eq_true rfl) (Nat.le_of_ble_eq_true rfl) hw (zNarA hrs0) (zFitA hrs0) kk
theorem sSt_init_1_97 {G : zG} {d : Nat} {Q : Option Value → Heap → Prop} {H : Heap} {o0 : Option Value} {o1 : Option Value} {o2 : Option Value} {o3 : Option Value} {o4 : Option Value} (hq : Q none H) : zW G d M_St_init_1 97 [o0, o1, o2, o3, o4] [] H Q :=
  zw_vret dSt_init_1_97 rfl hq
theorem sSt_length_0 {G : zG} {d : Nat} {Q : Option Value → Heap → Prop} {H : Heap} {st : List Value} {a0 : Nat} {af1 : Nat} {n2 : Nat} {t2 : FieldType} {g2 : Nat → Value} {P : Int32 → Heap → Prop} (hf1 : zFd G H a0 8 0 (.ref af1)) (ha2 : zArr G H af1 t2 n2 g2) (hd : 1 ≤ d) (hl : ((.int (nI n2)) :: st).length ≤ 4) (ho : zIs G H a0 8) (hc : zC G (d - 1) M_St_coder [(.ref a0)] H (zPi P)) (kk : ∀ (r : Int32) (H1 : Heap), P r H1 → zOk G H1 → H.size ≤ H1.size → zT H ≤ zT H1 → zW G d M_St_length 9 [some (.ref a0)] ((.int r) :: (.int (nI n2)) :: st) H1 Q) : zW G d M_St_length 0 [some (.ref a0)] st H Q :=
  zw_aload_n (i := 0) dSt_length_0 rfl rfl zRf_ref <| zw_getf dSt_length_1 zf_St_9 hf1 <| zw_alen dSt_length_4 ha2 <| zw_aload_n (i := 0) dSt_length_5 rfl rfl zRf_ref <| zw_callV [] _ dSt_length_6 hd zk_St_335 ho rfl rfl hl hc (zPi_k kk)
theorem sSt_length_9 {G : zG} {d : Nat} {Q : Option Value → Heap → Prop} {H : Heap} {o0 : Option Value} {xs0 : Int32} {xs1 : Int32} (hq : Q (some (.int (xs1 >>> (xs0 &&& 31)))) H) : zW G d M_St_length 9 [o0] ((.int xs0) :: (.int xs1) :: []) H Q :=
  zw_ishr dSt_length_9 <| zw_iret dSt_length_10 .int rfl rfl hq
theorem sSt_coder_0 {G : zG} {d : Nat} {Q : Option Value → Heap → Prop} {H : Heap} {st : List Value} {o0 : Option Value} (hz1 : va_Z "java/lang/String" "COMPACT_STRINGS" "Z" (.int 1) (zFr G) (zS G) (zS G).heap) (kt : ((1 : Int32) = 0) → zW G d M_St_coder 13 [o0] st H Q) (kf : (¬ (1 : Int32) = 0) → zW G d M_St_coder 6 [o0] st H Q) : zW G d M_St_coder 0 [o0] st H Q :=
  zw_gets dSt_coder_0 hz1 (zt2 211 rfl) (Or.inl rfl) <| zw_if_eq 13 dSt_coder_3 (by decide) kt kf
theorem sSt_coder_6 {G : zG} {d : Nat} {Q : Option Value → Heap → Prop} {H : Heap} {a0 : Nat} {xf1 : Int32} (hf1 : zFd G H a0 8 1 (.int xf1)) (hn : narrow .byte (.int xf1) = .int xf1) (hq : Q (some (.int xf1)) H) : zW G d M_St_coder 6 [some (.ref a0)] [] H Q :=
  zw_aload_n (i := 0) dSt_coder_6 rfl rfl zRf_ref <| zw_getf dSt_coder_7 zf_St_15 hf1 <| zw_goto 14 dSt_coder_10 (by decide) <| zw_iret dSt_coder_14 .byte rfl hn hq
theorem sSt_coder_13 {G : zG} {d : Nat} {Q : Option Value → Heap → Prop} {H : Heap} {o0 : Option Value} (hn : narrow .byte (.int (1 : Int32)) = .int (1 : Int32)) (hq : Q (some (.int (1 : Int32))) H) : zW G d M_St_coder 13 [o0] [] H Q :=
  zw_iconst (1 : Int32) dSt_coder_13 zki_1 <| zw_iret dSt_coder_14 .byte rfl hn hq
theorem sSt_coder_14 {G : zG} {d : Nat} {Q : Option Value → Heap → Prop} {H : Heap} {o0 : Option Value} {xs0 : Int32} (hn : narrow .byte (.int xs0) = .int xs0) (hq : Q (some (.int xs0)) H) : zW G d M_St_coder 14 [o0] ((.int xs0) :: []) H Q :=
  zw_iret dSt_coder_14 .byte rfl hn hq
theorem sSt_charAt_0 {G : zG} {d : Nat} {Q : Option Value → Heap → Prop} {H : Heap} {st : List Value} {o1 : Option Value} {a0 : Nat} {P : Int32 → Heap → Prop} (hd : 1 ≤ d) (hl : st.length ≤ 4) (ho : zIs G H a0 8) (hc : zC G (d - 1) M_St_isLatin1 [(.ref a0)] H (zPi P)) (kk : ∀ (r : Int32) (H1 : Heap), P r H1 → zOk G H1 → H.size ≤ H1.size → zT H ≤ zT H1 → zW G d M_St_charAt 4 [some (.ref a0), o1] ((.int r) :: st) H1 Q) : zW G d M_St_charAt 0 [some (.ref a0), o1] st H Q :=
  zw_aload_n (i := 0) dSt_charAt_0 rfl rfl zRf_ref <| zw_callV [] _ dSt_charAt_1 hd zk_St_492 ho rfl rfl hl hc (zPi_k kk)
theorem sSt_charAt_4 {G : zG} {d : Nat} {Q : Option Value → Heap → Prop} {H : Heap} {st : List Value} {o0 : Option Value} {o1 : Option Value} {xs0 : Int32} (kt : (xs0 = 0) → zW G d M_St_charAt 16 [o0, o1] st H Q) (kf : (¬ xs0 = 0) → zW G d M_St_charAt 7 [o0, o1] st H Q) : zW G d M_St_charAt 4 [o0, o1] ((.int xs0) :: st) H Q :=
  zw_if_eq 16 dSt_charAt_4 (by decide) kt kf
theorem sSt_charAt_7 {G : zG} {d : Nat} {Q : Option Value → Heap → Prop} {H : Heap} {st : List Value} {a0 : Nat} {vf1 : Value} {x1 : Int32} {P : Int32 → Heap → Prop} (hrf1 : zRf vf1 := by first | exact zRf_ref | exact zRf_null | exact zRf_rf _ | assumption) (hf1 : zFd G H a0 8 0 vf1) (hd : 1 ≤ d) (hl : st.length ≤ 4) (hc : zC G (d - 1) M_L1_charAt [vf1, (.int x1)] H (zPi P)) (kk : ∀ (r : Int32) (H1 : Heap), P r H1 → zOk G H1 → H.size ≤ H1.size → zT H ≤ zT H1 → zW G d M_St_charAt 15 [some (.ref a0), some (.int x1)] ((.int r) :: st) H1 Q) : zW G d M_St_charAt 7 [some (.ref a0), some (.int x1)] st H Q :=
  zw_aload_n (i := 0) dSt_charAt_7 rfl rfl zRf_ref <| zw_getf dSt_charAt_8 zf_St_9 hf1 <| zw_iload_n (i := 1) dSt_charAt_11 rfl rfl <| zw_callS [vf1, (.int x1)] _ dSt_charAt_12 hd zk_St_495 rfl rfl hl hc (zPi_k kk)
theorem sSt_charAt_15 {G : zG} {d : Nat} {Q : Option Value → Heap → Prop} {H : Heap} {o0 : Option Value} {o1 : Option Value} {xs0 : Int32} (hn : narrow .char (.int xs0) = .int xs0) (hq : Q (some (.int xs0)) H) : zW G d M_St_charAt 15 [o0, o1] ((.int xs0) :: []) H Q :=
  zw_iret dSt_charAt_15 .char rfl hn hq
theorem sSt_charAt_16 {G : zG} {d : Nat} {Q : Option Value → Heap → Prop} {H : Heap} {st : List Value} {a0 : Nat} {vf1 : Value} {x1 : Int32} {P : Int32 → Heap → Prop} (hrf1 : zRf vf1 := by first | exact zRf_ref | exact zRf_null | exact zRf_rf _ | assumption) (hf1 : zFd G H a0 8 0 vf1) (hd : 1 ≤ d) (hl : st.length ≤ 4) (hc : zC G (d - 1) M_U16_charAt [vf1, (.int x1)] H (zPi P)) (kk : ∀ (r : Int32) (H1 : Heap), P r H1 → zOk G H1 → H.size ≤ H1.size → zT H ≤ zT H1 → zW G d M_St_charAt 24 [some (.ref a0), some (.int x1)] ((.int r) :: st) H1 Q) : zW G d M_St_charAt 16 [some (.ref a0), some (.int x1)] st H Q :=
  zw_aload_n (i := 0) dSt_charAt_16 rfl rfl zRf_ref <| zw_getf dSt_charAt_17 zf_St_9 hf1 <| zw_iload_n (i := 1) dSt_charAt_20 rfl rfl <| zw_callS [vf1, (.int x1)] _ dSt_charAt_21 hd zk_St_498 rfl rfl hl hc (zPi_k kk)
theorem sSt_charAt_24 {G : zG} {d : Nat} {Q : Option Value → Heap → Prop} {H : Heap} {o0 : Option Value} {o1 : Option Value} {xs0 : Int32} (hn : narrow .char (.int xs0) = .int xs0) (hq : Q (some (.int xs0)) H) : zW G d M_St_charAt 24 [o0, o1] ((.int xs0) :: []) H Q :=
  zw_iret dSt_charAt_24 .char rfl hn hq
theorem sSt_isLatin1_0 {G : zG} {d : Nat} {Q : Option Value → Heap → Prop} {H : Heap} {st : List Value} {o0 : Option Value} (hz1 : va_Z "java/lang/String" "COMPACT_STRINGS" "Z" (.int 1) (zFr G) (zS G) (zS G).heap) (kt : ((1 : Int32) = 0) → zW G d M_St_isLatin1 17 [o0] st H Q) (kf : (¬ (1 : Int32) = 0) → zW G d M_St_isLatin1 6 [o0] st H Q) : zW G d M_St_isLatin1 0 [o0] st H Q :=
  zw_gets dSt_isLatin1_0 hz1 (zt2 211 rfl) (Or.inl rfl) <| zw_if_eq 17 dSt_isLatin1_3 (by decide) kt kf
theorem sSt_isLatin1_6 {G : zG} {d : Nat} {Q : Option Value → Heap → Prop} {H : Heap} {st : List Value} {a0 : Nat} {xf1 : Int32} (hf1 : zFd G H a0 8 1 (.int xf1)) (kt : (¬ xf1 = 0) → zW G d M_St_isLatin1 17 [some (.ref a0)] st H Q) (kf : (xf1 = 0) → zW G d M_St_isLatin1 13 [some (.ref a0)] st H Q) : zW G d M_St_isLatin1 6 [some (.ref a0)] st H Q :=
  zw_aload_n (i := 0) dSt_isLatin1_6 rfl rfl zRf_ref <| zw_getf dSt_isLatin1_7 zf_St_15 hf1 <| zw_if_ne 17 dSt_isLatin1_10 (by decide) kt kf
theorem sSt_isLatin1_13 {G : zG} {d : Nat} {Q : Option Value → Heap → Prop} {H : Heap} {o0 : Option Value} (hn : narrow .boolean (.int (1 : Int32)) = .int (1 : Int32)) (hq : Q (some (.int (1 : Int32))) H) : zW G d M_St_isLatin1 13 [o0] [] H Q :=
  zw_iconst (1 : Int32) dSt_isLatin1_13 zki_1 <| zw_goto 18 dSt_isLatin1_14 (by decide) <| zw_iret dSt_isLatin1_18 .boolean rfl hn hq
theorem sSt_isLatin1_17 {G : zG} {d : Nat} {Q : Option Value → Heap → Prop} {H : Heap} {o0 : Option Value} (hn : narrow .boolean (.int (0 : Int32)) = .int (0 : Int32)) (hq : Q (some (.int (0 : Int32))) H) : zW G d M_St_isLatin1 17 [o0] [] H Q :=
  zw_iconst (0 : Int32) dSt_isLatin1_17 zki_0 <| zw_iret dSt_isLatin1_18 .boolean rfl hn hq
theorem sSt_isLatin1_18 {G : zG} {d : Nat} {Q : Option Value → Heap → Prop} {H : Heap} {o0 : Option Value} {xs0 : Int32} (hn : narrow .boolean (.int xs0) = .int xs0) (hq : Q (some (.int xs0)) H) : zW G d M_St_isLatin1 18 [o0] ((.int xs0) :: []) H Q :=
  zw_iret dSt_isLatin1_18 .boolean rfl hn hq
theorem sSt_indexOf_0_0 {G : zG} {d : Nat} {Q : Option Value → Heap → Prop} {H : Heap} {st : List Value} {a0 : Nat} {x1 : Int32} {P : Int32 → Heap → Prop} (hd : 1 ≤ d) (hl : st.length ≤ 4) (ho : zIs G H a0 8) (hc : zC G (d - 1) M_St_indexOf_1 [(.ref a0), (.int x1), (.int (0 : Int32))] H (zPi P)) (kk : ∀ (r : Int32) (H1 : Heap), P r H1 → zOk G H1 → H.size ≤ H1.size → zT H ≤ zT H1 → zW G d M_St_indexOf_0 6 [some (.ref a0), some (.int x1)] ((.int r) :: st) H1 Q) : zW G d M_St_indexOf_0 0 [some (.ref a0), some (.int x1)] st H Q :=
  zw_aload_n (i := 0) dSt_indexOf_0_0 rfl rfl zRf_ref <| zw_iload_n (i := 1) dSt_indexOf_0_1 rfl rfl <| zw_iconst (0 : Int32) dSt_indexOf_0_2 zki_0 <| zw_callV [(.int x1), (.int (0 : Int32))] _ dSt_indexOf_0_3 hd zk_St_633 ho rfl rfl hl hc (zPi_k kk)
theorem sSt_indexOf_0_6 {G : zG} {d : Nat} {Q : Option Value → Heap → Prop} {H : Heap} {o0 : Option Value} {o1 : Option Value} {xs0 : Int32} (hq : Q (some (.int xs0)) H) : zW G d M_St_indexOf_0 6 [o0, o1] ((.int xs0) :: []) H Q :=
  zw_iret dSt_indexOf_0_6 .int rfl rfl hq
theorem sSt_indexOf_1_0 {G : zG} {d : Nat} {Q : Option Value → Heap → Prop} {H : Heap} {st : List Value} {o1 : Option Value} {o2 : Option Value} {a0 : Nat} {P : Int32 → Heap → Prop} (hd : 1 ≤ d) (hl : st.length ≤ 4) (ho : zIs G H a0 8) (hc : zC G (d - 1) M_St_isLatin1 [(.ref a0)] H (zPi P)) (kk : ∀ (r : Int32) (H1 : Heap), P r H1 → zOk G H1 → H.size ≤ H1.size → zT H ≤ zT H1 → zW G d M_St_indexOf_1 4 [some (.ref a0), o1, o2] ((.int r) :: st) H1 Q) : zW G d M_St_indexOf_1 0 [some (.ref a0), o1, o2] st H Q :=
  zw_aload_n (i := 0) dSt_indexOf_1_0 rfl rfl zRf_ref <| zw_callV [] _ dSt_indexOf_1_1 hd zk_St_492 ho rfl rfl hl hc (zPi_k kk)
theorem sSt_indexOf_1_4 {G : zG} {d : Nat} {Q : Option Value → Heap → Prop} {H : Heap} {st : List Value} {o0 : Option Value} {o1 : Option Value} {o2 : Option Value} {xs0 : Int32} (kt : (xs0 = 0) → zW G d M_St_indexOf_1 23 [o0, o1, o2] st H Q) (kf : (¬ xs0 = 0) → zW G d M_St_indexOf_1 7 [o0, o1, o2] st H Q) : zW G d M_St_indexOf_1 4 [o0, o1, o2] ((.int xs0) :: st) H Q :=
  zw_if_eq 23 dSt_indexOf_1_4 (by decide) kt kf
theorem sSt_indexOf_1_7 {G : zG} {d : Nat} {Q : Option Value → Heap → Prop} {H : Heap} {st : List Value} {a0 : Nat} {vf1 : Value} {x1 : Int32} {x2 : Int32} {P : Int32 → Heap → Prop} (hrf1 : zRf vf1 := by first | exact zRf_ref | exact zRf_null | exact zRf_rf _ | assumption) (hf1 : zFd G H a0 8 0 vf1) (hd : 1 ≤ d) (hl : ((.int x2) :: (.int x1) :: vf1 :: st).length ≤ 4) (ho : zIs G H a0 8) (hc : zC G (d - 1) M_St_length [(.ref a0)] H (zPi P)) (kk : ∀ (r : Int32) (H1 : Heap), P r H1 → zOk G H1 → H.size ≤ H1.size → zT H ≤ zT H1 → zW G d M_St_indexOf_1 17 [some (.ref a0), some (.int x1), some (.int x2)] ((.int r) :: (.int x2) :: (.int x1) :: vf1 :: st) H1 Q) : zW G d M_St_indexOf_1 7 [some (.ref a0), some (.int x1), some (.int x2)] st H Q :=
  zw_aload_n (i := 0) dSt_indexOf_1_7 rfl rfl zRf_ref <| zw_getf dSt_indexOf_1_8 zf_St_9 hf1 <| zw_iload_n (i := 1) dSt_indexOf_1_11 rfl rfl <| zw_iload_n (i := 2) dSt_indexOf_1_12 rfl rfl <| zw_aload_n (i := 0) dSt_indexOf_1_13 rfl rfl zRf_ref <| zw_callV [] _ dSt_indexOf_1_14 hd zk_St_505 ho rfl rfl hl hc (zPi_k kk)
theorem sSt_indexOf_1_17 {G : zG} {d : Nat} {Q : Option Value → Heap → Prop} {H : Heap} {st : List Value} {o0 : Option Value} {o1 : Option Value} {o2 : Option Value} {xs0 : Int32} {xs1 : Int32} {xs2 : Int32} {vs3 : Value} {P : Int32 → Heap → Prop} (hrs3 : zRf vs3 := by first | exact zRf_ref | exact zRf_null | exact zRf_rf _ | assumption) (hd : 1 ≤ d) (hl : st.length ≤ 4) (hc : zC G (d - 1) M_L1_indexOf [vs3, (.int xs2), (.int xs1), (.int xs0)] H (zPi P)) (kk : ∀ (r : Int32) (H1 : Heap), P r H1 → zOk G H1 → H.size ≤ H1.size → zT H ≤ zT H1 → zW G d M_St_indexOf_1 20 [o0, o1, o2] ((.int r) :: st) H1 Q) : zW G d M_St_indexOf_1 17 [o0, o1, o2] ((.int xs0) :: (.int xs1) :: (.int xs2) :: vs3 :: st) H Q :=
  zw_callS [vs3, (.int xs2), (.int xs1), (.int xs0)] _ dSt_indexOf_1_17 hd zk_St_637 rfl rfl hl hc (zPi_k kk)
theorem sSt_indexOf_1_20 {G : zG} {d : Nat} {Q : Option Value → Heap → Prop} {H : Heap} {o0 : Option Value} {o1 : Option Value} {o2 : Option Value} {xs0 : Int32} (hq : Q (some (.int xs0)) H) : zW G d M_St_indexOf_1 20 [o0, o1, o2] ((.int xs0) :: []) H Q :=
  zw_goto 36 dSt_indexOf_1_20 (by decide) <| zw_iret dSt_indexOf_1_36 .int rfl rfl hq
theorem sSt_indexOf_1_23 {G : zG} {d : Nat} {Q : Option Value → Heap → Prop} {H : Heap} {st : List Value} {a0 : Nat} {vf1 : Value} {x1 : Int32} {x2 : Int32} {P : Int32 → Heap → Prop} (hrf1 : zRf vf1 := by first | exact zRf_ref | exact zRf_null | exact zRf_rf _ | assumption) (hf1 : zFd G H a0 8 0 vf1) (hd : 1 ≤ d) (hl : ((.int x2) :: (.int x1) :: vf1 :: st).length ≤ 4) (ho : zIs G H a0 8) (hc : zC G (d - 1) M_St_length [(.ref a0)] H (zPi P)) (kk : ∀ (r : Int32) (H1 : Heap), P r H1 → zOk G H1 → H.size ≤ H1.size → zT H ≤ zT H1 → zW G d M_St_indexOf_1 33 [some (.ref a0), some (.int x1), some (.int x2)] ((.int r) :: (.int x2) :: (.int x1) :: vf1 :: st) H1 Q) : zW G d M_St_indexOf_1 23 [some (.ref a0), some (.int x1), some (.int x2)] st H Q :=
  zw_aload_n (i := 0) dSt_indexOf_1_23 rfl rfl zRf_ref <| zw_getf dSt_indexOf_1_24 zf_St_9 hf1 <| zw_iload_n (i := 1) dSt_indexOf_1_27 rfl rfl <| zw_iload_n (i := 2) dSt_indexOf_1_28 rfl rfl <| zw_aload_n (i := 0) dSt_indexOf_1_29 rfl rfl zRf_ref <| zw_callV [] _ dSt_indexOf_1_30 hd zk_St_505 ho rfl rfl hl hc (zPi_k kk)
theorem sSt_indexOf_1_33 {G : zG} {d : Nat} {Q : Option Value → Heap → Prop} {H : Heap} {st : List Value} {o0 : Option Value} {o1 : Option Value} {o2 : Option Value} {xs0 : Int32} {xs1 : Int32} {xs2 : Int32} {vs3 : Value} {P : Int32 → Heap → Prop} (hrs3 : zRf vs3 := by first | exact zRf_ref | exact zRf_null | exact zRf_rf _ | assumption) (hd : 1 ≤ d) (hl : st.length ≤ 4) (hc : zC G (d - 1) M_U16_indexOf [vs3, (.int xs2), (.int xs1), (.int xs0)] H (zPi P)) (kk : ∀ (r : Int32) (H1 : Heap), P r H1 → zOk G H1 → H.size ≤ H1.size → zT H ≤ zT H1 → zW G d M_St_indexOf_1 36 [o0, o1, o2] ((.int r) :: st) H1 Q) : zW G d M_St_indexOf_1 33 [o0, o1, o2] ((.int xs0) :: (.int xs1) :: (.int xs2) :: vs3 :: st) H Q :=
  zw_callS [vs3, (.int xs2), (.int xs1), (.int xs0)] _ dSt_indexOf_1_33 hd zk_St_640 rfl rfl hl hc (zPi_k kk)
theorem sSt_indexOf_1_36 {G : zG} {d : Nat} {Q : Option Value → Heap → Prop} {H : Heap} {o0 : Option Value} {o1 : Option Value} {o2 : Option Value} {xs0 : Int32} (hq : Q (some (.int xs0)) H) : zW G d M_St_indexOf_1 36 [o0, o1, o2] ((.int xs0) :: []) H Q :=
  zw_iret dSt_indexOf_1_36 .int rfl rfl hq
theorem sSt_checkBoundsBeginEnd_0 {G : zG} {d : Nat} {Q : Option Value → Heap → Prop} {H : Heap} {st : List Value} {x0 : Int32} {x1 : Int32} {x2 : Int32} {vf1 : Value} {P : Int32 → Heap → Prop} (hrf1 : zRf vf1 := by first | exact zRf_ref | exact zRf_null | exact zRf_rf _ | assumption) (hz1 : va_Z "jdk/internal/util/Preconditions" "SIOOBE_FORMATTER" "Ljava/util/function/BiFunction;" vf1 (zFr G) (zS G) (zS G).heap) (hd : 1 ≤ d) (hl : st.length ≤ 4) (hc : zC G (d - 1) M_Pc_checkFromToIndex [(.int x0), (.int x1), (.int x2), vf1] H (zPi P)) (kk : ∀ (r : Int32) (H1 : Heap), P r H1 → zOk G H1 → H.size ≤ H1.size → zT H ≤ zT H1 → zW G d M_St_checkBoundsBeginEnd 9 [some (.int x0), some (.int x1), some (.int x2)] ((.int r) :: st) H1 Q) : zW G d M_St_checkBoundsBeginEnd 0 [some (.int x0), some (.int x1), some (.int x2)] st H Q :=
  zw_iload_n (i := 0) dSt_checkBoundsBeginEnd_0 rfl rfl <| zw_iload_n (i := 1) dSt_checkBoundsBeginEnd_1 rfl rfl <| zw_iload_n (i := 2) dSt_checkBoundsBeginEnd_2 rfl rfl <| zw_gets dSt_checkBoundsBeginEnd_3 hz1 (zt2 108 rfl) (Or.inl rfl) <| zw_callS [(.int x0), (.int x1), (.int x2), vf1] _ dSt_checkBoundsBeginEnd_6 hd zk_St_1062 rfl rfl hl hc (zPi_k kk)
theorem sSt_checkBoundsBeginEnd_9 {G : zG} {d : Nat} {Q : Option Value → Heap → Prop} {H : Heap} {o0 : Option Value} {o1 : Option Value} {o2 : Option Value} {ws0 : Value} (hcs0 : ws0.category = 1 := by first | rfl | exact zRf.cat (by assumption)) (hq : Q none H) : zW G d M_St_checkBoundsBeginEnd 9 [o0, o1, o2] (ws0 :: []) H Q :=
  zw_pop dSt_checkBoundsBeginEnd_9 hcs0 <| zw_vret dSt_checkBoundsBeginEnd_10 rfl hq
theorem sSt_substring_0_0 {G : zG} {d : Nat} {Q : Option Value → Heap → Prop} {H : Heap} {st : List Value} {o1 : Option Value} {o2 : Option Value} {o3 : Option Value} {o4 : Option Value} {a0 : Nat} {P : Int32 → Heap → Prop} (hd : 1 ≤ d) (hl : st.length ≤ 4) (ho : zIs G H a0 8) (hc : zC G (d - 1) M_St_length [(.ref a0)] H (zPi P)) (kk : ∀ (r : Int32) (H1 : Heap), P r H1 → zOk G H1 → H.size ≤ H1.size → zT H ≤ zT H1 → zW G d M_St_substring_0 4 [some (.ref a0), o1, o2, o3, o4] ((.int r) :: st) H1 Q) : zW G d M_St_substring_0 0 [some (.ref a0), o1, o2, o3, o4] st H Q :=
  zw_aload_n (i := 0) dSt_substring_0_0 rfl rfl zRf_ref <| zw_callV [] _ dSt_substring_0_1 hd zk_St_505 ho rfl rfl hl hc (zPi_k kk)
theorem sSt_substring_0_4 {G : zG} {d : Nat} {Q : Option Value → Heap → Prop} {H : Heap} {st : List Value} {o0 : Option Value} {o3 : Option Value} {o4 : Option Value} {xs0 : Int32} {x1 : Int32} {x2 : Int32} {P : Heap → Prop} (hd : 1 ≤ d) (hl : st.length ≤ 4) (hc : zC G (d - 1) M_St_checkBoundsBeginEnd [(.int x1), (.int x2), (.int xs0)] H (zPv P)) (kk : ∀ H1 : Heap, P H1 → zOk G H1 → H.size ≤ H1.size → zT H ≤ zT H1 → zW G d M_St_substring_0 11 [o0, some (.int x1), some (.int x2), some (.int xs0), o4] st H1 Q) : zW G d M_St_substring_0 4 [o0, some (.int x1), some (.int x2), o3, o4] ((.int xs0) :: st) H Q :=
  zw_istore_n (i := 3) dSt_substring_0_4 rfl (Nat.le_of_ble_eq_true rfl) <| zw_iload_n (i := 1) dSt_substring_0_5 rfl rfl <| zw_iload_n (i := 2) dSt_substring_0_6 rfl rfl <| zw_iload_n (i := 3) dSt_substring_0_7 rfl rfl <| zw_callS [(.int x1), (.int x2), (.int xs0)] _ dSt_substring_0_8 hd zk_St_521 rfl rfl hl hc (zPv_k kk)
theorem sSt_substring_0_11 {G : zG} {d : Nat} {Q : Option Value → Heap → Prop} {H : Heap} {st : List Value} {o0 : Option Value} {o2 : Option Value} {o3 : Option Value} {o4 : Option Value} {x1 : Int32} (kt : (¬ x1 = 0) → zW G d M_St_substring_0 22 [o0, some (.int x1), o2, o3, o4] st H Q) (kf : (x1 = 0) → zW G d M_St_substring_0 15 [o0, some (.int x1), o2, o3, o4] st H Q) : zW G d M_St_substring_0 11 [o0, some (.int x1), o2, o3, o4] st H Q :=
  zw_iload_n (i := 1) dSt_substring_0_11 rfl rfl <| zw_if_ne 22 dSt_substring_0_12 (by decide) kt kf
theorem sSt_substring_0_15 {G : zG} {d : Nat} {Q : Option Value → Heap → Prop} {H : Heap} {st : List Value} {o0 : Option Value} {o1 : Option Value} {o4 : Option Value} {x2 : Int32} {x3 : Int32} (kt : (¬ x2 = x3) → zW G d M_St_substring_0 22 [o0, o1, some (.int x2), some (.int x3), o4] st H Q) (kf : (x2 = x3) → zW G d M_St_substring_0 20 [o0, o1, some (.int x2), some (.int x3), o4] st H Q) : zW G d M_St_substring_0 15 [o0, o1, some (.int x2), some (.int x3), o4] st H Q :=
  zw_iload_n (i := 2) dSt_substring_0_15 rfl rfl <| zw_iload_n (i := 3) dSt_substring_0_16 rfl rfl <| zw_icmp_ne 22 dSt_substring_0_17 (by decide) kt kf
theorem sSt_substring_0_20 {G : zG} {d : Nat} {Q : Option Value → Heap → Prop} {H : Heap} {o1 : Option Value} {o2 : Option Value} {o3 : Option Value} {o4 : Option Value} {v0 : Value} (hr0 : zRf v0 := by first | exact zRf_ref | exact zRf_null | exact zRf_rf _ | assumption) (hq : Q (some v0) H) : zW G d M_St_substring_0 20 [some v0, o1, o2, o3, o4] [] H Q :=
  zw_aload_n (i := 0) dSt_substring_0_20 rfl rfl hr0 <| zw_aret dSt_substring_0_21 (.object "java/lang/String") rfl (Or.inl ⟨_, rfl⟩) hr0 hq
theorem sSt_substring_0_22 {G : zG} {d : Nat} {Q : Option Value → Heap → Prop} {H : Heap} {st : List Value} {o3 : Option Value} {o4 : Option Value} {x2 : Int32} {x1 : Int32} {a0 : Nat} {P : Int32 → Heap → Prop} (hd : 1 ≤ d) (hl : st.length ≤ 4) (ho : zIs G H a0 8) (hc : zC G (d - 1) M_St_isLatin1 [(.ref a0)] H (zPi P)) (kk : ∀ (r : Int32) (H1 : Heap), P r H1 → zOk G H1 → H.size ≤ H1.size → zT H ≤ zT H1 → zW G d M_St_substring_0 31 [some (.ref a0), some (.int x1), some (.int x2), o3, some (.int (x2 - x1))] ((.int r) :: st) H1 Q) : zW G d M_St_substring_0 22 [some (.ref a0), some (.int x1), some (.int x2), o3, o4] st H Q :=
  zw_iload_n (i := 2) dSt_substring_0_22 rfl rfl <| zw_iload_n (i := 1) dSt_substring_0_23 rfl rfl <| zw_isub dSt_substring_0_24 <| zw_istore (i := 4) dSt_substring_0_25 (Nat.le_of_ble_eq_true rfl) <| zw_aload_n (i := 0) dSt_substring_0_27 rfl rfl zRf_ref <| zw_callV [] _ dSt_substring_0_28 hd zk_St_492 ho rfl rfl hl hc (zPi_k kk)
theorem sSt_substring_0_31 {G : zG} {d : Nat} {Q : Option Value → Heap → Prop} {H : Heap} {st : List Value} {o0 : Option Value} {o1 : Option Value} {o2 : Option Value} {o3 : Option Value} {o4 : Option Value} {xs0 : Int32} (kt : (xs0 = 0) → zW G d M_St_substring_0 47 [o0, o1, o2, o3, o4] st H Q) (kf : (¬ xs0 = 0) → zW G d M_St_substring_0 34 [o0, o1, o2, o3, o4] st H Q) : zW G d M_St_substring_0 31 [o0, o1, o2, o3, o4] ((.int xs0) :: st) H Q :=
  zw_if_eq 47 dSt_substring_0_31 (by decide) kt kf
theorem sSt_substring_0_34 {G : zG} {d : Nat} {Q : Option Value → Heap → Prop} {H : Heap} {st : List Value} {o2 : Option Value} {o3 : Option Value} {a0 : Nat} {vf1 : Value} {x1 : Int32} {x4 : Int32} {P : Value → Heap → Prop} (hrf1 : zRf vf1 := by first | exact zRf_ref | exact zRf_null | exact zRf_rf _ | assumption) (hf1 : zFd G H a0 8 0 vf1) (hd : 1 ≤ d) (hl : st.length ≤ 4) (hc : zC G (d - 1) M_L1_newString [vf1, (.int x1), (.int x4)] H (zPr P)) (kk : ∀ (r : Value) (H1 : Heap), zRf r → P r H1 → zOk G H1 → H.size ≤ H1.size → zT H ≤ zT H1 → zW G d M_St_substring_0 44 [some (.ref a0), some (.int x1), o2, o3, some (.int x4)] (r :: st) H1 Q) : zW G d M_St_substring_0 34 [some (.ref a0), some (.int x1), o2, o3, some (.int x4)] st H Q :=
  zw_aload_n (i := 0) dSt_substring_0_34 rfl rfl zRf_ref <| zw_getf dSt_substring_0_35 zf_St_9 hf1 <| zw_iload_n (i := 1) dSt_substring_0_38 rfl rfl <| zw_iload (i := 4) dSt_substring_0_39 rfl <| zw_callS [vf1, (.int x1), (.int x4)] _ dSt_substring_0_41 hd zk_St_685 rfl rfl hl hc (zPr_k kk)
theorem sSt_substring_0_44 {G : zG} {d : Nat} {Q : Option Value → Heap → Prop} {H : Heap} {o0 : Option Value} {o1 : Option Value} {o2 : Option Value} {o3 : Option Value} {o4 : Option Value} {vs0 : Value} (hrs0 : zRf vs0 := by first | exact zRf_ref | exact zRf_null | exact zRf_rf _ | assumption) (hq : Q (some vs0) H) : zW G d M_St_substring_0 44 [o0, o1, o2, o3, o4] (vs0 :: []) H Q :=
  zw_goto 57 dSt_substring_0_44 (by decide) <| zw_aret dSt_substring_0_57 (.object "java/lang/String") rfl (Or.inl ⟨_, rfl⟩) hrs0 hq
theorem sSt_substring_0_47 {G : zG} {d : Nat} {Q : Option Value → Heap → Prop} {H : Heap} {st : List Value} {o2 : Option Value} {o3 : Option Value} {a0 : Nat} {vf1 : Value} {x1 : Int32} {x4 : Int32} {P : Value → Heap → Prop} (hrf1 : zRf vf1 := by first | exact zRf_ref | exact zRf_null | exact zRf_rf _ | assumption) (hf1 : zFd G H a0 8 0 vf1) (hd : 1 ≤ d) (hl : st.length ≤ 4) (hc : zC G (d - 1) M_U16_newString [vf1, (.int x1), (.int x4)] H (zPr P)) (kk : ∀ (r : Value) (H1 : Heap), zRf r → P r H1 → zOk G H1 → H.size ≤ H1.size → zT H ≤ zT H1 → zW G d M_St_substring_0 57 [some (.ref a0), some (.int x1), o2, o3, some (.int x4)] (r :: st) H1 Q) : zW G d M_St_substring_0 47 [some (.ref a0), some (.int x1), o2, o3, some (.int x4)] st H Q :=
  zw_aload_n (i := 0) dSt_substring_0_47 rfl rfl zRf_ref <| zw_getf dSt_substring_0_48 zf_St_9 hf1 <| zw_iload_n (i := 1) dSt_substring_0_51 rfl rfl <| zw_iload (i := 4) dSt_substring_0_52 rfl <| zw_callS [vf1, (.int x1), (.int x4)] _ dSt_substring_0_54 hd zk_St_689 rfl rfl hl hc (zPr_k kk)
theorem sSt_substring_0_57 {G : zG} {d : Nat} {Q : Option Value → Heap → Prop} {H : Heap} {o0 : Option Value} {o1 : Option Value} {o2 : Option Value} {o3 : Option Value} {o4 : Option Value} {vs0 : Value} (hrs0 : zRf vs0 := by first | exact zRf_ref | exact zRf_null | exact zRf_rf _ | assumption) (hq : Q (some vs0) H) : zW G d M_St_substring_0 57 [o0, o1, o2, o3, o4] (vs0 :: []) H Q :=
  zw_aret dSt_substring_0_57 (.object "java/lang/String") rfl (Or.inl ⟨_, rfl⟩) hrs0 hq
theorem sSt_init_2_0 {G : zG} {d : Nat} {Q : Option Value → Heap → Prop} {H : Heap} {st : List Value} {o1 : Option Value} {o2 : Option Value} {a0 : Nat} (hd : 1 ≤ d) (hl : st.length ≤ 4) (kk : zW G d M_St_init_2 4 [some (.ref a0), o1, o2] st H Q) : zW G d M_St_init_2 0 [some (.ref a0), o1, o2] st H Q :=
  zw_aload_n (i := 0) dSt_init_2_0 rfl rfl zRf_ref <| zw_objInit dSt_init_2_1 hd (zt2 194 rfl) zo_inst zo_code hl kk
theorem sSt_init_2_4 {G : zG} {d : Nat} {Q : Option Value → Heap → Prop} {H : Heap} {st : List Value} {o2 : Option Value} {a0 : Nat} {v1 : Value} {b0 : Value} {b1 : Value} {b2 : Value} {b3 : Value} (hr1 : zRf v1 := by first | exact zRf_ref | exact zRf_null | exact zRf_rf _ | assumption) (ho : zObj G H a0 8 [b0, b1, b2, b3]) (hw : zFr G a0) (kk : ∀ H1 : Heap, zObj G H1 a0 8 [v1, b1, b2, b3] → zUp a0 H H1 → zW G d M_St_init_2 9 [some (.ref a0), some v1, o2] st H1 Q) : zW G d M_St_init_2 4 [some (.ref a0), some v1, o2] st H Q :=
  zw_aload_n (i := 0) dSt_init_2_4 rfl rfl zRf_ref <| zw_aload_n (i := 1) dSt_init_2_5 rfl rfl hr1 <| zw_putf (k := 0) dSt_init_2_6 zp_St_init_2_9 ho (Nat.le_of_ble_eq_true rfl) (Nat.le_of_ble_eq_true rfl) hw (zNarA hr1) (zFitA hr1) kk
theorem sSt_init_2_9 {G : zG} {d : Nat} {Q : Option Value → Heap → Prop} {H : Heap} {st : List Value} {o1 : Option Value} {a0 : Nat} {x2 : Int32} {b0 : Value} {b1 : Value} {b2 : Value} {b3 : Value} (ho : zObj G H a0 8 [b0, b1, b2, b3]) (hw : zFr G a0) (hn : narrow .byte (.int x2) = (.int x2)) (hfit : fits .byte (.int x2) = true) (kk : ∀ H1 : Heap, zObj G H1 a0 8 [b0, (.int x2), b2, b3] → zUp a0 H H1 → zW G d M_St_init_2 14 [some (.ref a0), o1, some (.int x2)] st H1 Q) : zW G d M_St_init_2 9 [some (.ref a0), o1, some (.int x2)] st H Q :=
  zw_aload_n (i := 0) dSt_init_2_9 rfl rfl zRf_ref <| zw_iload_n (i := 2) dSt_init_2_10 rfl rfl <| zw_putf (k := 1) dSt_init_2_11 zp_St_init_2_15 ho (Nat.le_of_ble_eq_true rfl) (Nat.le_of_ble_eq_true rfl) hw hn hfit kk
theorem sSt_init_2_14 {G : zG} {d : Nat} {Q : Option Value → Heap → Prop} {H : Heap} {o0 : Option Value} {o1 : Option Value} {o2 : Option Value} (hq : Q none H) : zW G d M_St_init_2 14 [o0, o1, o2] [] H Q :=
  zw_vret dSt_init_2_14 rfl hq
theorem sSt_substring_1_0 {G : zG} {d : Nat} {Q : Option Value → Heap → Prop} {H : Heap} {st : List Value} {a0 : Nat} {x1 : Int32} {P : Int32 → Heap → Prop} (hd : 1 ≤ d) (hl : ((.int x1) :: (.ref a0) :: st).length ≤ 4) (ho : zIs G H a0 8) (hc : zC G (d - 1) M_St_length [(.ref a0)] H (zPi P)) (kk : ∀ (r : Int32) (H1 : Heap), P r H1 → zOk G H1 → H.size ≤ H1.size → zT H ≤ zT H1 → zW G d M_St_substring_1 6 [some (.ref a0), some (.int x1)] ((.int r) :: (.int x1) :: (.ref a0) :: st) H1 Q) : zW G d M_St_substring_1 0 [some (.ref a0), some (.int x1)] st H Q :=
  zw_aload_n (i := 0) dSt_substring_1_0 rfl rfl zRf_ref <| zw_iload_n (i := 1) dSt_substring_1_1 rfl rfl <| zw_aload_n (i := 0) dSt_substring_1_2 rfl rfl zRf_ref <| zw_callV [] _ dSt_substring_1_3 hd zk_St_505 ho rfl rfl hl hc (zPi_k kk)
theorem sSt_substring_1_6 {G : zG} {d : Nat} {Q : Option Value → Heap → Prop} {H : Heap} {st : List Value} {o0 : Option Value} {o1 : Option Value} {xs0 : Int32} {xs1 : Int32} {as2 : Nat} {P : Value → Heap → Prop} (hd : 1 ≤ d) (hl : st.length ≤ 4) (ho : zIs G H as2 8) (hc : zC G (d - 1) M_St_substring_0 [(.ref as2), (.int xs1), (.int xs0)] H (zPr P)) (kk : ∀ (r : Value) (H1 : Heap), zRf r → P r H1 → zOk G H1 → H.size ≤ H1.size → zT H ≤ zT H1 → zW G d M_St_substring_1 9 [o0, o1] (r :: st) H1 Q) : zW G d M_St_substring_1 6 [o0, o1] ((.int xs0) :: (.int xs1) :: (.ref as2) :: st) H Q :=
  zw_callV [(.int xs1), (.int xs0)] _ dSt_substring_1_6 hd zk_St_681 ho rfl rfl hl hc (zPr_k kk)
theorem sSt_substring_1_9 {G : zG} {d : Nat} {Q : Option Value → Heap → Prop} {H : Heap} {o0 : Option Value} {o1 : Option Value} {vs0 : Value} (hrs0 : zRf vs0 := by first | exact zRf_ref | exact zRf_null | exact zRf_rf _ | assumption) (hq : Q (some vs0) H) : zW G d M_St_substring_1 9 [o0, o1] (vs0 :: []) H Q :=
  zw_aret dSt_substring_1_9 (.object "java/lang/String") rfl (Or.inl ⟨_, rfl⟩) hrs0 hq
theorem sSt_isEmpty_0 {G : zG} {d : Nat} {Q : Option Value → Heap → Prop} {H : Heap} {st : List Value} {a0 : Nat} {af1 : Nat} {n2 : Nat} {t2 : FieldType} {g2 : Nat → Value} (hf1 : zFd G H a0 8 0 (.ref af1)) (ha2 : zArr G H af1 t2 n2 g2) (kt : (¬ (nI n2) = 0) → zW G d M_St_isEmpty 12 [some (.ref a0)] st H Q) (kf : ((nI n2) = 0) → zW G d M_St_isEmpty 8 [some (.ref a0)] st H Q) : zW G d M_St_isEmpty 0 [some (.ref a0)] st H Q :=
  zw_aload_n (i := 0) dSt_isEmpty_0 rfl rfl zRf_ref <| zw_getf dSt_isEmpty_1 zf_St_9 hf1 <| zw_alen dSt_isEmpty_4 ha2 <| zw_if_ne 12 dSt_isEmpty_5 (by decide) kt kf
theorem sSt_isEmpty_8 {G : zG} {d : Nat} {Q : Option Value → Heap → Prop} {H : Heap} {o0 : Option Value} (hn : narrow .boolean (.int (1 : Int32)) = .int (1 : Int32)) (hq : Q (some (.int (1 : Int32))) H) : zW G d M_St_isEmpty 8 [o0] [] H Q :=
  zw_iconst (1 : Int32) dSt_isEmpty_8 zki_1 <| zw_goto 13 dSt_isEmpty_9 (by decide) <| zw_iret dSt_isEmpty_13 .boolean rfl hn hq
theorem sSt_isEmpty_12 {G : zG} {d : Nat} {Q : Option Value → Heap → Prop} {H : Heap} {o0 : Option Value} (hn : narrow .boolean (.int (0 : Int32)) = .int (0 : Int32)) (hq : Q (some (.int (0 : Int32))) H) : zW G d M_St_isEmpty 12 [o0] [] H Q :=
  zw_iconst (0 : Int32) dSt_isEmpty_12 zki_0 <| zw_iret dSt_isEmpty_13 .boolean rfl hn hq
theorem sSt_isEmpty_13 {G : zG} {d : Nat} {Q : Option Value → Heap → Prop} {H : Heap} {o0 : Option Value} {xs0 : Int32} (hn : narrow .boolean (.int xs0) = .int xs0) (hq : Q (some (.int xs0)) H) : zW G d M_St_isEmpty 13 [o0] ((.int xs0) :: []) H Q :=
  zw_iret dSt_isEmpty_13 .boolean rfl hn hq
theorem sSt_equals_0 {G : zG} {d : Nat} {Q : Option Value → Heap → Prop} {H : Heap} {st : List Value} {o2 : Option Value} {v0 : Value} {v1 : Value} (hr0 : zRf v0 := by first | exact zRf_ref | exact zRf_null | exact zRf_rf _ | assumption) (hr1 : zRf v1 := by first | exact zRf_ref | exact zRf_null | exact zRf_rf _ | assumption) (kk : zW G d M_St_equals 2 [some v0, some v1, o2] (v1 :: v0 :: st) H Q) : zW G d M_St_equals 0 [some v0, some v1, o2] st H Q :=
  zw_aload_n (i := 0) dSt_equals_0 rfl rfl hr0 <| zw_aload_n (i := 1) dSt_equals_1 rfl rfl hr1 <| kk
theorem sSt_equals_5 {G : zG} {d : Nat} {Q : Option Value → Heap → Prop} {H : Heap} {o0 : Option Value} {o1 : Option Value} {o2 : Option Value} (hn : narrow .boolean (.int (1 : Int32)) = .int (1 : Int32)) (hq : Q (some (.int (1 : Int32))) H) : zW G d M_St_equals 5 [o0, o1, o2] [] H Q :=
  zw_iconst (1 : Int32) dSt_equals_5 zki_1 <| zw_iret dSt_equals_6 .boolean rfl hn hq
theorem sSt_equals_7 {G : zG} {d : Nat} {Q : Option Value → Heap → Prop} {H : Heap} {st : List Value} {o0 : Option Value} {o2 : Option Value} {a1 : Nat} (hq1 : zIs G H a1 8) (kt : ((1 : Int32) = 0) → zW G d M_St_equals 54 [o0, some (.ref a1), o2] st H Q) (kf : (¬ (1 : Int32) = 0) → zW G d M_St_equals 14 [o0, some (.ref a1), o2] st H Q) : zW G d M_St_equals 7 [o0, some (.ref a1), o2] st H Q :=
  zw_aload_n (i := 1) dSt_equals_7 rfl rfl zRf_ref <| zw_inst (ci := 8) dSt_equals_8 rfl (zt3 163 rfl) hq1 <| zw_if_eq 54 dSt_equals_11 (by decide) kt kf
theorem sSt_equals_14 {G : zG} {d : Nat} {Q : Option Value → Heap → Prop} {H : Heap} {st : List Value} {o0 : Option Value} {o2 : Option Value} {a1 : Nat} (hq1 : zIs G H a1 8) (hz2 : va_Z "java/lang/String" "COMPACT_STRINGS" "Z" (.int 1) (zFr G) (zS G) (zS G).heap) (kt : ((1 : Int32) = 0) → zW G d M_St_equals 36 [o0, some (.ref a1), some (.ref a1)] st H Q) (kf : (¬ (1 : Int32) = 0) → zW G d M_St_equals 25 [o0, some (.ref a1), some (.ref a1)] st H Q) : zW G d M_St_equals 14 [o0, some (.ref a1), o2] st H Q :=
  zw_aload_n (i := 1) dSt_equals_14 rfl rfl zRf_ref <| zw_cast (ci := 8) dSt_equals_15 rfl (zt3 163 rfl) hq1 <| zw_astore_n (i := 2) dSt_equals_18 rfl (Nat.le_of_ble_eq_true rfl) zRf_ref <| zw_gets dSt_equals_19 hz2 (zt2 211 rfl) (Or.inl rfl) <| zw_if_eq 36 dSt_equals_22 (by decide) kt kf
theorem sSt_equals_25 {G : zG} {d : Nat} {Q : Option Value → Heap → Prop} {H : Heap} {st : List Value} {o1 : Option Value} {a0 : Nat} {xf1 : Int32} {a2 : Nat} {xf2 : Int32} (hf1 : zFd G H a0 8 1 (.int xf1)) (hf2 : zFd G H a2 8 1 (.int xf2)) (kt : (¬ xf1 = xf2) → zW G d M_St_equals 54 [some (.ref a0), o1, some (.ref a2)] st H Q) (kf : (xf1 = xf2) → zW G d M_St_equals 36 [some (.ref a0), o1, some (.ref a2)] st H Q) : zW G d M_St_equals 25 [some (.ref a0), o1, some (.ref a2)] st H Q :=
  zw_aload_n (i := 0) dSt_equals_25 rfl rfl zRf_ref <| zw_getf dSt_equals_26 zf_St_15 hf1 <| zw_aload_n (i := 2) dSt_equals_29 rfl rfl zRf_ref <| zw_getf dSt_equals_30 zf_St_15 hf2 <| zw_icmp_ne 54 dSt_equals_33 (by decide) kt kf
theorem sSt_equals_36 {G : zG} {d : Nat} {Q : Option Value → Heap → Prop} {H : Heap} {st : List Value} {o1 : Option Value} {a0 : Nat} {vf1 : Value} {a2 : Nat} {vf2 : Value} {P : Int32 → Heap → Prop} (hrf1 : zRf vf1 := by first | exact zRf_ref | exact zRf_null | exact zRf_rf _ | assumption) (hrf2 : zRf vf2 := by first | exact zRf_ref | exact zRf_null | exact zRf_rf _ | assumption) (hf1 : zFd G H a0 8 0 vf1) (hf2 : zFd G H a2 8 0 vf2) (hd : 1 ≤ d) (hl : st.length ≤ 4) (hc : zC G (d - 1) M_L1_equals [vf1, vf2] H (zPi P)) (kk : ∀ (r : Int32) (H1 : Heap), P r H1 → zOk G H1 → H.size ≤ H1.size → zT H ≤ zT H1 → zW G d M_St_equals 47 [some (.ref a0), o1, some (.ref a2)] ((.int r) :: st) H1 Q) : zW G d M_St_equals 36 [some (.ref a0), o1, some (.ref a2)] st H Q :=
  zw_aload_n (i := 0) dSt_equals_36 rfl rfl zRf_ref <| zw_getf dSt_equals_37 zf_St_9 hf1 <| zw_aload_n (i := 2) dSt_equals_40 rfl rfl zRf_ref <| zw_getf dSt_equals_41 zf_St_9 hf2 <| zw_callS [vf1, vf2] _ dSt_equals_44 hd zk_St_541 rfl rfl hl hc (zPi_k kk)
theorem sSt_equals_47 {G : zG} {d : Nat} {Q : Option Value → Heap → Prop} {H : Heap} {st : List Value} {o0 : Option Value} {o1 : Option Value} {o2 : Option Value} {xs0 : Int32} (kt : (xs0 = 0) → zW G d M_St_equals 54 [o0, o1, o2] st H Q) (kf : (¬ xs0 = 0) → zW G d M_St_equals 50 [o0, o1, o2] st H Q) : zW G d M_St_equals 47 [o0, o1, o2] ((.int xs0) :: st) H Q :=
  zw_if_eq 54 dSt_equals_47 (by decide) kt kf
theorem sSt_equals_50 {G : zG} {d : Nat} {Q : Option Value → Heap → Prop} {H : Heap} {o0 : Option Value} {o1 : Option Value} {o2 : Option Value} (hn : narrow .boolean (.int (1 : Int32)) = .int (1 : Int32)) (hq : Q (some (.int (1 : Int32))) H) : zW G d M_St_equals 50 [o0, o1, o2] [] H Q :=
  zw_iconst (1 : Int32) dSt_equals_50 zki_1 <| zw_goto 55 dSt_equals_51 (by decide) <| zw_iret dSt_equals_55 .boolean rfl hn hq
theorem sSt_equals_54 {G : zG} {d : Nat} {Q : Option Value → Heap → Prop} {H : Heap} {o0 : Option Value} {o1 : Option Value} {o2 : Option Value} (hn : narrow .boolean (.int (0 : Int32)) = .int (0 : Int32)) (hq : Q (some (.int (0 : Int32))) H) : zW G d M_St_equals 54 [o0, o1, o2] [] H Q :=
  zw_iconst (0 : Int32) dSt_equals_54 zki_0 <| zw_iret dSt_equals_55 .boolean rfl hn hq
theorem sSt_equals_55 {G : zG} {d : Nat} {Q : Option Value → Heap → Prop} {H : Heap} {o0 : Option Value} {o1 : Option Value} {o2 : Option Value} {xs0 : Int32} (hn : narrow .boolean (.int xs0) = .int xs0) (hq : Q (some (.int xs0)) H) : zW G d M_St_equals 55 [o0, o1, o2] ((.int xs0) :: []) H Q :=
  zw_iret dSt_equals_55 .boolean rfl hn hq
theorem sSt_getBytes_0 {G : zG} {d : Nat} {Q : Option Value → Heap → Prop} {H : Heap} {st : List Value} {o1 : Option Value} {o2 : Option Value} {o3 : Option Value} {a0 : Nat} {P : Int32 → Heap → Prop} (hd : 1 ≤ d) (hl : st.length ≤ 4) (ho : zIs G H a0 8) (hc : zC G (d - 1) M_St_coder [(.ref a0)] H (zPi P)) (kk : ∀ (r : Int32) (H1 : Heap), P r H1 → zOk G H1 → H.size ≤ H1.size → zT H ≤ zT H1 → zW G d M_St_getBytes 4 [some (.ref a0), o1, o2, o3] ((.int r) :: st) H1 Q) : zW G d M_St_getBytes 0 [some (.ref a0), o1, o2, o3] st H Q :=
  zw_aload_n (i := 0) dSt_getBytes_0 rfl rfl zRf_ref <| zw_callV [] _ dSt_getBytes_1 hd zk_St_335 ho rfl rfl hl hc (zPi_k kk)
theorem sSt_getBytes_4 {G : zG} {d : Nat} {Q : Option Value → Heap → Prop} {H : Heap} {st : List Value} {o0 : Option Value} {o1 : Option Value} {o2 : Option Value} {x3 : Int32} {xs0 : Int32} (kt : (¬ xs0 = x3) → zW G d M_St_getBytes 28 [o0, o1, o2, some (.int x3)] st H Q) (kf : (xs0 = x3) → zW G d M_St_getBytes 8 [o0, o1, o2, some (.int x3)] st H Q) : zW G d M_St_getBytes 4 [o0, o1, o2, some (.int x3)] ((.int xs0) :: st) H Q :=
  zw_iload_n (i := 3) dSt_getBytes_4 rfl rfl <| zw_icmp_ne 28 dSt_getBytes_5 (by decide) kt kf
theorem sSt_getBytes_8 {G : zG} {d : Nat} {Q : Option Value → Heap → Prop} {H : Heap} {st : List Value} {a0 : Nat} {vf1 : Value} {v1 : Value} {x2 : Int32} {x3 : Int32} {af2 : Nat} {n3 : Nat} {t3 : FieldType} {g3 : Nat → Value} (hrf1 : zRf vf1 := by first | exact zRf_ref | exact zRf_null | exact zRf_rf _ | assumption) (hr1 : zRf v1 := by first | exact zRf_ref | exact zRf_null | exact zRf_rf _ | assumption) (hf1 : zFd G H a0 8 0 vf1) (hf2 : zFd G H a0 8 0 (.ref af2)) (ha3 : zArr G H af2 t3 n3 g3) (kk : zW G d M_St_getBytes 22 [some (.ref a0), some v1, some (.int x2), some (.int x3)] ((.int (nI n3)) :: (.int (x2 <<< (x3 &&& 31))) :: v1 :: (.int (0 : Int32)) :: vf1 :: st) H Q) : zW G d M_St_getBytes 8 [some (.ref a0), some v1, some (.int x2), some (.int x3)] st H Q :=
  zw_aload_n (i := 0) dSt_getBytes_8 rfl rfl zRf_ref <| zw_getf dSt_getBytes_9 zf_St_9 hf1 <| zw_iconst (0 : Int32) dSt_getBytes_12 zki_0 <| zw_aload_n (i := 1) dSt_getBytes_13 rfl rfl hr1 <| zw_iload_n (i := 2) dSt_getBytes_14 rfl rfl <| zw_iload_n (i := 3) dSt_getBytes_15 rfl rfl <| zw_ishl dSt_getBytes_16 <| zw_aload_n (i := 0) dSt_getBytes_17 rfl rfl zRf_ref <| zw_getf dSt_getBytes_18 zf_St_9 hf2 <| zw_alen dSt_getBytes_21 ha3 <| kk
theorem sSt_getBytes_25 {G : zG} {d : Nat} {Q : Option Value → Heap → Prop} {H : Heap} {o0 : Option Value} {o1 : Option Value} {o2 : Option Value} {o3 : Option Value} (hq : Q none H) : zW G d M_St_getBytes 25 [o0, o1, o2, o3] [] H Q :=
  zw_goto 43 dSt_getBytes_25 (by decide) <| zw_vret dSt_getBytes_43 rfl hq
theorem sSt_getBytes_28 {G : zG} {d : Nat} {Q : Option Value → Heap → Prop} {H : Heap} {st : List Value} {o3 : Option Value} {a0 : Nat} {vf1 : Value} {v1 : Value} {x2 : Int32} {af2 : Nat} {n3 : Nat} {t3 : FieldType} {g3 : Nat → Value} {P : Heap → Prop} (hrf1 : zRf vf1 := by first | exact zRf_ref | exact zRf_null | exact zRf_rf _ | assumption) (hr1 : zRf v1 := by first | exact zRf_ref | exact zRf_null | exact zRf_rf _ | assumption) (hf1 : zFd G H a0 8 0 vf1) (hf2 : zFd G H a0 8 0 (.ref af2)) (ha3 : zArr G H af2 t3 n3 g3) (hd : 1 ≤ d) (hl : st.length ≤ 4) (hc : zC G (d - 1) M_L1_inflate [vf1, (.int (0 : Int32)), v1, (.int x2), (.int (nI n3))] H (zPv P)) (kk : ∀ H1 : Heap, P H1 → zOk G H1 → H.size ≤ H1.size → zT H ≤ zT H1 → zW G d M_St_getBytes 43 [some (.ref a0), some v1, some (.int x2), o3] st H1 Q) : zW G d M_St_getBytes 28 [some (.ref a0), some v1, some (.int x2), o3] st H Q :=
  zw_aload_n (i := 0) dSt_getBytes_28 rfl rfl zRf_ref <| zw_getf dSt_getBytes_29 zf_St_9 hf1 <| zw_iconst (0 : Int32) dSt_getBytes_32 zki_0 <| zw_aload_n (i := 1) dSt_getBytes_33 rfl rfl hr1 <| zw_iload_n (i := 2) dSt_getBytes_34 rfl rfl <| zw_aload_n (i := 0) dSt_getBytes_35 rfl rfl zRf_ref <| zw_getf dSt_getBytes_36 zf_St_9 hf2 <| zw_alen dSt_getBytes_39 ha3 <| zw_callS [vf1, (.int (0 : Int32)), v1, (.int x2), (.int (nI n3))] _ dSt_getBytes_40 hd zk_St_106 rfl rfl hl hc (zPv_k kk)
theorem sSt_getBytes_43 {G : zG} {d : Nat} {Q : Option Value → Heap → Prop} {H : Heap} {o0 : Option Value} {o1 : Option Value} {o2 : Option Value} {o3 : Option Value} (hq : Q none H) : zW G d M_St_getBytes 43 [o0, o1, o2, o3] [] H Q :=
  zw_vret dSt_getBytes_43 rfl hq
end
section
theorem dL1_canEncode_0_0 : decode prog_22_method_3_code 0 = .ok (.iload_n 0, 1) := by decide +kernel
theorem dL1_canEncode_0_1 : decode prog_22_method_3_code 1 = .ok (.sipush 255, 3) := by decide +kernel
theorem dL1_canEncode_0_4 : decode prog_22_method_3_code 4 = .ok (.if_icmp .gt 7, 3) := by decide +kernel
theorem dL1_canEncode_0_7 : decode prog_22_method_3_code 7 = .ok (.iconst 1, 1) := by decide +kernel
theorem dL1_canEncode_0_8 : decode prog_22_method_3_code 8 = .ok (.goto 4, 3) := by decide +kernel
theorem dL1_canEncode_0_11 : decode prog_22_method_3_code 11 = .ok (.iconst 0, 1) := by decide +kernel
theorem dL1_canEncode_0_12 : decode prog_22_method_3_code 12 = .ok (.ireturn, 1) := by decide +kernel
theorem dL1_inflate_0 : decode prog_22_method_50_code 0 = .ok (.aload_n 0, 1) := by decide +kernel
theorem dL1_inflate_1 : decode prog_22_method_50_code 1 = .ok (.iload_n 1, 1) := by decide +kernel
theorem dL1_inflate_2 : decode prog_22_method_50_code 2 = .ok (.aload_n 2, 1) := by decide +kernel
theorem dL1_inflate_3 : decode prog_22_method_50_code 3 = .ok (.iload_n 3, 1) := by decide +kernel
theorem dL1_inflate_4 : decode prog_22_method_50_code 4 = .ok (.iload 4, 2) := by decide +kernel
theorem dL1_inflate_6 : decode prog_22_method_50_code 6 = .ok (.invokestatic 240, 3) := by decide +kernel
theorem dL1_inflate_9 : decode prog_22_method_50_code 9 = .ok (.return_, 1) := by decide +kernel
theorem dL1_fillNull_0 : decode prog_22_method_48_code 0 = .ok (.aload_n 0, 1) := by decide +kernel
theorem dL1_fillNull_1 : decode prog_22_method_48_code 1 = .ok (.iload_n 1, 1) := by decide +kernel
theorem dL1_fillNull_2 : decode prog_22_method_48_code 2 = .ok (.iload_n 2, 1) := by decide +kernel
theorem dL1_fillNull_3 : decode prog_22_method_48_code 3 = .ok (.iconst 0, 1) := by decide +kernel
theorem dL1_fillNull_4 : decode prog_22_method_48_code 4 = .ok (.invokestatic 236, 3) := by decide +kernel
theorem dL1_fillNull_7 : decode prog_22_method_48_code 7 = .ok (.return_, 1) := by decide +kernel
theorem dL1_charAt_0 : decode prog_22_method_2_code 0 = .ok (.iload_n 1, 1) := by decide +kernel
theorem dL1_charAt_1 : decode prog_22_method_2_code 1 = .ok (.aload_n 0, 1) := by decide +kernel
theorem dL1_charAt_2 : decode prog_22_method_2_code 2 = .ok (.arraylength, 1) := by decide +kernel
theorem dL1_charAt_3 : decode prog_22_method_2_code 3 = .ok (.invokestatic 9, 3) := by decide +kernel
theorem dL1_charAt_6 : decode prog_22_method_2_code 6 = .ok (.aload_n 0, 1) := by decide +kernel
theorem dL1_charAt_7 : decode prog_22_method_2_code 7 = .ok (.iload_n 1, 1) := by decide +kernel
theorem dL1_charAt_8 : decode prog_22_method_2_code 8 = .ok (.baload, 1) := by decide +kernel
theorem dL1_charAt_9 : decode prog_22_method_2_code 9 = .ok (.sipush 255, 3) := by decide +kernel
theorem dL1_charAt_12 : decode prog_22_method_2_code 12 = .ok (.iand, 1) := by decide +kernel
theorem dL1_charAt_13 : decode prog_22_method_2_code 13 = .ok (.i2c, 1) := by decide +kernel
theorem dL1_charAt_14 : decode prog_22_method_2_code 14 = .ok (.ireturn, 1) := by decide +kernel
theorem dL1_indexOf_0 : decode prog_22_method_22_code 0 = .ok (.iload_n 1, 1) := by decide +kernel
theorem dL1_indexOf_1 : decode prog_22_method_22_code 1 = .ok (.invokestatic 88, 3) := by decide +kernel
theorem dL1_indexOf_4 : decode prog_22_method_22_code 4 = .ok (.ifCond .ne 5, 3) := by decide +kernel
theorem dL1_indexOf_7 : decode prog_22_method_22_code 7 = .ok (.iconst (-1), 1) := by decide +kernel
theorem dL1_indexOf_8 : decode prog_22_method_22_code 8 = .ok (.ireturn, 1) := by decide +kernel
theorem dL1_indexOf_9 : decode prog_22_method_22_code 9 = .ok (.iload_n 2, 1) := by decide +kernel
theorem dL1_indexOf_10 : decode prog_22_method_22_code 10 = .ok (.iconst 0, 1) := by decide +kernel
theorem dL1_indexOf_11 : decode prog_22_method_22_code 11 = .ok (.invokestatic 92, 3) := by decide +kernel
theorem dL1_indexOf_14 : decode prog_22_method_22_code 14 = .ok (.istore_n 2, 1) := by decide +kernel
theorem dL1_indexOf_15 : decode prog_22_method_22_code 15 = .ok (.iload_n 3, 1) := by decide +kernel
theorem dL1_indexOf_16 : decode prog_22_method_22_code 16 = .ok (.aload_n 0, 1) := by decide +kernel
theorem dL1_indexOf_17 : decode prog_22_method_22_code 17 = .ok (.arraylength, 1) := by decide +kernel
theorem dL1_indexOf_18 : decode prog_22_method_22_code 18 = .ok (.invokestatic 38, 3) := by decide +kernel
theorem dL1_indexOf_21 : decode prog_22_method_22_code 21 = .ok (.istore_n 3, 1) := by decide +kernel
theorem dL1_indexOf_22 : decode prog_22_method_22_code 22 = .ok (.iload_n 2, 1) := by decide +kernel
theorem dL1_indexOf_23 : decode prog_22_method_22_code 23 = .ok (.iload_n 3, 1) := by decide +kernel
theorem dL1_indexOf_24 : decode prog_22_method_22_code 24 = .ok (.if_icmp .lt 5, 3) := by decide +kernel
theorem dL1_indexOf_27 : decode prog_22_method_22_code 27 = .ok (.iconst (-1), 1) := by decide +kernel
theorem dL1_indexOf_28 : decode prog_22_method_22_code 28 = .ok (.ireturn, 1) := by decide +kernel
theorem dL1_indexOf_29 : decode prog_22_method_22_code 29 = .ok (.aload_n 0, 1) := by decide +kernel
theorem dL1_indexOf_30 : decode prog_22_method_22_code 30 = .ok (.iload_n 1, 1) := by decide +kernel
theorem dL1_indexOf_31 : decode prog_22_method_22_code 31 = .ok (.iload_n 2, 1) := by decide +kernel
theorem dL1_indexOf_32 : decode prog_22_method_22_code 32 = .ok (.iload_n 3, 1) := by decide +kernel
theorem dL1_indexOf_33 : decode prog_22_method_22_code 33 = .ok (.invokestatic 95, 3) := by decide +kernel
theorem dL1_indexOf_36 : decode prog_22_method_22_code 36 = .ok (.ireturn, 1) := by decide +kernel
theorem dL1_canEncode_1_0 : decode prog_22_method_4_code 0 = .ok (.iload_n 0, 1) := by decide +kernel
theorem dL1_canEncode_1_1 : decode prog_22_method_4_code 1 = .ok (.ifCond .lt 14, 3) := by decide +kernel
theorem dL1_canEncode_1_4 : decode prog_22_method_4_code 4 = .ok (.iload_n 0, 1) := by decide +kernel
theorem dL1_canEncode_1_5 : decode prog_22_method_4_code 5 = .ok (.sipush 255, 3) := by decide +kernel
theorem dL1_canEncode_1_8 : decode prog_22_method_4_code 8 = .ok (.if_icmp .gt 7, 3) := by decide +kernel
theorem dL1_canEncode_1_11 : decode prog_22_method_4_code 11 = .ok (.iconst 1, 1) := by decide +kernel
theorem dL1_canEncode_1_12 : decode prog_22_method_4_code 12 = .ok (.goto 4, 3) := by decide +kernel
theorem dL1_canEncode_1_15 : decode prog_22_method_4_code 15 = .ok (.iconst 0, 1) := by decide +kernel
theorem dL1_canEncode_1_16 : decode prog_22_method_4_code 16 = .ok (.ireturn, 1) := by decide +kernel
theorem dL1_indexOfChar_0 : decode prog_22_method_23_code 0 = .ok (.iload_n 1, 1) := by decide +kernel
theorem dL1_indexOfChar_1 : decode prog_22_method_23_code 1 = .ok (.i2b, 1) := by decide +kernel
theorem dL1_indexOfChar_2 : decode prog_22_method_23_code 2 = .ok (.istore 4, 2) := by decide +kernel
theorem dL1_indexOfChar_4 : decode prog_22_method_23_code 4 = .ok (.iload_n 2, 1) := by decide +kernel
theorem dL1_indexOfChar_5 : decode prog_22_method_23_code 5 = .ok (.istore 5, 2) := by decide +kernel
theorem dL1_indexOfChar_7 : decode prog_22_method_23_code 7 = .ok (.iload 5, 2) := by decide +kernel
theorem dL1_indexOfChar_9 : decode prog_22_method_23_code 9 = .ok (.iload_n 3, 1) := by decide +kernel
theorem dL1_indexOfChar_10 : decode prog_22_method_23_code 10 = .ok (.if_icmp .ge 21, 3) := by decide +kernel
theorem dL1_indexOfChar_13 : decode prog_22_method_23_code 13 = .ok (.aload_n 0, 1) := by decide +kernel
theorem dL1_indexOfChar_14 : decode prog_22_method_23_code 14 = .ok (.iload 5, 2) := by decide +kernel
theorem dL1_indexOfChar_16 : decode prog_22_method_23_code 16 = .ok (.baload, 1) := by decide +kernel
theorem dL1_indexOfChar_17 : decode prog_22_method_23_code 17 = .ok (.iload 4, 2) := by decide +kernel
theorem dL1_indexOfChar_19 : decode prog_22_method_23_code 19 = .ok (.if_icmp .ne 6, 3) := by decide +kernel
theorem dL1_indexOfChar_22 : decode prog_22_method_23_code 22 = .ok (.iload 5, 2) := by decide +kernel
theorem dL1_indexOfChar_24 : decode prog_22_method_23_code 24 = .ok (.ireturn, 1) := by decide +kernel
theorem dL1_indexOfChar_25 : decode prog_22_method_23_code 25 = .ok (.iinc 5 1, 3) := by decide +kernel
theorem dL1_indexOfChar_28 : decode prog_22_method_23_code 28 = .ok (.goto (-21), 3) := by decide +kernel
theorem dL1_indexOfChar_31 : decode prog_22_method_23_code 31 = .ok (.iconst (-1), 1) := by decide +kernel
theorem dL1_indexOfChar_32 : decode prog_22_method_23_code 32 = .ok (.ireturn, 1) := by decide +kernel
theorem dL1_newString_0 : decode prog_22_method_47_code 0 = .ok (.iload_n 2, 1) := by decide +kernel
theorem dL1_newString_1 : decode prog_22_method_47_code 1 = .ok (.ifCond .ne 6, 3) := by decide +kernel
theorem dL1_newString_4 : decode prog_22_method_47_code 4 = .ok (.ldc 151, 2) := by decide +kernel
theorem dL1_newString_6 : decode prog_22_method_47_code 6 = .ok (.areturn, 1) := by decide +kernel
theorem dL1_newString_7 : decode prog_22_method_47_code 7 = .ok (.new 1, 3) := by decide +kernel
theorem dL1_newString_10 : decode prog_22_method_47_code 10 = .ok (.dup, 1) := by decide +kernel
theorem dL1_newString_11 : decode prog_22_method_47_code 11 = .ok (.aload_n 0, 1) := by decide +kernel
theorem dL1_newString_12 : decode prog_22_method_47_code 12 = .ok (.iload_n 1, 1) := by decide +kernel
theorem dL1_newString_13 : decode prog_22_method_47_code 13 = .ok (.iload_n 1, 1) := by decide +kernel
theorem dL1_newString_14 : decode prog_22_method_47_code 14 = .ok (.iload_n 2, 1) := by decide +kernel
theorem dL1_newString_15 : decode prog_22_method_47_code 15 = .ok (.iadd, 1) := by decide +kernel
theorem dL1_newString_16 : decode prog_22_method_47_code 16 = .ok (.invokestatic 232, 3) := by decide +kernel
theorem dL1_newString_19 : decode prog_22_method_47_code 19 = .ok (.iconst 0, 1) := by decide +kernel
theorem dL1_newString_20 : decode prog_22_method_47_code 20 = .ok (.invokespecial 112, 3) := by decide +kernel
theorem dL1_newString_23 : decode prog_22_method_47_code 23 = .ok (.areturn, 1) := by decide +kernel
theorem dL1_equals_0 : decode prog_22_method_13_code 0 = .ok (.aload_n 0, 1) := by decide +kernel
theorem dL1_equals_1 : decode prog_22_method_13_code 1 = .ok (.arraylength, 1) := by decide +kernel
theorem dL1_equals_2 : decode prog_22_method_13_code 2 = .ok (.aload_n 1, 1) := by decide +kernel
theorem dL1_equals_3 : decode prog_22_method_13_code 3 = .ok (.arraylength, 1) := by decide +kernel
theorem dL1_equals_4 : decode prog_22_method_13_code 4 = .ok (.if_icmp .ne 30, 3) := by decide +kernel
theorem dL1_equals_7 : decode prog_22_method_13_code 7 = .ok (.iconst 0, 1) := by decide +kernel
theorem dL1_equals_8 : decode prog_22_method_13_code 8 = .ok (.istore_n 2, 1) := by decide +kernel
theorem dL1_equals_9 : decode prog_22_method_13_code 9 = .ok (.iload_n 2, 1) := by decide +kernel
theorem dL1_equals_10 : decode prog_22_method_13_code 10 = .ok (.aload_n 0, 1) := by decide +kernel
theorem dL1_equals_11 : decode prog_22_method_13_code 11 = .ok (.arraylength, 1) := by decide +kernel
theorem dL1_equals_12 : decode prog_22_method_13_code 12 = .ok (.if_icmp .ge 20, 3) := by decide +kernel
theorem dL1_equals_15 : decode prog_22_method_13_code 15 = .ok (.aload_n 0, 1) := by decide +kernel
theorem dL1_equals_16 : decode prog_22_method_13_code 16 = .ok (.iload_n 2, 1) := by decide +kernel
theorem dL1_equals_17 : decode prog_22_method_13_code 17 = .ok (.baload, 1) := by decide +kernel
theorem dL1_equals_18 : decode prog_22_method_13_code 18 = .ok (.aload_n 1, 1) := by decide +kernel
theorem dL1_equals_19 : decode prog_22_method_13_code 19 = .ok (.iload_n 2, 1) := by decide +kernel
theorem dL1_equals_20 : decode prog_22_method_13_code 20 = .ok (.baload, 1) := by decide +kernel
theorem dL1_equals_21 : decode prog_22_method_13_code 21 = .ok (.if_icmp .eq 5, 3) := by decide +kernel
theorem dL1_equals_24 : decode prog_22_method_13_code 24 = .ok (.iconst 0, 1) := by decide +kernel
theorem dL1_equals_25 : decode prog_22_method_13_code 25 = .ok (.ireturn, 1) := by decide +kernel
theorem dL1_equals_26 : decode prog_22_method_13_code 26 = .ok (.iinc 2 1, 3) := by decide +kernel
theorem dL1_equals_29 : decode prog_22_method_13_code 29 = .ok (.goto (-20), 3) := by decide +kernel
theorem dL1_equals_32 : decode prog_22_method_13_code 32 = .ok (.iconst 1, 1) := by decide +kernel
theorem dL1_equals_33 : decode prog_22_method_13_code 33 = .ok (.ireturn, 1) := by decide +kernel
theorem dL1_equals_34 : decode prog_22_method_13_code 34 = .ok (.iconst 0, 1) := by decide +kernel
theorem dL1_equals_35 : decode prog_22_method_13_code 35 = .ok (.ireturn, 1) := by decide +kernel
theorem zk_L1_240 : zLkS "java/lang/StringLatin1" 240 M_U16_inflate 5 := ⟨zc_U16_inflate, zt2 97 rfl, Or.inl (zt2 96 rfl)⟩
theorem zk_L1_236 : zLkS "java/lang/StringLatin1" 236 M_Ar_fill 4 := ⟨zc_Ar_fill, zt2 149 rfl, Or.inl (zt2 148 rfl)⟩
theorem zk_L1_9 : zLkS "java/lang/StringLatin1" 9 M_St_checkIndex 2 := ⟨zc_St_checkIndex, zt2 129 rfl, Or.inl (zt3 16 rfl)⟩
theorem zk_L1_88 : zLkS "java/lang/StringLatin1" 88 M_L1_canEncode_1 1 := ⟨zc_L1_canEncode_1, zt3 39 rfl, Or.inl (zt3 38 rfl)⟩
theorem zk_L1_92 : zLkS "java/lang/StringLatin1" 92 M_Ma_max 2 := ⟨zc_Ma_max, zt2 58 rfl, Or.inl (zt3 41 rfl)⟩
theorem zk_L1_38 : zLkS "java/lang/StringLatin1" 38 M_Ma_min 2 := ⟨zc_Ma_min, zt2 76 rfl, Or.inl (zt3 42 rfl)⟩
theorem zk_L1_95 : zLkS "java/lang/StringLatin1" 95 M_L1_indexOfChar 4 := ⟨zc_L1_indexOfChar, zt3 44 rfl, Or.inl (zt3 43 rfl)⟩
theorem zn_L1_newString_1 : zNf M_L1_newString 1 8 4 [.null, .int 0, .int 0, .int 0] := ⟨_, _, _, ty_St, rfl, in_St, tyok_St, zt3 92 rfl, zt2 187 rfl, zt1 4 rfl, Nat.le_of_ble_eq_true rfl, zDf_St⟩
theorem zk_L1_232 : zLkS "java/lang/StringLatin1" 232 M_Ar_copyOfRange 3 := ⟨zc_Ar_copyOfRange, zt2 203 rfl, Or.inl (zt3 93 rfl)⟩
theorem zk_L1_112 : zLkI "java/lang/StringLatin1" 112 M_St_init_2 2 := ⟨zc_St_init_2, rfl, rfl, zt3 95 rfl, Or.inl (zt3 94 rfl)⟩
theorem sL1_canEncode_0_0 {G : zG} {d : Nat} {Q : Option Value → Heap → Prop} {H : Heap} {st : List Value} {x0 : Int32} (kt : ((255 : Int32) < x0) → zW G d M_L1_canEncode_0 11 [some (.int x0)] st H Q) (kf : (¬ (255 : Int32) < x0) → zW G d M_L1_canEncode_0 7 [some (.int x0)] st H Q) : zW G d M_L1_canEncode_0 0 [some (.int x0)] st H Q :=
  zw_iload_n (i := 0) dL1_canEncode_0_0 rfl rfl <| zw_sipush (255 : Int32) dL1_canEncode_0_1 zks_255 <| zw_icmp_gt 11 dL1_canEncode_0_4 (by decide) kt kf
theorem sL1_canEncode_0_7 {G : zG} {d : Nat} {Q : Option Value → Heap → Prop} {H : Heap} {o0 : Option Value} (hn : narrow .boolean (.int (1 : Int32)) = .int (1 : Int32)) (hq : Q (some (.int (1 : Int32))) H) : zW G d M_L1_canEncode_0 7 [o0] [] H Q :=
  zw_iconst (1 : Int32) dL1_canEncode_0_7 zki_1 <| zw_goto 12 dL1_canEncode_0_8 (by decide) <| zw_iret dL1_canEncode_0_12 .boolean rfl hn hq
theorem sL1_canEncode_0_11 {G : zG} {d : Nat} {Q : Option Value → Heap → Prop} {H : Heap} {o0 : Option Value} (hn : narrow .boolean (.int (0 : Int32)) = .int (0 : Int32)) (hq : Q (some (.int (0 : Int32))) H) : zW G d M_L1_canEncode_0 11 [o0] [] H Q :=
  zw_iconst (0 : Int32) dL1_canEncode_0_11 zki_0 <| zw_iret dL1_canEncode_0_12 .boolean rfl hn hq
theorem sL1_canEncode_0_12 {G : zG} {d : Nat} {Q : Option Value → Heap → Prop} {H : Heap} {o0 : Option Value} {xs0 : Int32} (hn : narrow .boolean (.int xs0) = .int xs0) (hq : Q (some (.int xs0)) H) : zW G d M_L1_canEncode_0 12 [o0] ((.int xs0) :: []) H Q :=
  zw_iret dL1_canEncode_0_12 .boolean rfl hn hq
theorem sL1_inflate_0 {G : zG} {d : Nat} {Q : Option Value → Heap → Prop} {H : Heap} {st : List Value} {v0 : Value} {x1 : Int32} {v2 : Value} {x3 : Int32} {x4 : Int32} {P : Heap → Prop} (hr0 : zRf v0 := by first | exact zRf_ref | exact zRf_null | exact zRf_rf _ | assumption) (hr2 : zRf v2 := by first | exact zRf_ref | exact zRf_null | exact zRf_rf _ | assumption) (hd : 1 ≤ d) (hl : st.length ≤ 4) (hc : zC G (d - 1) M_U16_inflate [v0, (.int x1), v2, (.int x3), (.int x4)] H (zPv P)) (kk : ∀ H1 : Heap, P H1 → zOk G H1 → H.size ≤ H1.size → zT H ≤ zT H1 → zW G d M_L1_inflate 9 [some v0, some (.int x1), some v2, some (.int x3), some (.int x4)] st H1 Q) : zW G d M_L1_inflate 0 [some v0, some (.int x1), some v2, some (.int x3), some (.int x4)] st H Q :=
  zw_aload_n (i := 0) dL1_inflate_0 rfl rfl hr0 <| zw_iload_n (i := 1) dL1_inflate_1 rfl rfl <| zw_aload_n (i := 2) dL1_inflate_2 rfl rfl hr2 <| zw_iload_n (i := 3) dL1_inflate_3 rfl rfl <| zw_iload (i := 4) dL1_inflate_4 rfl <| zw_callS [v0, (.int x1), v2, (.int x3), (.int x4)] _ dL1_inflate_6 hd zk_L1_240 rfl rfl hl hc (zPv_k kk)
theorem sL1_inflate_9 {G : zG} {d : Nat} {Q : Option Value → Heap → Prop} {H : Heap} {o0 : Option Value} {o1 : Option Value} {o2 : Option Value} {o3 : Option Value} {o4 : Option Value} (hq : Q none H) : zW G d M_L1_inflate 9 [o0, o1, o2, o3, o4] [] H Q :=
  zw_vret dL1_inflate_9 rfl hq
theorem sL1_fillNull_0 {G : zG} {d : Nat} {Q : Option Value → Heap → Prop} {H : Heap} {st : List Value} {v0 : Value} {x1 : Int32} {x2 : Int32} {P : Heap → Prop} (hr0 : zRf v0 := by first | exact zRf_ref | exact zRf_null | exact zRf_rf _ | assumption) (hd : 1 ≤ d) (hl : st.length ≤ 4) (hc : zC G (d - 1) M_Ar_fill [v0, (.int x1), (.int x2), (.int (0 : Int32))] H (zPv P)) (kk : ∀ H1 : Heap, P H1 → zOk G H1 → H.size ≤ H1.size → zT H ≤ zT H1 → zW G d M_L1_fillNull 7 [some v0, some (.int x1), some (.int x2)] st H1 Q) : zW G d M_L1_fillNull 0 [some v0, some (.int x1), some (.int x2)] st H Q :=
  zw_aload_n (i := 0) dL1_fillNull_0 rfl rfl hr0 <| zw_iload_n (i := 1) dL1_fillNull_1 rfl rfl <| zw_iload_n (i := 2) dL1_fillNull_2 rfl rfl <| zw_iconst (0 : Int32) dL1_fillNull_3 zki_0 <| zw_callS [v0, (.int x1), (.int x2), (.int (0 : Int32))] _ dL1_fillNull_4 hd zk_L1_236 rfl rfl hl hc (zPv_k kk)
theorem sL1_fillNull_7 {G : zG} {d : Nat} {Q : Option Value → Heap → Prop} {H : Heap} {o0 : Option Value} {o1 : Option Value} {o2 : Option Value} (hq : Q none H) : zW G d M_L1_fillNull 7 [o0, o1, o2] [] H Q :=
  zw_vret dL1_fillNull_7 rfl hq
theorem sL1_charAt_0 {G : zG} {d : Nat} {Q : Option Value → Heap → Prop} {H : Heap} {st : List Value} {x1 : Int32} {a0 : Nat} {n1 : Nat} {t1 : FieldType} {g1 : Nat → Value} {P : Heap → Prop} (ha1 : zArr G H a0 t1 n1 g1) (hd : 1 ≤ d) (hl : st.length ≤ 4) (hc : zC G (d - 1) M_St_checkIndex [(.int x1), (.int (nI n1))] H (zPv P)) (kk : ∀ H1 : Heap, P H1 → zOk G H1 → H.size ≤ H1.size → zT H ≤ zT H1 → zW G d M_L1_charAt 6 [some (.ref a0), some (.int x1)] st H1 Q) : zW G d M_L1_charAt 0 [some (.ref a0), some (.int x1)] st H Q :=
  zw_iload_n (i := 1) dL1_charAt_0 rfl rfl <| zw_aload_n (i := 0) dL1_charAt_1 rfl rfl zRf_ref <| zw_alen dL1_charAt_2 ha1 <| zw_callS [(.int x1), (.int (nI n1))] _ dL1_charAt_3 hd zk_L1_9 rfl rfl hl hc (zPv_k kk)
theorem sL1_charAt_6 {G : zG} {d : Nat} {Q : Option Value → Heap → Prop} {H : Heap} {a0 : Nat} {x1 : Int32} {n1 : Nat} {g1 : Nat → Int32} (ha1 : zArr G H a0 .byte n1 (fun j => .int (g1 j))) (hi1 : vp_in x1 n1) (hn : narrow .char (.int ((((g1 (x1).toNatClampNeg) &&& (255 : Int32))).toUInt32 % 65536).toInt32) = .int ((((g1 (x1).toNatClampNeg) &&& (255 : Int32))).toUInt32 % 65536).toInt32) (hq : Q (some (.int ((((g1 (x1).toNatClampNeg) &&& (255 : Int32))).toUInt32 % 65536).toInt32)) H) : zW G d M_L1_charAt 6 [some (.ref a0), some (.int x1)] [] H Q :=
  zw_aload_n (i := 0) dL1_charAt_6 rfl rfl zRf_ref <| zw_iload_n (i := 1) dL1_charAt_7 rfl rfl <| zw_bald dL1_charAt_8 ha1 hi1 <| zw_sipush (255 : Int32) dL1_charAt_9 zks_255 <| zw_iand dL1_charAt_12 <| zw_i2c dL1_charAt_13 <| zw_iret dL1_charAt_14 .char rfl hn hq
theorem sL1_indexOf_0 {G : zG} {d : Nat} {Q : Option Value → Heap → Prop} {H : Heap} {st : List Value} {o0 : Option Value} {o2 : Option Value} {o3 : Option Value} {x1 : Int32} {P : Int32 → Heap → Prop} (hd : 1 ≤ d) (hl : st.length ≤ 4) (hc : zC G (d - 1) M_L1_canEncode_1 [(.int x1)] H (zPi P)) (kk : ∀ (r : Int32) (H1 : Heap), P r H1 → zOk G H1 → H.size ≤ H1.size → zT H ≤ zT H1 → zW G d M_L1_indexOf 4 [o0, some (.int x1), o2, o3] ((.int r) :: st) H1 Q) : zW G d M_L1_indexOf 0 [o0, some (.int x1), o2, o3] st H Q :=
  zw_iload_n (i := 1) dL1_indexOf_0 rfl rfl <| zw_callS [(.int x1)] _ dL1_indexOf_1 hd zk_L1_88 rfl rfl hl hc (zPi_k kk)
theorem sL1_indexOf_4 {G : zG} {d : Nat} {Q : Option Value → Heap → Prop} {H : Heap} {st : List Value} {o0 : Option Value} {o1 : Option Value} {o2 : Option Value} {o3 : Option Value} {xs0 : Int32} (kt : (¬ xs0 = 0) → zW G d M_L1_indexOf 9 [o0, o1, o2, o3] st H Q) (kf : (xs0 = 0) → zW G d M_L1_indexOf 7 [o0, o1, o2, o3] st H Q) : zW G d M_L1_indexOf 4 [o0, o1, o2, o3] ((.int xs0) :: st) H Q :=
  zw_if_ne 9 dL1_indexOf_4 (by decide) kt kf
theorem sL1_indexOf_7 {G : zG} {d : Nat} {Q : Option Value → Heap → Prop} {H : Heap} {o0 : Option Value} {o1 : Option Value} {o2 : Option Value} {o3 : Option Value} (hq : Q (some (.int (-1 : Int32))) H) : zW G d M_L1_indexOf 7 [o0, o1, o2, o3] [] H Q :=
  zw_iconst (-1 : Int32) dL1_indexOf_7 zki_m1 <| zw_iret dL1_indexOf_8 .int rfl rfl hq
theorem sL1_indexOf_9 {G : zG} {d : Nat} {Q : Option Value → Heap → Prop} {H : Heap} {st : List Value} {o0 : Option Value} {o1 : Option Value} {o3 : Option Value} {x2 : Int32} {P : Int32 → Heap → Prop} (hd : 1 ≤ d) (hl : st.length ≤ 4) (hc : zC G (d - 1) M_Ma_max [(.int x2), (.int (0 : Int32))] H (zPi P)) (kk : ∀ (r : Int32) (H1 : Heap), P r H1 → zOk G H1 → H.size ≤ H1.size → zT H ≤ zT H1 → zW G d M_L1_indexOf 14 [o0, o1, some (.int x2), o3] ((.int r) :: st) H1 Q) : zW G d M_L1_indexOf 9 [o0, o1, some (.int x2), o3] st H Q :=
  zw_iload_n (i := 2) dL1_indexOf_9 rfl rfl <| zw_iconst (0 : Int32) dL1_indexOf_10 zki_0 <| zw_callS [(.int x2), (.int (0 : Int32))] _ dL1_indexOf_11 hd zk_L1_92 rfl rfl hl hc (zPi_k kk)
theorem sL1_indexOf_14 {G : zG} {d : Nat} {Q : Option Value → Heap → Prop} {H : Heap} {st : List Value} {o1 : Option Value} {o2 : Option Value} {xs0 : Int32} {x3 : Int32} {a0 : Nat} {n1 : Nat} {t1 : FieldType} {g1 : Nat → Value} {P : Int32 → Heap → Prop} (ha1 : zArr G H a0 t1 n1 g1) (hd : 1 ≤ d) (hl : st.length ≤ 4) (hc : zC G (d - 1) M_Ma_min [(.int x3), (.int (nI n1))] H (zPi P)) (kk : ∀ (r : Int32) (H1 : Heap), P r H1 → zOk G H1 → H.size ≤ H1.size → zT H ≤ zT H1 → zW G d M_L1_indexOf 21 [some (.ref a0), o1, some (.int xs0), some (.int x3)] ((.int r) :: st) H1 Q) : zW G d M_L1_indexOf 14 [some (.ref a0), o1, o2, some (.int x3)] ((.int xs0) :: st) H Q :=
  zw_istore_n (i := 2) dL1_indexOf_14 rfl (Nat.le_of_ble_eq_true rfl) <| zw_iload_n (i := 3) dL1_indexOf_15 rfl rfl <| zw_aload_n (i := 0) dL1_indexOf_16 rfl rfl zRf_ref <| zw_alen dL1_indexOf_17 ha1 <| zw_callS [(.int x3), (.int (nI n1))] _ dL1_indexOf_18 hd zk_L1_38 rfl rfl hl hc (zPi_k kk)
theorem sL1_indexOf_21 {G : zG} {d : Nat} {Q : Option Value → Heap → Prop} {H : Heap} {st : List Value} {o0 : Option Value} {o1 : Option Value} {o3 : Option Value} {xs0 : Int32} {x2 : Int32} (kt : (x2 < xs0) → zW G d M_L1_indexOf 29 [o0, o1, some (.int x2), some (.int xs0)] st H Q) (kf : (¬ x2 < xs0) → zW G d M_L1_indexOf 27 [o0, o1, some (.int x2), some (.int xs0)] st H Q) : zW G d M_L1_indexOf 21 [o0, o1, some (.int x2), o3] ((.int xs0) :: st) H Q :=
  zw_istore_n (i := 3) dL1_indexOf_21 rfl (Nat.le_of_ble_eq_true rfl) <| zw_iload_n (i := 2) dL1_indexOf_22 rfl rfl <| zw_iload_n (i := 3) dL1_indexOf_23 rfl rfl <| zw_icmp_lt 29 dL1_indexOf_24 (by decide) kt kf
theorem sL1_indexOf_27 {G : zG} {d : Nat} {Q : Option Value → Heap → Prop} {H : Heap} {o0 : Option Value} {o1 : Option Value} {o2 : Option Value} {o3 : Option Value} (hq : Q (some (.int (-1 : Int32))) H) : zW G d M_L1_indexOf 27 [o0, o1, o2, o3] [] H Q :=
  zw_iconst (-1 : Int32) dL1_indexOf_27 zki_m1 <| zw_iret dL1_indexOf_28 .int rfl rfl hq
theorem sL1_indexOf_29 {G : zG} {d : Nat} {Q : Option Value → Heap → Prop} {H : Heap} {st : List Value} {v0 : Value} {x1 : Int32} {x2 : Int32} {x3 : Int32} {P : Int32 → Heap → Prop} (hr0 : zRf v0 := by first | exact zRf_ref | exact zRf_null | exact zRf_rf _ | assumption) (hd : 1 ≤ d) (hl : st.length ≤ 4) (hc : zC G (d - 1) M_L1_indexOfChar [v0, (.int x1), (.int x2), (.int x3)] H (zPi P)) (kk : ∀ (r : Int32) (H1 : Heap), P r H1 → zOk G H1 → H.size ≤ H1.size → zT H ≤ zT H1 → zW G d M_L1_indexOf 36 [some v0, some (.int x1), some (.int x2), some (.int x3)] ((.int r) :: st) H1 Q) : zW G d M_L1_indexOf 29 [some v0, some (.int x1), some (.int x2), some (.int x3)] st H Q :=
  zw_aload_n (i := 0) dL1_indexOf_29 rfl rfl hr0 <| zw_iload_n (i := 1) dL1_indexOf_30 rfl rfl <| zw_iload_n (i := 2) dL1_indexOf_31 rfl rfl <| zw_iload_n (i := 3) dL1_indexOf_32 rfl rfl <| zw_callS [v0, (.int x1), (.int x2), (.int x3)] _ dL1_indexOf_33 hd zk_L1_95 rfl rfl hl hc (zPi_k kk)
theorem sL1_indexOf_36 {G : zG} {d : Nat} {Q : Option Value → Heap → Prop} {H : Heap} {o0 : Option Value} {o1 : Option Value} {o2 : Option Value} {o3 : Option Value} {xs0 : Int32} (hq : Q (some (.int xs0)) H) : zW G d M_L1_indexOf 36 [o0, o1, o2, o3] ((.int xs0) :: []) H Q :=
  zw_iret dL1_indexOf_36 .int rfl rfl hq
theorem sL1_canEncode_1_0 {G : zG} {d : Nat} {Q : Option Value → Heap → Prop} {H : Heap} {st : List Value} {x0 : Int32} (kt : (x0 < 0) → zW G d M_L1_canEncode_1 15 [some (.int x0)] st H Q) (kf : (¬ x0 < 0) → zW G d M_L1_canEncode_1 4 [some (.int x0)] st H Q) : zW G d M_L1_canEncode_1 0 [some (.int x0)] st H Q :=
  zw_iload_n (i := 0) dL1_canEncode_1_0 rfl rfl <| zw_if_lt 15 dL1_canEncode_1_1 (by decide) kt kf
theorem sL1_canEncode_1_4 {G : zG} {d : Nat} {Q : Option Value → Heap → Prop} {H : Heap} {st : List Value} {x0 : Int32} (kt : ((255 : Int32) < x0) → zW G d M_L1_canEncode_1 15 [some (.int x0)] st H Q) (kf : (¬ (255 : Int32) < x0) → zW G d M_L1_canEncode_1 11 [some (.int x0)] st H Q) : zW G d M_L1_canEncode_1 4 [some (.int x0)] st H Q :=
  zw_iload_n (i := 0) dL1_canEncode_1_4 rfl rfl <| zw_sipush (255 : Int32) dL1_canEncode_1_5 zks_255 <| zw_icmp_gt 15 dL1_canEncode_1_8 (by decide) kt kf
theorem sL1_canEncode_1_11 {G : zG} {d : Nat} {Q : Option Value → Heap → Prop} {H : Heap} {o0 : Option Value} (hn : narrow .boolean (.int (1 : Int32)) = .int (1 : Int32)) (hq : Q (some (.int (1 : Int32))) H) : zW G d M_L1_canEncode_1 11 [o0] [] H Q :=
  zw_iconst (1 : Int32) dL1_canEncode_1_11 zki_1 <| zw_goto 16 dL1_canEncode_1_12 (by decide) <| zw_iret dL1_canEncode_1_16 .boolean rfl hn hq
theorem sL1_canEncode_1_15 {G : zG} {d : Nat} {Q : Option Value → Heap → Prop} {H : Heap} {o0 : Option Value} (hn : narrow .boolean (.int (0 : Int32)) = .int (0 : Int32)) (hq : Q (some (.int (0 : Int32))) H) : zW G d M_L1_canEncode_1 15 [o0] [] H Q :=
  zw_iconst (0 : Int32) dL1_canEncode_1_15 zki_0 <| zw_iret dL1_canEncode_1_16 .boolean rfl hn hq
theorem sL1_canEncode_1_16 {G : zG} {d : Nat} {Q : Option Value → Heap → Prop} {H : Heap} {o0 : Option Value} {xs0 : Int32} (hn : narrow .boolean (.int xs0) = .int xs0) (hq : Q (some (.int xs0)) H) : zW G d M_L1_canEncode_1 16 [o0] ((.int xs0) :: []) H Q :=
  zw_iret dL1_canEncode_1_16 .boolean rfl hn hq
theorem sL1_indexOfChar_0 {G : zG} {d : Nat} {Q : Option Value → Heap → Prop} {H : Heap} {st : List Value} {o0 : Option Value} {o3 : Option Value} {o4 : Option Value} {o5 : Option Value} {x1 : Int32} {x2 : Int32} (kk : zW G d M_L1_indexOfChar 7 [o0, some (.int x1), some (.int x2), o3, some (.int (x1).toInt8.toInt32), some (.int x2)] st H Q) : zW G d M_L1_indexOfChar 0 [o0, some (.int x1), some (.int x2), o3, o4, o5] st H Q :=
  zw_iload_n (i := 1) dL1_indexOfChar_0 rfl rfl <| zw_i2b dL1_indexOfChar_1 <| zw_istore (i := 4) dL1_indexOfChar_2 (Nat.le_of_ble_eq_true rfl) <| zw_iload_n (i := 2) dL1_indexOfChar_4 rfl rfl <| zw_istore (i := 5) dL1_indexOfChar_5 (Nat.le_of_ble_eq_true rfl) <| kk
theorem sL1_indexOfChar_7 {G : zG} {d : Nat} {Q : Option Value → Heap → Prop} {H : Heap} {st : List Value} {o0 : Option Value} {o1 : Option Value} {o2 : Option Value} {o4 : Option Value} {x5 : Int32} {x3 : Int32} (kt : (x3 ≤ x5) → zW G d M_L1_indexOfChar 31 [o0, o1, o2, some (.int x3), o4, some (.int x5)] st H Q) (kf : (¬ x3 ≤ x5) → zW G d M_L1_indexOfChar 13 [o0, o1, o2, some (.int x3), o4, some (.int x5)] st H Q) : zW G d M_L1_indexOfChar 7 [o0, o1, o2, some (.int x3), o4, some (.int x5)] st H Q :=
  zw_iload (i := 5) dL1_indexOfChar_7 rfl <| zw_iload_n (i := 3) dL1_indexOfChar_9 rfl rfl <| zw_icmp_ge 31 dL1_indexOfChar_10 (by decide) kt kf
theorem sL1_indexOfChar_13 {G : zG} {d : Nat} {Q : Option Value → Heap → Prop} {H : Heap} {st : List Value} {o1 : Option Value} {o2 : Option Value} {o3 : Option Value} {a0 : Nat} {x5 : Int32} {x4 : Int32} {n1 : Nat} {g1 : Nat → Int32} (ha1 : zArr G H a0 .byte n1 (fun j => .int (g1 j))) (hi1 : vp_in x5 n1) (kt : (¬ (g1 (x5).toNatClampNeg) = x4) → zW G d M_L1_indexOfChar 25 [some (.ref a0), o1, o2, o3, some (.int x4), some (.int x5)] st H Q) (kf : ((g1 (x5).toNatClampNeg) = x4) → zW G d M_L1_indexOfChar 22 [some (.ref a0), o1, o2, o3, some (.int x4), some (.int x5)] st H Q) : zW G d M_L1_indexOfChar 13 [some (.ref a0), o1, o2, o3, some (.int x4), some (.int x5)] st H Q :=
  zw_aload_n (i := 0) dL1_indexOfChar_13 rfl rfl zRf_ref <| zw_iload (i := 5) dL1_indexOfChar_14 rfl <| zw_bald dL1_indexOfChar_16 ha1 hi1 <| zw_iload (i := 4) dL1_indexOfChar_17 rfl <| zw_icmp_ne 25 dL1_indexOfChar_19 (by decide) kt kf
theorem sL1_indexOfChar_22 {G : zG} {d : Nat} {Q : Option Value → Heap → Prop} {H : Heap} {o0 : Option Value} {o1 : Option Value} {o2 : Option Value} {o3 : Option Value} {o4 : Option Value} {x5 : Int32} (hq : Q (some (.int x5)) H) : zW G d M_L1_indexOfChar 22 [o0, o1, o2, o3, o4, some (.int x5)] [] H Q :=
  zw_iload (i := 5) dL1_indexOfChar_22 rfl <| zw_iret dL1_indexOfChar_24 .int rfl rfl hq
theorem sL1_indexOfChar_25 {G : zG} {d : Nat} {Q : Option Value → Heap → Prop} {H : Heap} {st : List Value} {o0 : Option Value} {o1 : Option Value} {o2 : Option Value} {o3 : Option Value} {o4 : Option Value} {x5 : Int32} (kk : zW G d M_L1_indexOfChar 7 [o0, o1, o2, o3, o4, some (.int (x5 + (1 : Int32)))] st H Q) : zW G d M_L1_indexOfChar 25 [o0, o1, o2, o3, o4, some (.int x5)] st H Q :=
  zw_iinc (i := 5) (x5 + (1 : Int32)) dL1_indexOfChar_25 rfl (by rw [zki_1]) <| zw_goto 7 dL1_indexOfChar_28 (by decide) <| kk
theorem sL1_indexOfChar_31 {G : zG} {d : Nat} {Q : Option Value → Heap → Prop} {H : Heap} {o0 : Option Value} {o1 : Option Value} {o2 : Option Value} {o3 : Option Value} {o4 : Option Value} {o5 : Option Value} (hq : Q (some (.int (-1 : Int32))) H) : zW G d M_L1_indexOfChar 31 [o0, o1, o2, o3, o4, o5] [] H Q :=
  zw_iconst (-1 : Int32) dL1_indexOfChar_31 zki_m1 <| zw_iret dL1_indexOfChar_32 .int rfl rfl hq
theorem sL1_newString_0 {G : zG} {d : Nat} {Q : Option Value → Heap → Prop} {H : Heap} {st : List Value} {o0 : Option Value} {o1 : Option Value} {x2 : Int32} (kt : (¬ x2 = 0) → zW G d M_L1_newString 7 [o0, o1, some (.int x2)] st H Q) (kf : (x2 = 0) → zW G d M_L1_newString 4 [o0, o1, some (.int x2)] st H Q) : zW G d M_L1_newString 0 [o0, o1, some (.int x2)] st H Q :=
  zw_iload_n (i := 2) dL1_newString_0 rfl rfl <| zw_if_ne 7 dL1_newString_1 (by decide) kt kf
theorem sL1_newString_4 {G : zG} {d : Nat} {Q : Option Value → Heap → Prop} {H : Heap} {o0 : Option Value} {o1 : Option Value} {o2 : Option Value} {ak1 : Nat} (hk1 : vk_R "java/lang/StringLatin1" 151 "" ak1 (zS G)) (hq : Q (some (.ref ak1)) H) : zW G d M_L1_newString 4 [o0, o1, o2] [] H Q :=
  zw_ldcS dL1_newString_4 rfl hk1 <| zw_aret dL1_newString_6 (.object "java/lang/String") rfl (Or.inl ⟨_, rfl⟩) zRf_ref hq
theorem sL1_newString_7 {G : zG} {d : Nat} {Q : Option Value → Heap → Prop} {H : Heap} {st : List Value} {o0 : Option Value} {o1 : Option Value} {o2 : Option Value} (hc1 : H.size + 1 ≤ zCp G) (hs1 : zT H + 4 ≤ zSp G) (kk : ∀ H1 : Heap, zObj G H1 H.size 8 [.null, .int 0, .int 0, .int 0] → zNw 4 H H1 → zW G d M_L1_newString 10 [o0, o1, o2] ((.ref H.size) :: st) H1 Q) : zW G d M_L1_newString 7 [o0, o1, o2] st H Q :=
  zw_new dL1_newString_7 zn_L1_newString_1 hc1 hs1 kk
theorem sL1_newString_10 {G : zG} {d : Nat} {Q : Option Value → Heap → Prop} {H : Heap} {st : List Value} {ws0 : Value} {v0 : Value} {x1 : Int32} {x2 : Int32} {P : Value → Heap → Prop} (hcs0 : ws0.category = 1 := by first | rfl | exact zRf.cat (by assumption)) (hr0 : zRf v0 := by first | exact zRf_ref | exact zRf_null | exact zRf_rf _ | assumption) (hd : 1 ≤ d) (hl : (ws0 :: ws0 :: st).length ≤ 4) (hc : zC G (d - 1) M_Ar_copyOfRange [v0, (.int x1), (.int (x1 + x2))] H (zPr P)) (kk : ∀ (r : Value) (H1 : Heap), zRf r → P r H1 → zOk G H1 → H.size ≤ H1.size → zT H ≤ zT H1 → zW G d M_L1_newString 19 [some v0, some (.int x1), some (.int x2)] (r :: ws0 :: ws0 :: st) H1 Q) : zW G d M_L1_newString 10 [some v0, some (.int x1), some (.int x2)] (ws0 :: st) H Q :=
  zw_dup dL1_newString_10 hcs0 <| zw_aload_n (i := 0) dL1_newString_11 rfl rfl hr0 <| zw_iload_n (i := 1) dL1_newString_12 rfl rfl <| zw_iload_n (i := 1) dL1_newString_13 rfl rfl <| zw_iload_n (i := 2) dL1_newString_14 rfl rfl <| zw_iadd dL1_newString_15 <| zw_callS [v0, (.int x1), (.int (x1 + x2))] _ dL1_newString_16 hd zk_L1_232 rfl rfl hl hc (zPr_k kk)
theorem sL1_newString_19 {G : zG} {d : Nat} {Q : Option Value → Heap → Prop} {H : Heap} {st : List Value} {o0 : Option Value} {o1 : Option Value} {o2 : Option Value} {vs0 : Value} {as1 : Nat} {P : Heap → Prop} (hrs0 : zRf vs0 := by first | exact zRf_ref | exact zRf_null | exact zRf_rf _ | assumption) (hd : 1 ≤ d) (hl : st.length ≤ 4) (hc : zC G (d - 1) M_St_init_2 [(.ref as1), vs0, (.int (0 : Int32))] H (zPv P)) (kk : ∀ H1 : Heap, P H1 → zOk G H1 → H.size ≤ H1.size → zT H ≤ zT H1 → zW G d M_L1_newString 23 [o0, o1, o2] st H1 Q) : zW G d M_L1_newString 19 [o0, o1, o2] (vs0 :: (.ref as1) :: st) H Q :=
  zw_iconst (0 : Int32) dL1_newString_19 zki_0 <| zw_callI [vs0, (.int (0 : Int32))] _ dL1_newString_20 hd zk_L1_112 rfl rfl hl hc (zPv_k kk)
theorem sL1_newString_23 {G : zG} {d : Nat} {Q : Option Value → Heap → Prop} {H : Heap} {o0 : Option Value} {o1 : Option Value} {o2 : Option Value} {vs0 : Value} (hrs0 : zRf vs0 := by first | exact zRf_ref | exact zRf_null | exact zRf_rf _ | assumption) (hq : Q (some vs0) H) : zW G d M_L1_newString 23 [o0, o1, o2] (vs0 :: []) H Q :=
  zw_aret dL1_newString_23 (.object "java/lang/String") rfl (Or.inl ⟨_, rfl⟩) hrs0 hq
theorem sL1_equals_0 {G : zG} {d : Nat} {Q : Option Value → Heap → Prop} {H : Heap} {st : List Value} {o2 : Option Value} {a0 : Nat} {a1 : Nat} {n1 : Nat} {t1 : FieldType} {g1 : Nat → Value} {n2 : Nat} {t2 : FieldType} {g2 : Nat → Value} (ha1 : zArr G H a0 t1 n1 g1) (ha2 : zArr G H a1 t2 n2 g2) (kt : (¬ (nI n1) = (nI n2)) → zW G d M_L1_equals 34 [some (.ref a0), some (.ref a1), o2] st H Q) (kf : ((nI n1) = (nI n2)) → zW G d M_L1_equals 7 [some (.ref a0), some (.ref a1), o2] st H Q) : zW G d M_L1_equals 0 [some (.ref a0), some (.ref a1), o2] st H Q :=
  zw_aload_n (i := 0) dL1_equals_0 rfl rfl zRf_ref <| zw_alen dL1_equals_1 ha1 <| zw_aload_n (i := 1) dL1_equals_2 rfl rfl zRf_ref <| zw_alen dL1_equals_3 ha2 <| zw_icmp_ne 34 dL1_equals_4 (by decide) kt kf
theorem sL1_equals_7 {G : zG} {d : Nat} {Q : Option Value → Heap → Prop} {H : Heap} {st : List Value} {o0 : Option Value} {o1 : Option Value} {o2 : Option Value} (kk : zW G d M_L1_equals 9 [o0, o1, some (.int (0 : Int32))] st H Q) : zW G d M_L1_equals 7 [o0, o1, o2] st H Q :=
  zw_iconst (0 : Int32) dL1_equals_7 zki_0 <| zw_istore_n (i := 2) dL1_equals_8 rfl (Nat.le_of_ble_eq_true rfl) <| kk
theorem sL1_equals_9 {G : zG} {d : Nat} {Q : Option Value → Heap → Prop} {H : Heap} {st : List Value} {o1 : Option Value} {x2 : Int32} {a0 : Nat} {n1 : Nat} {t1 : FieldType} {g1 : Nat → Value} (ha1 : zArr G H a0 t1 n1 g1) (kt : ((nI n1) ≤ x2) → zW G d M_L1_equals 32 [some (.ref a0), o1, some (.int x2)] st H Q) (kf : (¬ (nI n1) ≤ x2) → zW G d M_L1_equals 15 [some (.ref a0), o1, some (.int x2)] st H Q) : zW G d M_L1_equals 9 [some (.ref a0), o1, some (.int x2)] st H Q :=
  zw_iload_n (i := 2) dL1_equals_9 rfl rfl <| zw_aload_n (i := 0) dL1_equals_10 rfl rfl zRf_ref <| zw_alen dL1_equals_11 ha1 <| zw_icmp_ge 32 dL1_equals_12 (by decide) kt kf
theorem sL1_equals_15 {G : zG} {d : Nat} {Q : Option Value → Heap → Prop} {H : Heap} {st : List Value} {a0 : Nat} {x2 : Int32} {a1 : Nat} {n1 : Nat} {g1 : Nat → Int32} {n2 : Nat} {g2 : Nat → Int32} (ha1 : zArr G H a0 .byte n1 (fun j => .int (g1 j))) (hi1 : vp_in x2 n1) (ha2 : zArr G H a1 .byte n2 (fun j => .int (g2 j))) (hi2 : vp_in x2 n2) (kt : ((g1 (x2).toNatClampNeg) = (g2 (x2).toNatClampNeg)) → zW G d M_L1_equals 26 [some (.ref a0), some (.ref a1), some (.int x2)] st H Q) (kf : (¬ (g1 (x2).toNatClampNeg) = (g2 (x2).toNatClampNeg)) → zW G d M_L1_equals 24 [some (.ref a0), some (.ref a1), some (.int x2)] st H Q) : zW G d M_L1_equals 15 [some (.ref a0), some (.ref a1), some (.int x2)] st H Q :=
  zw_aload_n (i := 0) dL1_equals_15 rfl rfl zRf_ref <| zw_iload_n (i := 2) dL1_equals_16 rfl rfl <| zw_bald dL1_equals_17 ha1 hi1 <| zw_aload_n (i := 1) dL1_equals_18 rfl rfl zRf_ref <| zw_iload_n (i := 2) dL1_equals_19 rfl rfl <| zw_bald dL1_equals_20 ha2 hi2 <| zw_icmp_eq 26 dL1_equals_21 (by decide) kt kf
theorem sL1_equals_24 {G : zG} {d : Nat} {Q : Option Value → Heap → Prop} {H : Heap} {o0 : Option Value} {o1 : Option Value} {o2 : Option Value} (hn : narrow .boolean (.int (0 : Int32)) = .int (0 : Int32)) (hq : Q (some (.int (0 : Int32))) H) : zW G d M_L1_equals 24 [o0, o1, o2] [] H Q :=
  zw_iconst (0 : Int32) dL1_equals_24 zki_0 <| zw_iret dL1_equals_25 .boolean rfl hn hq
theorem sL1_equals_26 {G : zG} {d : Nat} {Q : Option Value → Heap → Prop} {H : Heap} {st : List Value} {o0 : Option Value} {o1 : Option Value} {x2 : Int32} (kk : zW G d M_L1_equals 9 [o0, o1, some (.int (x2 + (1 : Int32)))] st H Q) : zW G d M_L1_equals 26 [o0, o1, some (.int x2)] st H Q :=
  zw_iinc (i := 2) (x2 + (1 : Int32)) dL1_equals_26 rfl (by rw [zki_1]) <| zw_goto 9 dL1_equals_29 (by decide) <| kk
theorem sL1_equals_32 {G : zG} {d : Nat} {Q : Option Value → Heap → Prop} {H : Heap} {o0 : Option Value} {o1 : Option Value} {o2 : Option Value} (hn : narrow .boolean (.int (1 : Int32)) = .int (1 : Int32)) (hq : Q (some (.int (1 : Int32))) H) : zW G d M_L1_equals 32 [o0, o1, o2] [] H Q :=
  zw_iconst (1 : Int32) dL1_equals_32 zki_1 <| zw_iret dL1_equals_33 .boolean rfl hn hq
theorem sL1_equals_34 {G : zG} {d : Nat} {Q : Option Value → Heap → Prop} {H : Heap} {o0 : Option Value} {o1 : Option Value} {o2 : Option Value} (hn : narrow .boolean (.int (0 : Int32)) = .int (0 : Int32)) (hq : Q (some (.int (0 : Int32))) H) : zW G d M_L1_equals 34 [o0, o1, o2] [] H Q :=
  zw_iconst (0 : Int32) dL1_equals_34 zki_0 <| zw_iret dL1_equals_35 .boolean rfl hn hq
end
section
theorem dAl_init_0 : decode prog_27_method_2_code 0 = .ok (.aload_n 0, 1) := by decide +kernel
theorem dAl_init_1 : decode prog_27_method_2_code 1 = .ok (.invokespecial 1, 3) := by decide +kernel
theorem dAl_init_4 : decode prog_27_method_2_code 4 = .ok (.aload_n 0, 1) := by decide +kernel
theorem dAl_init_5 : decode prog_27_method_2_code 5 = .ok (.getstatic 39, 3) := by decide +kernel
theorem dAl_init_8 : decode prog_27_method_2_code 8 = .ok (.putfield 9, 3) := by decide +kernel
theorem dAl_init_11 : decode prog_27_method_2_code 11 = .ok (.return_, 1) := by decide +kernel
theorem dAl_size_0 : decode prog_27_method_8_code 0 = .ok (.aload_n 0, 1) := by decide +kernel
theorem dAl_size_1 : decode prog_27_method_8_code 1 = .ok (.getfield 48, 3) := by decide +kernel
theorem dAl_size_4 : decode prog_27_method_8_code 4 = .ok (.ireturn, 1) := by decide +kernel
theorem dAl_get_0 : decode prog_27_method_20_code 0 = .ok (.iload_n 1, 1) := by decide +kernel
theorem dAl_get_1 : decode prog_27_method_20_code 1 = .ok (.aload_n 0, 1) := by decide +kernel
theorem dAl_get_2 : decode prog_27_method_20_code 2 = .ok (.getfield 48, 3) := by decide +kernel
theorem dAl_get_5 : decode prog_27_method_20_code 5 = .ok (.invokestatic 118, 3) := by decide +kernel
theorem dAl_get_8 : decode prog_27_method_20_code 8 = .ok (.pop, 1) := by decide +kernel
theorem dAl_get_9 : decode prog_27_method_20_code 9 = .ok (.aload_n 0, 1) := by decide +kernel
theorem dAl_get_10 : decode prog_27_method_20_code 10 = .ok (.iload_n 1, 1) := by decide +kernel
theorem dAl_get_11 : decode prog_27_method_20_code 11 = .ok (.invokevirtual 123, 3) := by decide +kernel
theorem dAl_get_14 : decode prog_27_method_20_code 14 = .ok (.areturn, 1) := by decide +kernel
theorem dAl_elementData_0 : decode prog_27_method_18_code 0 = .ok (.aload_n 0, 1) := by decide +kernel
theorem dAl_elementData_1 : decode prog_27_method_18_code 1 = .ok (.getfield 9, 3) := by decide +kernel
theorem dAl_elementData_4 : decode prog_27_method_18_code 4 = .ok (.iload_n 1, 1) := by decide +kernel
theorem dAl_elementData_5 : decode prog_27_method_18_code 5 = .ok (.aaload, 1) := by decide +kernel
theorem dAl_elementData_6 : decode prog_27_method_18_code 6 = .ok (.areturn, 1) := by decide +kernel
theorem dAl_set_0 : decode prog_27_method_23_code 0 = .ok (.iload_n 1, 1) := by decide +kernel
theorem dAl_set_1 : decode prog_27_method_23_code 1 = .ok (.aload_n 0, 1) := by decide +kernel
theorem dAl_set_2 : decode prog_27_method_23_code 2 = .ok (.getfield 48, 3) := by decide +kernel
theorem dAl_set_5 : decode prog_27_method_23_code 5 = .ok (.invokestatic 118, 3) := by decide +kernel
theorem dAl_set_8 : decode prog_27_method_23_code 8 = .ok (.pop, 1) := by decide +kernel
theorem dAl_set_9 : decode prog_27_method_23_code 9 = .ok (.aload_n 0, 1) := by decide +kernel
theorem dAl_set_10 : decode prog_27_method_23_code 10 = .ok (.iload_n 1, 1) := by decide +kernel
theorem dAl_set_11 : decode prog_27_method_23_code 11 = .ok (.invokevirtual 123, 3) := by decide +kernel
theorem dAl_set_14 : decode prog_27_method_23_code 14 = .ok (.astore_n 3, 1) := by decide +kernel
theorem dAl_set_15 : decode prog_27_method_23_code 15 = .ok (.aload_n 0, 1) := by decide +kernel
theorem dAl_set_16 : decode prog_27_method_23_code 16 = .ok (.getfield 9, 3) := by decide +kernel
theorem dAl_set_19 : decode prog_27_method_23_code 19 = .ok (.iload_n 1, 1) := by decide +kernel
theorem dAl_set_20 : decode prog_27_method_23_code 20 = .ok (.aload_n 2, 1) := by decide +kernel
theorem dAl_set_21 : decode prog_27_method_23_code 21 = .ok (.aastore, 1) := by decide +kernel
theorem dAl_set_22 : decode prog_27_method_23_code 22 = .ok (.aload_n 3, 1) := by decide +kernel
theorem dAl_set_23 : decode prog_27_method_23_code 23 = .ok (.areturn, 1) := by decide +kernel
theorem dAl_add_0_0 : decode prog_27_method_25_code 0 = .ok (.aload_n 0, 1) := by decide +kernel
theorem dAl_add_0_1 : decode prog_27_method_25_code 1 = .ok (.dup, 1) := by decide +kernel
theorem dAl_add_0_2 : decode prog_27_method_25_code 2 = .ok (.getfield 63, 3) := by decide +kernel
theorem dAl_add_0_5 : decode prog_27_method_25_code 5 = .ok (.iconst 1, 1) := by decide +kernel
theorem dAl_add_0_6 : decode prog_27_method_25_code 6 = .ok (.iadd, 1) := by decide +kernel
theorem dAl_add_0_7 : decode prog_27_method_25_code 7 = .ok (.putfield 63, 3) := by decide +kernel
theorem dAl_add_0_10 : decode prog_27_method_25_code 10 = .ok (.aload_n 0, 1) := by decide +kernel
theorem dAl_add_0_11 : decode prog_27_method_25_code 11 = .ok (.aload_n 1, 1) := by decide +kernel
theorem dAl_add_0_12 : decode prog_27_method_25_code 12 = .ok (.aload_n 0, 1) := by decide +kernel
theorem dAl_add_0_13 : decode prog_27_method_25_code 13 = .ok (.getfield 9, 3) := by decide +kernel
theorem dAl_add_0_16 : decode prog_27_method_25_code 16 = .ok (.aload_n 0, 1) := by decide +kernel
theorem dAl_add_0_17 : decode prog_27_method_25_code 17 = .ok (.getfield 48, 3) := by decide +kernel
theorem dAl_add_0_20 : decode prog_27_method_25_code 20 = .ok (.invokevirtual 131, 3) := by decide +kernel
theorem dAl_add_0_23 : decode prog_27_method_25_code 23 = .ok (.iconst 1, 1) := by decide +kernel
theorem dAl_add_0_24 : decode prog_27_method_25_code 24 = .ok (.ireturn, 1) := by decide +kernel
theorem dAl_add_1_0 : decode prog_27_method_24_code 0 = .ok (.iload_n 3, 1) := by decide +kernel
theorem dAl_add_1_1 : decode prog_27_method_24_code 1 = .ok (.aload_n 2, 1) := by decide +kernel
theorem dAl_add_1_2 : decode prog_27_method_24_code 2 = .ok (.arraylength, 1) := by decide +kernel
theorem dAl_add_1_3 : decode prog_27_method_24_code 3 = .ok (.if_icmp .ne 8, 3) := by decide +kernel
theorem dAl_add_1_6 : decode prog_27_method_24_code 6 = .ok (.aload_n 0, 1) := by decide +kernel
theorem dAl_add_1_7 : decode prog_27_method_24_code 7 = .ok (.invokevirtual 129, 3) := by decide +kernel
theorem dAl_add_1_10 : decode prog_27_method_24_code 10 = .ok (.astore_n 2, 1) := by decide +kernel
theorem dAl_add_1_11 : decode prog_27_method_24_code 11 = .ok (.aload_n 2, 1) := by decide +kernel
theorem dAl_add_1_12 : decode prog_27_method_24_code 12 = .ok (.iload_n 3, 1) := by decide +kernel
theorem dAl_add_1_13 : decode prog_27_method_24_code 13 = .ok (.aload_n 1, 1) := by decide +kernel
theorem dAl_add_1_14 : decode prog_27_method_24_code 14 = .ok (.aastore, 1) := by decide +kernel
theorem dAl_add_1_15 : decode prog_27_method_24_code 15 = .ok (.aload_n 0, 1) := by decide +kernel
theorem dAl_add_1_16 : decode prog_27_method_24_code 16 = .ok (.iload_n 3, 1) := by decide +kernel
theorem dAl_add_1_17 : decode prog_27_method_24_code 17 = .ok (.iconst 1, 1) := by decide +kernel
theorem dAl_add_1_18 : decode prog_27_method_24_code 18 = .ok (.iadd, 1) := by decide +kernel
theorem dAl_add_1_19 : decode prog_27_method_24_code 19 = .ok (.putfield 48, 3) := by decide +kernel
theorem dAl_add_1_22 : decode prog_27_method_24_code 22 = .ok (.return_, 1) := by decide +kernel
theorem dAl_grow_0_0 : decode prog_27_method_7_code 0 = .ok (.aload_n 0, 1) := by decide +kernel
theorem dAl_grow_0_1 : decode prog_27_method_7_code 1 = .ok (.aload_n 0, 1) := by decide +kernel
theorem dAl_grow_0_2 : decode prog_27_method_7_code 2 = .ok (.getfield 48, 3) := by decide +kernel
theorem dAl_grow_0_5 : decode prog_27_method_7_code 5 = .ok (.iconst 1, 1) := by decide +kernel
theorem dAl_grow_0_6 : decode prog_27_method_7_code 6 = .ok (.iadd, 1) := by decide +kernel
theorem dAl_grow_0_7 : decode prog_27_method_7_code 7 = .ok (.invokevirtual 69, 3) := by decide +kernel
theorem dAl_grow_0_10 : decode prog_27_method_7_code 10 = .ok (.areturn, 1) := by decide +kernel
theorem dAl_grow_1_0 : decode prog_27_method_6_code 0 = .ok (.aload_n 0, 1) := by decide +kernel
theorem dAl_grow_1_1 : decode prog_27_method_6_code 1 = .ok (.getfield 9, 3) := by decide +kernel
theorem dAl_grow_1_4 : decode prog_27_method_6_code 4 = .ok (.arraylength, 1) := by decide +kernel
theorem dAl_grow_1_5 : decode prog_27_method_6_code 5 = .ok (.istore_n 2, 1) := by decide +kernel
theorem dAl_grow_1_6 : decode prog_27_method_6_code 6 = .ok (.iload_n 2, 1) := by decide +kernel
theorem dAl_grow_1_7 : decode prog_27_method_6_code 7 = .ok (.ifCond .gt 13, 3) := by decide +kernel
theorem dAl_grow_1_10 : decode prog_27_method_6_code 10 = .ok (.aload_n 0, 1) := by decide +kernel
theorem dAl_grow_1_11 : decode prog_27_method_6_code 11 = .ok (.getfield 9, 3) := by decide +kernel
theorem dAl_grow_1_14 : decode prog_27_method_6_code 14 = .ok (.getstatic 39, 3) := by decide +kernel
theorem dAl_grow_1_17 : decode prog_27_method_6_code 17 = .ok (.if_acmp .eq 28, 3) := by decide +kernel
theorem dAl_grow_1_20 : decode prog_27_method_6_code 20 = .ok (.iload_n 2, 1) := by decide +kernel
theorem dAl_grow_1_21 : decode prog_27_method_6_code 21 = .ok (.iload_n 1, 1) := by decide +kernel
theorem dAl_grow_1_22 : decode prog_27_method_6_code 22 = .ok (.iload_n 2, 1) := by decide +kernel
theorem dAl_grow_1_23 : decode prog_27_method_6_code 23 = .ok (.isub, 1) := by decide +kernel
theorem dAl_grow_1_24 : decode prog_27_method_6_code 24 = .ok (.iload_n 2, 1) := by decide +kernel
theorem dAl_grow_1_25 : decode prog_27_method_6_code 25 = .ok (.iconst 1, 1) := by decide +kernel
theorem dAl_grow_1_26 : decode prog_27_method_6_code 26 = .ok (.ishr, 1) := by decide +kernel
theorem dAl_grow_1_27 : decode prog_27_method_6_code 27 = .ok (.invokestatic 73, 3) := by decide +kernel
theorem dAl_grow_1_30 : decode prog_27_method_6_code 30 = .ok (.istore_n 3, 1) := by decide +kernel
theorem dAl_grow_1_31 : decode prog_27_method_6_code 31 = .ok (.aload_n 0, 1) := by decide +kernel
theorem dAl_grow_1_32 : decode prog_27_method_6_code 32 = .ok (.aload_n 0, 1) := by decide +kernel
theorem dAl_grow_1_33 : decode prog_27_method_6_code 33 = .ok (.getfield 9, 3) := by decide +kernel
theorem dAl_grow_1_36 : decode prog_27_method_6_code 36 = .ok (.iload_n 3, 1) := by decide +kernel
theorem dAl_grow_1_37 : decode prog_27_method_6_code 37 = .ok (.invokestatic 66, 3) := by decide +kernel
theorem dAl_grow_1_40 : decode prog_27_method_6_code 40 = .ok (.dup_x1, 1) := by decide +kernel
theorem dAl_grow_1_41 : decode prog_27_method_6_code 41 = .ok (.putfield 9, 3) := by decide +kernel
theorem dAl_grow_1_44 : decode prog_27_method_6_code 44 = .ok (.areturn, 1) := by decide +kernel
theorem dAl_grow_1_45 : decode prog_27_method_6_code 45 = .ok (.aload_n 0, 1) := by decide +kernel
theorem dAl_grow_1_46 : decode prog_27_method_6_code 46 = .ok (.bipush 10, 2) := by decide +kernel
theorem dAl_grow_1_48 : decode prog_27_method_6_code 48 = .ok (.iload_n 1, 1) := by decide +kernel
theorem dAl_grow_1_49 : decode prog_27_method_6_code 49 = .ok (.invokestatic 79, 3) := by decide +kernel
theorem dAl_grow_1_52 : decode prog_27_method_6_code 52 = .ok (.anewarray 7, 3) := by decide +kernel
theorem dAl_grow_1_55 : decode prog_27_method_6_code 55 = .ok (.dup_x1, 1) := by decide +kernel
theorem dAl_grow_1_56 : decode prog_27_method_6_code 56 = .ok (.putfield 9, 3) := by decide +kernel
theorem dAl_grow_1_59 : decode prog_27_method_6_code 59 = .ok (.areturn, 1) := by decide +kernel
theorem dAl_remove_0 : decode prog_27_method_29_code 0 = .ok (.iload_n 1, 1) := by decide +kernel
theorem dAl_remove_1 : decode prog_27_method_29_code 1 = .ok (.aload_n 0, 1) := by decide +kernel
theorem dAl_remove_2 : decode prog_27_method_29_code 2 = .ok (.getfield 48, 3) := by decide +kernel
theorem dAl_remove_5 : decode prog_27_method_29_code 5 = .ok (.invokestatic 118, 3) := by decide +kernel
theorem dAl_remove_8 : decode prog_27_method_29_code 8 = .ok (.pop, 1) := by decide +kernel
theorem dAl_remove_9 : decode prog_27_method_29_code 9 = .ok (.aload_n 0, 1) := by decide +kernel
theorem dAl_remove_10 : decode prog_27_method_29_code 10 = .ok (.getfield 9, 3) := by decide +kernel
theorem dAl_remove_13 : decode prog_27_method_29_code 13 = .ok (.astore_n 2, 1) := by decide +kernel
theorem dAl_remove_14 : decode prog_27_method_29_code 14 = .ok (.aload_n 2, 1) := by decide +kernel
theorem dAl_remove_15 : decode prog_27_method_29_code 15 = .ok (.iload_n 1, 1) := by decide +kernel
theorem dAl_remove_16 : decode prog_27_method_29_code 16 = .ok (.aaload, 1) := by decide +kernel
theorem dAl_remove_17 : decode prog_27_method_29_code 17 = .ok (.astore_n 3, 1) := by decide +kernel
theorem dAl_remove_18 : decode prog_27_method_29_code 18 = .ok (.aload_n 0, 1) := by decide +kernel
theorem dAl_remove_19 : decode prog_27_method_29_code 19 = .ok (.aload_n 2, 1) := by decide +kernel
theorem dAl_remove_20 : decode prog_27_method_29_code 20 = .ok (.iload_n 1, 1) := by decide +kernel
theorem dAl_remove_21 : decode prog_27_method_29_code 21 = .ok (.invokevirtual 144, 3) := by decide +kernel
theorem dAl_remove_24 : decode prog_27_method_29_code 24 = .ok (.aload_n 3, 1) := by decide +kernel
theorem dAl_remove_25 : decode prog_27_method_29_code 25 = .ok (.areturn, 1) := by decide +kernel
theorem dAl_fastRemove_0 : decode prog_27_method_39_code 0 = .ok (.aload_n 0, 1) := by decide +kernel
theorem dAl_fastRemove_1 : decode prog_27_method_39_code 1 = .ok (.dup, 1) := by decide +kernel
theorem dAl_fastRemove_2 : decode prog_27_method_39_code 2 = .ok (.getfield 63, 3) := by decide +kernel
theorem dAl_fastRemove_5 : decode prog_27_method_39_code 5 = .ok (.iconst 1, 1) := by decide +kernel
theorem dAl_fastRemove_6 : decode prog_27_method_39_code 6 = .ok (.iadd, 1) := by decide +kernel
theorem dAl_fastRemove_7 : decode prog_27_method_39_code 7 = .ok (.putfield 63, 3) := by decide +kernel
theorem dAl_fastRemove_10 : decode prog_27_method_39_code 10 = .ok (.aload_n 0, 1) := by decide +kernel
theorem dAl_fastRemove_11 : decode prog_27_method_39_code 11 = .ok (.getfield 48, 3) := by decide +kernel
theorem dAl_fastRemove_14 : decode prog_27_method_39_code 14 = .ok (.iconst 1, 1) := by decide +kernel
theorem dAl_fastRemove_15 : decode prog_27_method_39_code 15 = .ok (.isub, 1) := by decide +kernel
theorem dAl_fastRemove_16 : decode prog_27_method_39_code 16 = .ok (.dup, 1) := by decide +kernel
theorem dAl_fastRemove_17 : decode prog_27_method_39_code 17 = .ok (.istore_n 3, 1) := by decide +kernel
theorem dAl_fastRemove_18 : decode prog_27_method_39_code 18 = .ok (.iload_n 2, 1) := by decide +kernel
theorem dAl_fastRemove_19 : decode prog_27_method_39_code 19 = .ok (.if_icmp .le 15, 3) := by decide +kernel
theorem dAl_fastRemove_22 : decode prog_27_method_39_code 22 = .ok (.aload_n 1, 1) := by decide +kernel
theorem dAl_fastRemove_23 : decode prog_27_method_39_code 23 = .ok (.iload_n 2, 1) := by decide +kernel
theorem dAl_fastRemove_24 : decode prog_27_method_39_code 24 = .ok (.iconst 1, 1) := by decide +kernel
theorem dAl_fastRemove_25 : decode prog_27_method_39_code 25 = .ok (.iadd, 1) := by decide +kernel
theorem dAl_fastRemove_26 : decode prog_27_method_39_code 26 = .ok (.aload_n 1, 1) := by decide +kernel
theorem dAl_fastRemove_27 : decode prog_27_method_39_code 27 = .ok (.iload_n 2, 1) := by decide +kernel
theorem dAl_fastRemove_28 : decode prog_27_method_39_code 28 = .ok (.iload_n 3, 1) := by decide +kernel
theorem dAl_fastRemove_29 : decode prog_27_method_39_code 29 = .ok (.iload_n 2, 1) := by decide +kernel
theorem dAl_fastRemove_30 : decode prog_27_method_39_code 30 = .ok (.isub, 1) := by decide +kernel
theorem dAl_fastRemove_31 : decode prog_27_method_39_code 31 = .ok (.invokestatic 112, 3) := by decide +kernel
theorem dAl_fastRemove_34 : decode prog_27_method_39_code 34 = .ok (.aload_n 1, 1) := by decide +kernel
theorem dAl_fastRemove_35 : decode prog_27_method_39_code 35 = .ok (.aload_n 0, 1) := by decide +kernel
theorem dAl_fastRemove_36 : decode prog_27_method_39_code 36 = .ok (.iload_n 3, 1) := by decide +kernel
theorem dAl_fastRemove_37 : decode prog_27_method_39_code 37 = .ok (.dup_x1, 1) := by decide +kernel
theorem dAl_fastRemove_38 : decode prog_27_method_39_code 38 = .ok (.putfield 48, 3) := by decide +kernel
theorem dAl_fastRemove_41 : decode prog_27_method_39_code 41 = .ok (.aconst_null, 1) := by decide +kernel
theorem dAl_fastRemove_42 : decode prog_27_method_39_code 42 = .ok (.aastore, 1) := by decide +kernel
theorem dAl_fastRemove_43 : decode prog_27_method_39_code 43 = .ok (.return_, 1) := by decide +kernel
theorem zk_Al_1 : zLkI "java/util/ArrayList" 1 M_AL_init 0 := ⟨zc_AL_init, rfl, rfl, zt1 168 rfl, Or.inl (zt1 167 rfl)⟩
theorem zf_Al_9 : zFl "java/util/ArrayList" 9 5 0 := ⟨_, _, _, "java/util/ArrayList", rfl, Nat.le_of_ble_eq_true rfl, in_Al, Or.inl (zt1 176 rfl), Or.inl rfl⟩
theorem zp_Al_init_9 : zPf M_Al_init 9 5 0 (.array (.object "java/lang/Object")) := ⟨zf_Al_9, _, _, _, ty_Al, rfl, tyok_Al, nm_Al, rfl, Or.inl rfl⟩
theorem zf_Al_48 : zFl "java/util/ArrayList" 48 5 1 := ⟨_, _, _, "java/util/ArrayList", rfl, Nat.le_of_ble_eq_true rfl, in_Al, Or.inl (zt1 177 rfl), Or.inl rfl⟩
theorem zk_Al_118 : zLkS "java/util/ArrayList" 118 M_Ob_checkIndex 2 := ⟨zc_Ob_checkIndex, zt4 102 rfl, Or.inl (zt4 101 rfl)⟩
theorem zk_Al_123 : zLkV "java/util/ArrayList" 123 5 M_Al_elementData 1 := ⟨zc_Al_elementData, ⟨_, _, _, rfl, Or.inl (zt4 107 rfl)⟩, zt4 106 rfl, Or.inl (zt4 105 rfl)⟩
theorem zf_Al_63 : zFl "java/util/ArrayList" 63 5 2 := ⟨_, _, _, "java/util/ArrayList", rfl, Nat.le_of_ble_eq_true rfl, in_Al, Or.inl (zt1 179 rfl), Or.inr (zt1 180 rfl)⟩
theorem zp_Al_add_0_63 : zPf M_Al_add_0 63 5 2 .int := ⟨zf_Al_63, _, _, _, ty_Al, rfl, tyok_Al, nm_Al, rfl, Or.inl rfl⟩
theorem zk_Al_131 : zLkV "java/util/ArrayList" 131 5 M_Al_add_1 3 := ⟨zc_Al_add_1, ⟨_, _, _, rfl, Or.inl (zsel 10 rfl)⟩, zt4 124 rfl, Or.inl (zt4 122 rfl)⟩
theorem zk_Al_129 : zLkV "java/util/ArrayList" 129 5 M_Al_grow_0 0 := ⟨zc_Al_grow_0, ⟨_, _, _, rfl, Or.inl (zsel 11 rfl)⟩, zt4 128 rfl, Or.inl (zt4 126 rfl)⟩
theorem zp_Al_add_1_48 : zPf M_Al_add_1 48 5 1 .int := ⟨zf_Al_48, _, _, _, ty_Al, rfl, tyok_Al, nm_Al, rfl, Or.inl rfl⟩
theorem zk_Al_69 : zLkV "java/util/ArrayList" 69 5 M_Al_grow_1 1 := ⟨zc_Al_grow_1, ⟨_, _, _, rfl, Or.inl (zsel 12 rfl)⟩, zt4 132 rfl, Or.inl (zt4 130 rfl)⟩
theorem zk_Al_73 : zLkS "java/util/ArrayList" 73 M_AS_newLength 3 := ⟨zc_AS_newLength, zt2 55 rfl, Or.inl (zt4 134 rfl)⟩
theorem zk_Al_66 : zLkS "java/util/ArrayList" 66 M_Ar_copyOf_1 2 := ⟨zc_Ar_copyOf_1, zt4 136 rfl, Or.inl (zt4 135 rfl)⟩
theorem zp_Al_grow_1_9 : zPf M_Al_grow_1 9 5 0 (.array (.object "java/lang/Object")) := ⟨zf_Al_9, _, _, _, ty_Al, rfl, tyok_Al, nm_Al, rfl, Or.inl rfl⟩
theorem zk_Al_79 : zLkS "java/util/ArrayList" 79 M_Ma_max 2 := ⟨zc_Ma_max, zt2 58 rfl, Or.inl (zt4 162 rfl)⟩
theorem zk_Al_144 : zLkV "java/util/ArrayList" 144 5 M_Al_fastRemove 2 := ⟨zc_Al_fastRemove, ⟨_, _, _, rfl, Or.inl (zsel 17 rfl)⟩, zt5 14 rfl, Or.inl (zt5 12 rfl)⟩
theorem zp_Al_fastRemove_63 : zPf M_Al_fastRemove 63 5 2 .int := ⟨zf_Al_63, _, _, _, ty_Al, rfl, tyok_Al, nm_Al, rfl, Or.inl rfl⟩
theorem zp_Al_fastRemove_48 : zPf M_Al_fastRemove 48 5 1 .int := ⟨zf_Al_48, _, _, _, ty_Al, rfl, tyok_Al, nm_Al, rfl, Or.inl rfl⟩
theorem sAl_init_0 {G : zG} {d : Nat} {Q : Option Value → Heap → Prop} {H : Heap} {st : List Value} {a0 : Nat} {P : Heap → Prop} (hd : 1 ≤ d) (hl : st.length ≤ 4) (hc : zC G (d - 1) M_AL_init [(.ref a0)] H (zPv P)) (kk : ∀ H1 : Heap, P H1 → zOk G H1 → H.size ≤ H1.size → zT H ≤ zT H1 → zW G d M_Al_init 4 [some (.ref a0)] st H1 Q) : zW G d M_Al_init 0 [some (.ref a0)] st H Q :=
  zw_aload_n (i := 0) dAl_init_0 rfl rfl zRf_ref <| zw_callI [] _ dAl_init_1 hd zk_Al_1 rfl rfl hl hc (zPv_k kk)
theorem sAl_init_4 {G : zG} {d : Nat} {Q : Option Value → Heap → Prop} {H : Heap} {st : List Value} {a0 : Nat} {vf1 : Value} {b0 : Value} {b1 : Value} {b2 : Value} (hrf1 : zRf vf1 := by first | exact zRf_ref | exact zRf_null | exact zRf_rf _ | assumption) (hz1 : va_Z "java/util/ArrayList" "DEFAULTCAPACITY_EMPTY_ELEMENTDATA" "[Ljava/lang/Object;" vf1 (zFr G) (zS G) (zS G).heap) (ho : zObj G H a0 5 [b0, b1, b2]) (hw : zFr G a0) (kk : ∀ H1 : Heap, zObj G H1 a0 5 [vf1, b1, b2] → zUp a0 H H1 → zW G d M_Al_init 11 [some (.ref a0)] st H1 Q) : zW G d M_Al_init 4 [some (.ref a0)] st H Q :=
  zw_aload_n (i := 0) dAl_init_4 rfl rfl zRf_ref <| zw_gets dAl_init_5 hz1 (zt1 174 rfl) (Or.inl rfl) <| zw_putf (k := 0) dAl_init_8 zp_Al_init_9 ho (Nat.le_of_ble_eq_true rfl) (Nat.le_of_ble_eq_true rfl) hw (zNarA hrf1) (zFitA hrf1) kk
theorem sAl_init_11 {G : zG} {d : Nat} {Q : Option Value → Heap → Prop} {H : Heap} {o0 : Option Value} (hq : Q none H) : zW G d M_Al_init 11 [o0] [] H Q :=
  zw_vret dAl_init_11 rfl hq
theorem sAl_size_0 {G : zG} {d : Nat} {Q : Option Value → Heap → Prop} {H : Heap} {a0 : Nat} {xf1 : Int32} (hf1 : zFd G H a0 5 1 (.int xf1)) (hq : Q (some (.int xf1)) H) : zW G d M_Al_size 0 [some (.ref a0)] [] H Q :=
  zw_aload_n (i := 0) dAl_size_0 rfl rfl zRf_ref <| zw_getf dAl_size_1 zf_Al_48 hf1 <| zw_iret dAl_size_4 .int rfl rfl hq
theorem sAl_get_0 {G : zG} {d : Nat} {Q : Option Value → Heap → Prop} {H : Heap} {st : List Value} {x1 : Int32} {a0 : Nat} {xf1 : Int32} {P : Int32 → Heap → Prop} (hf1 : zFd G H a0 5 1 (.int xf1)) (hd : 1 ≤ d) (hl : st.length ≤ 4) (hc : zC G (d - 1) M_Ob_checkIndex [(.int x1), (.int xf1)] H (zPi P)) (kk : ∀ (r : Int32) (H1 : Heap), P r H1 → zOk G H1 → H.size ≤ H1.size → zT H ≤ zT H1 → zW G d M_Al_get 8 [some (.ref a0), some (.int x1)] ((.int r) :: st) H1 Q) : zW G d M_Al_get 0 [some (.ref a0), some (.int x1)] st H Q :=
  zw_iload_n (i := 1) dAl_get_0 rfl rfl <| zw_aload_n (i := 0) dAl_get_1 rfl rfl zRf_ref <| zw_getf dAl_get_2 zf_Al_48 hf1 <| zw_callS [(.int x1), (.int xf1)] _ dAl_get_5 hd zk_Al_118 rfl rfl hl hc (zPi_k kk)
theorem sAl_get_8 {G : zG} {d : Nat} {Q : Option Value → Heap → Prop} {H : Heap} {st : List Value} {ws0 : Value} {a0 : Nat} {x1 : Int32} {P : Value → Heap → Prop} (hcs0 : ws0.category = 1 := by first | rfl | exact zRf.cat (by assumption)) (hd : 1 ≤ d) (hl : st.length ≤ 4) (ho : zIs G H a0 5) (hc : zC G (d - 1) M_Al_elementData [(.ref a0), (.int x1)] H (zPr P)) (kk : ∀ (r : Value) (H1 : Heap), zRf r → P r H1 → zOk G H1 → H.size ≤ H1.size → zT H ≤ zT H1 → zW G d M_Al_get 14 [some (.ref a0), some (.int x1)] (r :: st) H1 Q) : zW G d M_Al_get 8 [some (.ref a0), some (.int x1)] (ws0 :: st) H Q :=
  zw_pop dAl_get_8 hcs0 <| zw_aload_n (i := 0) dAl_get_9 rfl rfl zRf_ref <| zw_iload_n (i := 1) dAl_get_10 rfl rfl <| zw_callV [(.int x1)] _ dAl_get_11 hd zk_Al_123 ho rfl rfl hl hc (zPr_k kk)
theorem sAl_get_14 {G : zG} {d : Nat} {Q : Option Value → Heap → Prop} {H : Heap} {o0 : Option Value} {o1 : Option Value} {vs0 : Value} (hrs0 : zRf vs0 := by first | exact zRf_ref | exact zRf_null | exact zRf_rf _ | assumption) (hq : Q (some vs0) H) : zW G d M_Al_get 14 [o0, o1] (vs0 :: []) H Q :=
  zw_aret dAl_get_14 (.object "java/lang/Object") rfl (Or.inl ⟨_, rfl⟩) hrs0 hq
theorem sAl_elementData_0 {G : zG} {d : Nat} {Q : Option Value → Heap → Prop} {H : Heap} {a0 : Nat} {af1 : Nat} {x1 : Int32} {ve2 : Value} {n2 : Nat} {g2 : Nat → Value} {t2 : FieldType} (hre2 : zRf ve2 := by first | exact zRf_ref | exact zRf_null | exact zRf_rf _ | assumption) (hf1 : zFd G H a0 5 0 (.ref af1)) (ht2 : t2.isReference = true) (ha2 : zArr G H af1 t2 n2 g2) (hi2 : vp_in x1 n2) (he2 : g2 (x1).toNatClampNeg = ve2) (hq : Q (some ve2) H) : zW G d M_Al_elementData 0 [some (.ref a0), some (.int x1)] [] H Q :=
  zw_aload_n (i := 0) dAl_elementData_0 rfl rfl zRf_ref <| zw_getf dAl_elementData_1 zf_Al_9 hf1 <| zw_iload_n (i := 1) dAl_elementData_4 rfl rfl <| zw_aaldV dAl_elementData_5 ht2 ha2 hi2 he2 <| zw_aret dAl_elementData_6 (.object "java/lang/Object") rfl (Or.inl ⟨_, rfl⟩) hre2 hq
theorem sAl_set_0 {G : zG} {d : Nat} {Q : Option Value → Heap → Prop} {H : Heap} {st : List Value} {o2 : Option Value} {o3 : Option Value} {x1 : Int32} {a0 : Nat} {xf1 : Int32} {P : Int32 → Heap → Prop} (hf1 : zFd G H a0 5 1 (.int xf1)) (hd : 1 ≤ d) (hl : st.length ≤ 4) (hc : zC G (d - 1) M_Ob_checkIndex [(.int x1), (.int xf1)] H (zPi P)) (kk : ∀ (r : Int32) (H1 : Heap), P r H1 → zOk G H1 → H.size ≤ H1.size → zT H ≤ zT H1 → zW G d M_Al_set 8 [some (.ref a0), some (.int x1), o2, o3] ((.int r) :: st) H1 Q) : zW G d M_Al_set 0 [some (.ref a0), some (.int x1), o2, o3] st H Q :=
  zw_iload_n (i := 1) dAl_set_0 rfl rfl <| zw_aload_n (i := 0) dAl_set_1 rfl rfl zRf_ref <| zw_getf dAl_set_2 zf_Al_48 hf1 <| zw_callS [(.int x1), (.int xf1)] _ dAl_set_5 hd zk_Al_118 rfl rfl hl hc (zPi_k kk)
theorem sAl_set_8 {G : zG} {d : Nat} {Q : Option Value → Heap → Prop} {H : Heap} {st : List Value} {o2 : Option Value} {o3 : Option Value} {ws0 : Value} {a0 : Nat} {x1 : Int32} {P : Value → Heap → Prop} (hcs0 : ws0.category = 1 := by first | rfl | exact zRf.cat (by assumption)) (hd : 1 ≤ d) (hl : st.length ≤ 4) (ho : zIs G H a0 5) (hc : zC G (d - 1) M_Al_elementData [(.ref a0), (.int x1)] H (zPr P)) (kk : ∀ (r : Value) (H1 : Heap), zRf r → P r H1 → zOk G H1 → H.size ≤ H1.size → zT H ≤ zT H1 → zW G d M_Al_set 14 [some (.ref a0), some (.int x1), o2, o3] (r :: st) H1 Q) : zW G d M_Al_set 8 [some (.ref a0), some (.int x1), o2, o3] (ws0 :: st) H Q :=
  zw_pop dAl_set_8 hcs0 <| zw_aload_n (i := 0) dAl_set_9 rfl rfl zRf_ref <| zw_iload_n (i := 1) dAl_set_10 rfl rfl <| zw_callV [(.int x1)] _ dAl_set_11 hd zk_Al_123 ho rfl rfl hl hc (zPr_k kk)
theorem sAl_set_14 {G : zG} {d : Nat} {Q : Option Value → Heap → Prop} {H : Heap} {st : List Value} {o3 : Option Value} {vs0 : Value} {a0 : Nat} {vf1 : Value} {x1 : Int32} {v2 : Value} (hrs0 : zRf vs0 := by first | exact zRf_ref | exact zRf_null | exact zRf_rf _ | assumption) (hrf1 : zRf vf1 := by first | exact zRf_ref | exact zRf_null | exact zRf_rf _ | assumption) (hr2 : zRf v2 := by first | exact zRf_ref | exact zRf_null | exact zRf_rf _ | assumption) (hf1 : zFd G H a0 5 0 vf1) (kk : zW G d M_Al_set 21 [some (.ref a0), some (.int x1), some v2, some vs0] (v2 :: (.int x1) :: vf1 :: st) H Q) : zW G d M_Al_set 14 [some (.ref a0), some (.int x1), some v2, o3] (vs0 :: st) H Q :=
  zw_astore_n (i := 3) dAl_set_14 rfl (Nat.le_of_ble_eq_true rfl) hrs0 <| zw_aload_n (i := 0) dAl_set_15 rfl rfl zRf_ref <| zw_getf dAl_set_16 zf_Al_9 hf1 <| zw_iload_n (i := 1) dAl_set_19 rfl rfl <| zw_aload_n (i := 2) dAl_set_20 rfl rfl hr2 <| kk
theorem sAl_set_22 {G : zG} {d : Nat} {Q : Option Value → Heap → Prop} {H : Heap} {o0 : Option Value} {o1 : Option Value} {o2 : Option Value} {v3 : Value} (hr3 : zRf v3 := by first | exact zRf_ref | exact zRf_null | exact zRf_rf _ | assumption) (hq : Q (some v3) H) : zW G d M_Al_set 22 [o0, o1, o2, some v3] [] H Q :=
  zw_aload_n (i := 3) dAl_set_22 rfl rfl hr3 <| zw_aret dAl_set_23 (.object "java/lang/Object") rfl (Or.inl ⟨_, rfl⟩) hr3 hq
theorem sAl_add_0_0 {G : zG} {d : Nat} {Q : Option Value → Heap → Prop} {H : Heap} {st : List Value} {o1 : Option Value} {a0 : Nat} {xf1 : Int32} {b0 : Value} {b1 : Value} {b2 : Value} (hf1 : zFd G H a0 5 2 (.int xf1)) (ho : zObj G H a0 5 [b0, b1, b2]) (hw : zFr G a0) (kk : ∀ H1 : Heap, zObj G H1 a0 5 [b0, b1, (.int (xf1 + (1 : Int32)))] → zUp a0 H H1 → zW G d M_Al_add_0 10 [some (.ref a0), o1] st H1 Q) : zW G d M_Al_add_0 0 [some (.ref a0), o1] st H Q :=
  zw_aload_n (i := 0) dAl_add_0_0 rfl rfl zRf_ref <| zw_dup dAl_add_0_1 rfl <| zw_getf dAl_add_0_2 zf_Al_63 hf1 <| zw_iconst (1 : Int32) dAl_add_0_5 zki_1 <| zw_iadd dAl_add_0_6 <| zw_putf (k := 2) dAl_add_0_7 zp_Al_add_0_63 ho (Nat.le_of_ble_eq_true rfl) (Nat.le_of_ble_eq_true rfl) hw rfl rfl kk
theorem sAl_add_0_10 {G : zG} {d : Nat} {Q : Option Value → Heap → Prop} {H : Heap} {st : List Value} {a0 : Nat} {v1 : Value} {vf1 : Value} {xf2 : Int32} {P : Heap → Prop} (hr1 : zRf v1 := by first | exact zRf_ref | exact zRf_null | exact zRf_rf _ | assumption) (hrf1 : zRf vf1 := by first | exact zRf_ref | exact zRf_null | exact zRf_rf _ | assumption) (hf1 : zFd G H a0 5 0 vf1) (hf2 : zFd G H a0 5 1 (.int xf2)) (hd : 1 ≤ d) (hl : st.length ≤ 4) (ho : zIs G H a0 5) (hc : zC G (d - 1) M_Al_add_1 [(.ref a0), v1, vf1, (.int xf2)] H (zPv P)) (kk : ∀ H1 : Heap, P H1 → zOk G H1 → H.size ≤ H1.size → zT H ≤ zT H1 → zW G d M_Al_add_0 23 [some (.ref a0), some v1] st H1 Q) : zW G d M_Al_add_0 10 [some (.ref a0), some v1] st H Q :=
  zw_aload_n (i := 0) dAl_add_0_10 rfl rfl zRf_ref <| zw_aload_n (i := 1) dAl_add_0_11 rfl rfl hr1 <| zw_aload_n (i := 0) dAl_add_0_12 rfl rfl zRf_ref <| zw_getf dAl_add_0_13 zf_Al_9 hf1 <| zw_aload_n (i := 0) dAl_add_0_16 rfl rfl zRf_ref <| zw_getf dAl_add_0_17 zf_Al_48 hf2 <| zw_callV [v1, vf1, (.int xf2)] _ dAl_add_0_20 hd zk_Al_131 ho rfl rfl hl hc (zPv_k kk)
theorem sAl_add_0_23 {G : zG} {d : Nat} {Q : Option Value → Heap → Prop} {H : Heap} {o0 : Option Value} {o1 : Option Value} (hn : narrow .boolean (.int (1 : Int32)) = .int (1 : Int32)) (hq : Q (some (.int (1 : Int32))) H) : zW G d M_Al_add_0 23 [o0, o1] [] H Q :=
  zw_iconst (1 : Int32) dAl_add_0_23 zki_1 <| zw_iret dAl_add_0_24 .boolean rfl hn hq
theorem sAl_add_1_0 {G : zG} {d : Nat} {Q : Option Value → Heap → Prop} {H : Heap} {st : List Value} {o0 : Option Value} {o1 : Option Value} {x3 : Int32} {a2 : Nat} {n1 : Nat} {t1 : FieldType} {g1 : Nat → Value} (ha1 : zArr G H a2 t1 n1 g1) (kt : (¬ x3 = (nI n1)) → zW G d M_Al_add_1 11 [o0, o1, some (.ref a2), some (.int x3)] st H Q) (kf : (x3 = (nI n1)) → zW G d M_Al_add_1 6 [o0, o1, some (.ref a2), some (.int x3)] st H Q) : zW G d M_Al_add_1 0 [o0, o1, some (.ref a2), some (.int x3)] st H Q :=
  zw_iload_n (i := 3) dAl_add_1_0 rfl rfl <| zw_aload_n (i := 2) dAl_add_1_1 rfl rfl zRf_ref <| zw_alen dAl_add_1_2 ha1 <| zw_icmp_ne 11 dAl_add_1_3 (by decide) kt kf
theorem sAl_add_1_6 {G : zG} {d : Nat} {Q : Option Value → Heap → Prop} {H : Heap} {st : List Value} {o1 : Option Value} {o2 : Option Value} {o3 : Option Value} {a0 : Nat} {P : Value → Heap → Prop} (hd : 1 ≤ d) (hl : st.length ≤ 4) (ho : zIs G H a0 5) (hc : zC G (d - 1) M_Al_grow_0 [(.ref a0)] H (zPr P)) (kk : ∀ (r : Value) (H1 : Heap), zRf r → P r H1 → zOk G H1 → H.size ≤ H1.size → zT H ≤ zT H1 → zW G d M_Al_add_1 10 [some (.ref a0), o1, o2, o3] (r :: st) H1 Q) : zW G d M_Al_add_1 6 [some (.ref a0), o1, o2, o3] st H Q :=
  zw_aload_n (i := 0) dAl_add_1_6 rfl rfl zRf_ref <| zw_callV [] _ dAl_add_1_7 hd zk_Al_129 ho rfl rfl hl hc (zPr_k kk)
theorem sAl_add_1_10 {G : zG} {d : Nat} {Q : Option Value → Heap → Prop} {H : Heap} {st : List Value} {o0 : Option Value} {o2 : Option Value} {vs0 : Value} {x3 : Int32} {v1 : Value} (hrs0 : zRf vs0 := by first | exact zRf_ref | exact zRf_null | exact zRf_rf _ | assumption) (hr1 : zRf v1 := by first | exact zRf_ref | exact zRf_null | exact zRf_rf _ | assumption) (kk : zW G d M_Al_add_1 14 [o0, some v1, some vs0, some (.int x3)] (v1 :: (.int x3) :: vs0 :: st) H Q) : zW G d M_Al_add_1 10 [o0, some v1, o2, some (.int x3)] (vs0 :: st) H Q :=
  zw_astore_n (i := 2) dAl_add_1_10 rfl (Nat.le_of_ble_eq_true rfl) hrs0 <| zw_aload_n (i := 2) dAl_add_1_11 rfl rfl hrs0 <| zw_iload_n (i := 3) dAl_add_1_12 rfl rfl <| zw_aload_n (i := 1) dAl_add_1_13 rfl rfl hr1 <| kk
theorem sAl_add_1_11 {G : zG} {d : Nat} {Q : Option Value → Heap → Prop} {H : Heap} {st : List Value} {o0 : Option Value} {v2 : Value} {x3 : Int32} {v1 : Value} (hr2 : zRf v2 := by first | exact zRf_ref | exact zRf_null | exact zRf_rf _ | assumption) (hr1 : zRf v1 := by first | exact zRf_ref | exact zRf_null | exact zRf_rf _ | assumption) (kk : zW G d M_Al_add_1 14 [o0, some v1, some v2, some (.int x3)] (v1 :: (.int x3) :: v2 :: st) H Q) : zW G d M_Al_add_1 11 [o0, some v1, some v2, some (.int x3)] st H Q :=
  zw_aload_n (i := 2) dAl_add_1_11 rfl rfl hr2 <| zw_iload_n (i := 3) dAl_add_1_12 rfl rfl <| zw_aload_n (i := 1) dAl_add_1_13 rfl rfl hr1 <| kk
theorem sAl_add_1_15 {G : zG} {d : Nat} {Q : Option Value → Heap → Prop} {H : Heap} {st : List Value} {o1 : Option Value} {o2 : Option Value} {a0 : Nat} {x3 : Int32} {b0 : Value} {b1 : Value} {b2 : Value} (ho : zObj G H a0 5 [b0, b1, b2]) (hw : zFr G a0) (kk : ∀ H1 : Heap, zObj G H1 a0 5 [b0, (.int (x3 + (1 : Int32))), b2] → zUp a0 H H1 → zW G d M_Al_add_1 22 [some (.ref a0), o1, o2, some (.int x3)] st H1 Q) : zW G d M_Al_add_1 15 [some (.ref a0), o1, o2, some (.int x3)] st H Q :=
  zw_aload_n (i := 0) dAl_add_1_15 rfl rfl zRf_ref <| zw_iload_n (i := 3) dAl_add_1_16 rfl rfl <| zw_iconst (1 : Int32) dAl_add_1_17 zki_1 <| zw_iadd dAl_add_1_18 <| zw_putf (k := 1) dAl_add_1_19 zp_Al_add_1_48 ho (Nat.le_of_ble_eq_true rfl) (Nat.le_of_ble_eq_true rfl) hw rfl rfl kk
theorem sAl_add_1_22 {G : zG} {d : Nat} {Q : Option Value → Heap → Prop} {H : Heap} {o0 : Option Value} {o1 : Option Value} {o2 : Option Value} {o3 : Option Value} (hq : Q none H) : zW G d M_Al_add_1 22 [o0, o1, o2, o3] [] H Q :=
  zw_vret dAl_add_1_22 rfl hq
theorem sAl_grow_0_0 {G : zG} {d : Nat} {Q : Option Value → Heap → Prop} {H : Heap} {st : List Value} {a0 : Nat} {xf1 : Int32} {P : Value → Heap → Prop} (hf1 : zFd G H a0 5 1 (.int xf1)) (hd : 1 ≤ d) (hl : st.length ≤ 4) (ho : zIs G H a0 5) (hc : zC G (d - 1) M_Al_grow_1 [(.ref a0), (.int (xf1 + (1 : Int32)))] H (zPr P)) (kk : ∀ (r : Value) (H1 : Heap), zRf r → P r H1 → zOk G H1 → H.size ≤ H1.size → zT H ≤ zT H1 → zW G d M_Al_grow_0 10 [some (.ref a0)] (r :: st) H1 Q) : zW G d M_Al_grow_0 0 [some (.ref a0)] st H Q :=
  zw_aload_n (i := 0) dAl_grow_0_0 rfl rfl zRf_ref <| zw_aload_n (i := 0) dAl_grow_0_1 rfl rfl zRf_ref <| zw_getf dAl_grow_0_2 zf_Al_48 hf1 <| zw_iconst (1 : Int32) dAl_grow_0_5 zki_1 <| zw_iadd dAl_grow_0_6 <| zw_callV [(.int (xf1 + (1 : Int32)))] _ dAl_grow_0_7 hd zk_Al_69 ho rfl rfl hl hc (zPr_k kk)
theorem sAl_grow_0_10 {G : zG} {d : Nat} {Q : Option Value → Heap → Prop} {H : Heap} {o0 : Option Value} {vs0 : Value} (hrs0 : zRf vs0 := by first | exact zRf_ref | exact zRf_null | exact zRf_rf _ | assumption) (hq : Q (some vs0) H) : zW G d M_Al_grow_0 10 [o0] (vs0 :: []) H Q :=
  zw_aret dAl_grow_0_10 (.array (.object "java/lang/Object")) rfl (Or.inr ⟨_, rfl⟩) hrs0 hq
theorem sAl_grow_1_0 {G : zG} {d : Nat} {Q : Option Value → Heap → Prop} {H : Heap} {st : List Value} {o1 : Option Value} {o2 : Option Value} {o3 : Option Value} {a0 : Nat} {af1 : Nat} {n2 : Nat} {t2 : FieldType} {g2 : Nat → Value} (hf1 : zFd G H a0 5 0 (.ref af1)) (ha2 : zArr G H af1 t2 n2 g2) (kt : (0 < (nI n2)) → zW G d M_Al_grow_1 20 [some (.ref a0), o1, some (.int (nI n2)), o3] st H Q) (kf : (¬ 0 < (nI n2)) → zW G d M_Al_grow_1 10 [some (.ref a0), o1, some (.int (nI n2)), o3] st H Q) : zW G d M_Al_grow_1 0 [some (.ref a0), o1, o2, o3] st H Q :=
  zw_aload_n (i := 0) dAl_grow_1_0 rfl rfl zRf_ref <| zw_getf dAl_grow_1_1 zf_Al_9 hf1 <| zw_alen dAl_grow_1_4 ha2 <| zw_istore_n (i := 2) dAl_grow_1_5 rfl (Nat.le_of_ble_eq_true rfl) <| zw_iload_n (i := 2) dAl_grow_1_6 rfl rfl <| zw_if_gt 20 dAl_grow_1_7 (by decide) kt kf
theorem sAl_grow_1_10 {G : zG} {d : Nat} {Q : Option Value → Heap → Prop} {H : Heap} {st : List Value} {o1 : Option Value} {o2 : Option Value} {o3 : Option Value} {a0 : Nat} {vf1 : Value} {vf2 : Value} (hrf1 : zRf vf1 := by first | exact zRf_ref | exact zRf_null | exact zRf_rf _ | assumption) (hrf2 : zRf vf2 := by first | exact zRf_ref | exact zRf_null | exact zRf_rf _ | assumption) (hf1 : zFd G H a0 5 0 vf1) (hz2 : va_Z "java/util/ArrayList" "DEFAULTCAPACITY_EMPTY_ELEMENTDATA" "[Ljava/lang/Object;" vf2 (zFr G) (zS G) (zS G).heap) (kk : zW G d M_Al_grow_1 17 [some (.ref a0), o1, o2, o3] (vf2 :: vf1 :: st) H Q) : zW G d M_Al_grow_1 10 [some (.ref a0), o1, o2, o3] st H Q :=
  zw_aload_n (i := 0) dAl_grow_1_10 rfl rfl zRf_ref <| zw_getf dAl_grow_1_11 zf_Al_9 hf1 <| zw_gets dAl_grow_1_14 hz2 (zt1 174 rfl) (Or.inl rfl) <| kk
theorem sAl_grow_1_20 {G : zG} {d : Nat} {Q : Option Value → Heap → Prop} {H : Heap} {st : List Value} {o0 : Option Value} {o3 : Option Value} {x2 : Int32} {x1 : Int32} {P : Int32 → Heap → Prop} (hd : 1 ≤ d) (hl : st.length ≤ 4) (hc : zC G (d - 1) M_AS_newLength [(.int x2), (.int (x1 - x2)), (.int (x2 >>> ((1 : Int32) &&& 31)))] H (zPi P)) (kk : ∀ (r : Int32) (H1 : Heap), P r H1 → zOk G H1 → H.size ≤ H1.size → zT H ≤ zT H1 → zW G d M_Al_grow_1 30 [o0, some (.int x1), some (.int x2), o3] ((.int r) :: st) H1 Q) : zW G d M_Al_grow_1 20 [o0, some (.int x1), some (.int x2), o3] st H Q :=
  zw_iload_n (i := 2) dAl_grow_1_20 rfl rfl <| zw_iload_n (i := 1) dAl_grow_1_21 rfl rfl <| zw_iload_n (i := 2) dAl_grow_1_22 rfl rfl <| zw_isub dAl_grow_1_23 <| zw_iload_n (i := 2) dAl_grow_1_24 rfl rfl <| zw_iconst (1 : Int32) dAl_grow_1_25 zki_1 <| zw_ishr dAl_grow_1_26 <| zw_callS [(.int x2), (.int (x1 - x2)), (.int (x2 >>> ((1 : Int32) &&& 31)))] _ dAl_grow_1_27 hd zk_Al_73 rfl rfl hl hc (zPi_k kk)
theorem sAl_grow_1_30 {G : zG} {d : Nat} {Q : Option Value → Heap → Prop} {H : Heap} {st : List Value} {o1 : Option Value} {o2 : Option Value} {o3 : Option Value} {xs0 : Int32} {a0 : Nat} {vf1 : Value} {P : Value → Heap → Prop} (hrf1 : zRf vf1 := by first | exact zRf_ref | exact zRf_null | exact zRf_rf _ | assumption) (hf1 : zFd G H a0 5 0 vf1) (hd : 1 ≤ d) (hl : ((.ref a0) :: st).length ≤ 4) (hc : zC G (d - 1) M_Ar_copyOf_1 [vf1, (.int xs0)] H (zPr P)) (kk : ∀ (r : Value) (H1 : Heap), zRf r → P r H1 → zOk G H1 → H.size ≤ H1.size → zT H ≤ zT H1 → zW G d M_Al_grow_1 40 [some (.ref a0), o1, o2, some (.int xs0)] (r :: (.ref a0) :: st) H1 Q) : zW G d M_Al_grow_1 30 [some (.ref a0), o1, o2, o3] ((.int xs0) :: st) H Q :=
  zw_istore_n (i := 3) dAl_grow_1_30 rfl (Nat.le_of_ble_eq_true rfl) <| zw_aload_n (i := 0) dAl_grow_1_31 rfl rfl zRf_ref <| zw_aload_n (i := 0) dAl_grow_1_32 rfl rfl zRf_ref <| zw_getf dAl_grow_1_33 zf_Al_9 hf1 <| zw_iload_n (i := 3) dAl_grow_1_36 rfl rfl <| zw_callS [vf1, (.int xs0)] _ dAl_grow_1_37 hd zk_Al_66 rfl rfl hl hc (zPr_k kk)
theorem sAl_grow_1_40 {G : zG} {d : Nat} {Q : Option Value → Heap → Prop} {H : Heap} {st : List Value} {o0 : Option Value} {o1 : Option Value} {o2 : Option Value} {o3 : Option Value} {vs0 : Value} {as1 : Nat} {b0 : Value} {b1 : Value} {b2 : Value} (hrs0 : zRf vs0 := by first | exact zRf_ref | exact zRf_null | exact zRf_rf _ | assumption) (ho : zObj G H as1 5 [b0, b1, b2]) (hw : zFr G as1) (kk : ∀ H1 : Heap, zObj G H1 as1 5 [vs0, b1, b2] → zUp as1 H H1 → zW G d M_Al_grow_1 44 [o0, o1, o2, o3] (vs0 :: st) H1 Q) : zW G d M_Al_grow_1 40 [o0, o1, o2, o3] (vs0 :: (.ref as1) :: st) H Q :=
  zw_dup_x1 dAl_grow_1_40 hrs0.cat rfl <| zw_putf (k := 0) dAl_grow_1_41 zp_Al_grow_1_9 ho (Nat.le_of_ble_eq_true rfl) (Nat.le_of_ble_eq_true rfl) hw (zNarA hrs0) (zFitA hrs0) kk
theorem sAl_grow_1_44 {G : zG} {d : Nat} {Q : Option Value → Heap → Prop} {H : Heap} {o0 : Option Value} {o1 : Option Value} {o2 : Option Value} {o3 : Option Value} {vs0 : Value} (hrs0 : zRf vs0 := by first | exact zRf_ref | exact zRf_null | exact zRf_rf _ | assumption) (hq : Q (some vs0) H) : zW G d M_Al_grow_1 44 [o0, o1, o2, o3] (vs0 :: []) H Q :=
  zw_aret dAl_grow_1_44 (.array (.object "java/lang/Object")) rfl (Or.inr ⟨_, rfl⟩) hrs0 hq
theorem sAl_grow_1_45 {G : zG} {d : Nat} {Q : Option Value → Heap → Prop} {H : Heap} {st : List Value} {o2 : Option Value} {o3 : Option Value} {v0 : Value} {x1 : Int32} {P : Int32 → Heap → Prop} (hr0 : zRf v0 := by first | exact zRf_ref | exact zRf_null | exact zRf_rf _ | assumption) (hd : 1 ≤ d) (hl : (v0 :: st).length ≤ 4) (hc : zC G (d - 1) M_Ma_max [(.int (10 : Int32)), (.int x1)] H (zPi P)) (kk : ∀ (r : Int32) (H1 : Heap), P r H1 → zOk G H1 → H.size ≤ H1.size → zT H ≤ zT H1 → zW G d M_Al_grow_1 52 [some v0, some (.int x1), o2, o3] ((.int r) :: v0 :: st) H1 Q) : zW G d M_Al_grow_1 45 [some v0, some (.int x1), o2, o3] st H Q :=
  zw_aload_n (i := 0) dAl_grow_1_45 rfl rfl hr0 <| zw_bipush (10 : Int32) dAl_grow_1_46 zkb_10 <| zw_iload_n (i := 1) dAl_grow_1_48 rfl rfl <| zw_callS [(.int (10 : Int32)), (.int x1)] _ dAl_grow_1_49 hd zk_Al_79 rfl rfl hl hc (zPi_k kk)
theorem sAl_grow_1_55 {G : zG} {d : Nat} {Q : Option Value → Heap → Prop} {H : Heap} {st : List Value} {o0 : Option Value} {o1 : Option Value} {o2 : Option Value} {o3 : Option Value} {vs0 : Value} {as1 : Nat} {b0 : Value} {b1 : Value} {b2 : Value} (hrs0 : zRf vs0 := by first | exact zRf_ref | exact zRf_null | exact zRf_rf _ | assumption) (ho : zObj G H as1 5 [b0, b1, b2]) (hw : zFr G as1) (kk : ∀ H1 : Heap, zObj G H1 as1 5 [vs0, b1, b2] → zUp as1 H H1 → zW G d M_Al_grow_1 59 [o0, o1, o2, o3] (vs0 :: st) H1 Q) : zW G d M_Al_grow_1 55 [o0, o1, o2, o3] (vs0 :: (.ref as1) :: st) H Q :=
  zw_dup_x1 dAl_grow_1_55 hrs0.cat rfl <| zw_putf (k := 0) dAl_grow_1_56 zp_Al_grow_1_9 ho (Nat.le_of_ble_eq_true rfl) (Nat.le_of_ble_eq_true rfl) hw (zNarA hrs0) (zFitA hrs0) kk
theorem sAl_grow_1_59 {G : zG} {d : Nat} {Q : Option Value → Heap → Prop} {H : Heap} {o0 : Option Value} {o1 : Option Value} {o2 : Option Value} {o3 : Option Value} {vs0 : Value} (hrs0 : zRf vs0 := by first | exact zRf_ref | exact zRf_null | exact zRf_rf _ | assumption) (hq : Q (some vs0) H) : zW G d M_Al_grow_1 59 [o0, o1, o2, o3] (vs0 :: []) H Q :=
  zw_aret dAl_grow_1_59 (.array (.object "java/lang/Object")) rfl (Or.inr ⟨_, rfl⟩) hrs0 hq
theorem sAl_remove_0 {G : zG} {d : Nat} {Q : Option Value → Heap → Prop} {H : Heap} {st : List Value} {o2 : Option Value} {o3 : Option Value} {x1 : Int32} {a0 : Nat} {xf1 : Int32} {P : Int32 → Heap → Prop} (hf1 : zFd G H a0 5 1 (.int xf1)) (hd : 1 ≤ d) (hl : st.length ≤ 4) (hc : zC G (d - 1) M_Ob_checkIndex [(.int x1), (.int xf1)] H (zPi P)) (kk : ∀ (r : Int32) (H1 : Heap), P r H1 → zOk G H1 → H.size ≤ H1.size → zT H ≤ zT H1 → zW G d M_Al_remove 8 [some (.ref a0), some (.int x1), o2, o3] ((.int r) :: st) H1 Q) : zW G d M_Al_remove 0 [some (.ref a0), some (.int x1), o2, o3] st H Q :=
  zw_iload_n (i := 1) dAl_remove_0 rfl rfl <| zw_aload_n (i := 0) dAl_remove_1 rfl rfl zRf_ref <| zw_getf dAl_remove_2 zf_Al_48 hf1 <| zw_callS [(.int x1), (.int xf1)] _ dAl_remove_5 hd zk_Al_118 rfl rfl hl hc (zPi_k kk)
theorem sAl_remove_8 {G : zG} {d : Nat} {Q : Option Value → Heap → Prop} {H : Heap} {st : List Value} {o2 : Option Value} {o3 : Option Value} {ws0 : Value} {a0 : Nat} {af1 : Nat} {x1 : Int32} {ve2 : Value} {n2 : Nat} {g2 : Nat → Value} {t2 : FieldType} {P : Heap → Prop} (hcs0 : ws0.category = 1 := by first | rfl | exact zRf.cat (by assumption)) (hre2 : zRf ve2 := by first | exact zRf_ref | exact zRf_null | exact zRf_rf _ | assumption) (hf1 : zFd G H a0 5 0 (.ref af1)) (ht2 : t2.isReference = true) (ha2 : zArr G H af1 t2 n2 g2) (hi2 : vp_in x1 n2) (he2 : g2 (x1).toNatClampNeg = ve2) (hd : 1 ≤ d) (hl : st.length ≤ 4) (ho : zIs G H a0 5) (hc : zC G (d - 1) M_Al_fastRemove [(.ref a0), (.ref af1), (.int x1)] H (zPv P)) (kk : ∀ H1 : Heap, P H1 → zOk G H1 → H.size ≤ H1.size → zT H ≤ zT H1 → zW G d M_Al_remove 24 [some (.ref a0), some (.int x1), some (.ref af1), some ve2] st H1 Q) : zW G d M_Al_remove 8 [some (.ref a0), some (.int x1), o2, o3] (ws0 :: st) H Q :=
  zw_pop dAl_remove_8 hcs0 <| zw_aload_n (i := 0) dAl_remove_9 rfl rfl zRf_ref <| zw_getf dAl_remove_10 zf_Al_9 hf1 <| zw_astore_n (i := 2) dAl_remove_13 rfl (Nat.le_of_ble_eq_true rfl) zRf_ref <| zw_aload_n (i := 2) dAl_remove_14 rfl rfl zRf_ref <| zw_iload_n (i := 1) dAl_remove_15 rfl rfl <| zw_aaldV dAl_remove_16 ht2 ha2 hi2 he2 <| zw_astore_n (i := 3) dAl_remove_17 rfl (Nat.le_of_ble_eq_true rfl) hre2 <| zw_aload_n (i := 0) dAl_remove_18 rfl rfl zRf_ref <| zw_aload_n (i := 2) dAl_remove_19 rfl rfl zRf_ref <| zw_iload_n (i := 1) dAl_remove_20 rfl rfl <| zw_callV [(.ref af1), (.int x1)] _ dAl_remove_21 hd zk_Al_144 ho rfl rfl hl hc (zPv_k kk)
theorem sAl_remove_24 {G : zG} {d : Nat} {Q : Option Value → Heap → Prop} {H : Heap} {o0 : Option Value} {o1 : Option Value} {o2 : Option Value} {v3 : Value} (hr3 : zRf v3 := by first | exact zRf_ref | exact zRf_null | exact zRf_rf _ | assumption) (hq : Q (some v3) H) : zW G d M_Al_remove 24 [o0, o1, o2, some v3] [] H Q :=
  zw_aload_n (i := 3) dAl_remove_24 rfl rfl hr3 <| zw_aret dAl_remove_25 (.object "java/lang/Object") rfl (Or.inl ⟨_, rfl⟩) hr3 hq
theorem sAl_fastRemove_0 {G : zG} {d : Nat} {Q : Option Value → Heap → Prop} {H : Heap} {st : List Value} {o1 : Option Value} {o2 : Option Value} {o3 : Option Value} {a0 : Nat} {xf1 : Int32} {b0 : Value} {b1 : Value} {b2 : Value} (hf1 : zFd G H a0 5 2 (.int xf1)) (ho : zObj G H a0 5 [b0, b1, b2]) (hw : zFr G a0) (kk : ∀ H1 : Heap, zObj G H1 a0 5 [b0, b1, (.int (xf1 + (1 : Int32)))] → zUp a0 H H1 → zW G d M_Al_fastRemove 10 [some (.ref a0), o1, o2, o3] st H1 Q) : zW G d M_Al_fastRemove 0 [some (.ref a0), o1, o2, o3] st H Q :=
  zw_aload_n (i := 0) dAl_fastRemove_0 rfl rfl zRf_ref <| zw_dup dAl_fastRemove_1 rfl <| zw_getf dAl_fastRemove_2 zf_Al_63 hf1 <| zw_iconst (1 : Int32) dAl_fastRemove_5 zki_1 <| zw_iadd dAl_fastRemove_6 <| zw_putf (k := 2) dAl_fastRemove_7 zp_Al_fastRemove_63 ho (Nat.le_of_ble_eq_true rfl) (Nat.le_of_ble_eq_true rfl) hw rfl rfl kk
theorem sAl_fastRemove_10 {G : zG} {d : Nat} {Q : Option Value → Heap → Prop} {H : Heap} {st : List Value} {o1 : Option Value} {o3 : Option Value} {a0 : Nat} {xf1 : Int32} {x2 : Int32} (hf1 : zFd G H a0 5 1 (.int xf1)) (kt : ((xf1 - (1 : Int32)) ≤ x2) → zW G d M_Al_fastRemove 34 [some (.ref a0), o1, some (.int x2), some (.int (xf1 - (1 : Int32)))] st H Q) (kf : (¬ (xf1 - (1 : Int32)) ≤ x2) → zW G d M_Al_fastRemove 22 [some (.ref a0), o1, some (.int x2), some (.int (xf1 - (1 : Int32)))] st H Q) : zW G d M_Al_fastRemove 10 [some (.ref a0), o1, some (.int x2), o3] st H Q :=
  zw_aload_n (i := 0) dAl_fastRemove_10 rfl rfl zRf_ref <| zw_getf dAl_fastRemove_11 zf_Al_48 hf1 <| zw_iconst (1 : Int32) dAl_fastRemove_14 zki_1 <| zw_isub dAl_fastRemove_15 <| zw_dup dAl_fastRemove_16 rfl <| zw_istore_n (i := 3) dAl_fastRemove_17 rfl (Nat.le_of_ble_eq_true rfl) <| zw_iload_n (i := 2) dAl_fastRemove_18 rfl rfl <| zw_icmp_le 34 dAl_fastRemove_19 (by decide) kt kf
theorem sAl_fastRemove_22 {G : zG} {d : Nat} {Q : Option Value → Heap → Prop} {H : Heap} {st : List Value} {o0 : Option Value} {v1 : Value} {x2 : Int32} {x3 : Int32} (hr1 : zRf v1 := by first | exact zRf_ref | exact zRf_null | exact zRf_rf _ | assumption) (kk : zW G d M_Al_fastRemove 31 [o0, some v1, some (.int x2), some (.int x3)] ((.int (x3 - x2)) :: (.int x2) :: v1 :: (.int (x2 + (1 : Int32))) :: v1 :: st) H Q) : zW G d M_Al_fastRemove 22 [o0, some v1, some (.int x2), some (.int x3)] st H Q :=
  zw_aload_n (i := 1) dAl_fastRemove_22 rfl rfl hr1 <| zw_iload_n (i := 2) dAl_fastRemove_23 rfl rfl <| zw_iconst (1 : Int32) dAl_fastRemove_24 zki_1 <| zw_iadd dAl_fastRemove_25 <| zw_aload_n (i := 1) dAl_fastRemove_26 rfl rfl hr1 <| zw_iload_n (i := 2) dAl_fastRemove_27 rfl rfl <| zw_iload_n (i := 3) dAl_fastRemove_28 rfl rfl <| zw_iload_n (i := 2) dAl_fastRemove_29 rfl rfl <| zw_isub dAl_fastRemove_30 <| kk
theorem sAl_fastRemove_34 {G : zG} {d : Nat} {Q : Option Value → Heap → Prop} {H : Heap} {st : List Value} {o2 : Option Value} {v1 : Value} {a0 : Nat} {x3 : Int32} {b0 : Value} {b1 : Value} {b2 : Value} (hr1 : zRf v1 := by first | exact zRf_ref | exact zRf_null | exact zRf_rf _ | assumption) (ho : zObj G H a0 5 [b0, b1, b2]) (hw : zFr G a0) (kk : ∀ H1 : Heap, zObj G H1 a0 5 [b0, (.int x3), b2] → zUp a0 H H1 → zW G d M_Al_fastRemove 41 [some (.ref a0), some v1, o2, some (.int x3)] ((.int x3) :: v1 :: st) H1 Q) : zW G d M_Al_fastRemove 34 [some (.ref a0), some v1, o2, some (.int x3)] st H Q :=
  zw_aload_n (i := 1) dAl_fastRemove_34 rfl rfl hr1 <| zw_aload_n (i := 0) dAl_fastRemove_35 rfl rfl zRf_ref <| zw_iload_n (i := 3) dAl_fastRemove_36 rfl rfl <| zw_dup_x1 dAl_fastRemove_37 rfl rfl <| zw_putf (k := 1) dAl_fastRemove_38 zp_Al_fastRemove_48 ho (Nat.le_of_ble_eq_true rfl) (Nat.le_of_ble_eq_true rfl) hw rfl rfl kk
theorem sAl_fastRemove_41 {G : zG} {d : Nat} {Q : Option Value → Heap → Prop} {H : Heap} {st : List Value} {o0 : Option Value} {o1 : Option Value} {o2 : Option Value} {o3 : Option Value} (kk : zW G d M_Al_fastRemove 42 [o0, o1, o2, o3] (.null :: st) H Q) : zW G d M_Al_fastRemove 41 [o0, o1, o2, o3] st H Q :=
  zw_null dAl_fastRemove_41 <| kk
theorem sAl_fastRemove_43 {G : zG} {d : Nat} {Q : Option Value → Heap → Prop} {H : Heap} {o0 : Option Value} {o1 : Option Value} {o2 : Option Value} {o3 : Option Value} (hq : Q none H) : zW G d M_Al_fastRemove 43 [o0, o1, o2, o3] [] H Q :=
  zw_vret dAl_fastRemove_43 rfl hq
end
section
theorem dAS_newLength_0 : decode prog_34_method_27_code 0 = .ok (.iload_n 0, 1) := by decide +kernel
theorem dAS_newLength_1 : decode prog_34_method_27_code 1 = .ok (.iload_n 1, 1) := by decide +kernel
theorem dAS_newLength_2 : decode prog_34_method_27_code 2 = .ok (.iload_n 2, 1) := by decide +kernel
theorem dAS_newLength_3 : decode prog_34_method_27_code 3 = .ok (.invokestatic 194, 3) := by decide +kernel
theorem dAS_newLength_6 : decode prog_34_method_27_code 6 = .ok (.iadd, 1) := by decide +kernel
theorem dAS_newLength_7 : decode prog_34_method_27_code 7 = .ok (.istore_n 3, 1) := by decide +kernel
theorem dAS_newLength_8 : decode prog_34_method_27_code 8 = .ok (.iconst 0, 1) := by decide +kernel
theorem dAS_newLength_9 : decode prog_34_method_27_code 9 = .ok (.iload_n 3, 1) := by decide +kernel
theorem dAS_newLength_10 : decode prog_34_method_27_code 10 = .ok (.if_icmp .ge 11, 3) := by decide +kernel
theorem dAS_newLength_13 : decode prog_34_method_27_code 13 = .ok (.iload_n 3, 1) := by decide +kernel
theorem dAS_newLength_14 : decode prog_34_method_27_code 14 = .ok (.ldc 200, 2) := by decide +kernel
theorem dAS_newLength_16 : decode prog_34_method_27_code 16 = .ok (.if_icmp .gt 5, 3) := by decide +kernel
theorem dAS_newLength_19 : decode prog_34_method_27_code 19 = .ok (.iload_n 3, 1) := by decide +kernel
theorem dAS_newLength_20 : decode prog_34_method_27_code 20 = .ok (.ireturn, 1) := by decide +kernel
theorem dAS_newLength_21 : decode prog_34_method_27_code 21 = .ok (.iload_n 0, 1) := by decide +kernel
theorem dAS_newLength_22 : decode prog_34_method_27_code 22 = .ok (.iload_n 1, 1) := by decide +kernel
theorem dAS_newLength_23 : decode prog_34_method_27_code 23 = .ok (.invokestatic 201, 3) := by decide +kernel
theorem dAS_newLength_26 : decode prog_34_method_27_code 26 = .ok (.ireturn, 1) := by decide +kernel
theorem dMa_max_0 : decode prog_19_method_65_code 0 = .ok (.iload_n 0, 1) := by decide +kernel
theorem dMa_max_1 : decode prog_19_method_65_code 1 = .ok (.iload_n 1, 1) := by decide +kernel
theorem dMa_max_2 : decode prog_19_method_65_code 2 = .ok (.if_icmp .lt 7, 3) := by decide +kernel
theorem dMa_max_5 : decode prog_19_method_65_code 5 = .ok (.iload_n 0, 1) := by decide +kernel
theorem dMa_max_6 : decode prog_19_method_65_code 6 = .ok (.goto 4, 3) := by decide +kernel
theorem dMa_max_9 : decode prog_19_method_65_code 9 = .ok (.iload_n 1, 1) := by decide +kernel
theorem dMa_max_10 : decode prog_19_method_65_code 10 = .ok (.ireturn, 1) := by decide +kernel
theorem dAS_hugeLength_0 : decode prog_34_method_28_code 0 = .ok (.iload_n 0, 1) := by decide +kernel
theorem dAS_hugeLength_1 : decode prog_34_method_28_code 1 = .ok (.iload_n 1, 1) := by decide +kernel
theorem dAS_hugeLength_2 : decode prog_34_method_28_code 2 = .ok (.iadd, 1) := by decide +kernel
theorem dAS_hugeLength_3 : decode prog_34_method_28_code 3 = .ok (.istore_n 2, 1) := by decide +kernel
theorem dAS_hugeLength_4 : decode prog_34_method_28_code 4 = .ok (.iload_n 2, 1) := by decide +kernel
theorem dAS_hugeLength_5 : decode prog_34_method_28_code 5 = .ok (.ifCond .ge 44, 3) := by decide +kernel
theorem dAS_hugeLength_11 : decode prog_34_method_28_code 11 = .ok (.dup, 1) := by decide +kernel
theorem dAS_hugeLength_15 : decode prog_34_method_28_code 15 = .ok (.dup, 1) := by decide +kernel
theorem dAS_hugeLength_24 : decode prog_34_method_28_code 24 = .ok (.iload_n 0, 1) := by decide +kernel
theorem dAS_hugeLength_33 : decode prog_34_method_28_code 33 = .ok (.iload_n 1, 1) := by decide +kernel
theorem dAS_hugeLength_49 : decode prog_34_method_28_code 49 = .ok (.iload_n 2, 1) := by decide +kernel
theorem dAS_hugeLength_50 : decode prog_34_method_28_code 50 = .ok (.ldc 200, 2) := by decide +kernel
theorem dAS_hugeLength_52 : decode prog_34_method_28_code 52 = .ok (.if_icmp .gt 6, 3) := by decide +kernel
theorem dAS_hugeLength_55 : decode prog_34_method_28_code 55 = .ok (.ldc 200, 2) := by decide +kernel
theorem dAS_hugeLength_57 : decode prog_34_method_28_code 57 = .ok (.ireturn, 1) := by decide +kernel
theorem dAS_hugeLength_58 : decode prog_34_method_28_code 58 = .ok (.iload_n 2, 1) := by decide +kernel
theorem dAS_hugeLength_59 : decode prog_34_method_28_code 59 = .ok (.ireturn, 1) := by decide +kernel
theorem dAr_copyOf_0_0 : decode prog_28_method_121_code 0 = .ok (.iload_n 1, 1) := by decide +kernel
theorem dAr_copyOf_0_1 : decode prog_28_method_121_code 1 = .ok (.aload_n 0, 1) := by decide +kernel
theorem dAr_copyOf_0_2 : decode prog_28_method_121_code 2 = .ok (.arraylength, 1) := by decide +kernel
theorem dAr_copyOf_0_3 : decode prog_28_method_121_code 3 = .ok (.if_icmp .ne 11, 3) := by decide +kernel
theorem dAr_copyOf_0_6 : decode prog_28_method_121_code 6 = .ok (.aload_n 0, 1) := by decide +kernel
theorem dAr_copyOf_0_7 : decode prog_28_method_121_code 7 = .ok (.invokevirtual 310, 3) := by decide +kernel
theorem dAr_copyOf_0_10 : decode prog_28_method_121_code 10 = .ok (.checkcast 311, 3) := by decide +kernel
theorem dAr_copyOf_0_13 : decode prog_28_method_121_code 13 = .ok (.areturn, 1) := by decide +kernel
theorem dAr_copyOf_0_14 : decode prog_28_method_121_code 14 = .ok (.iload_n 1, 1) := by decide +kernel
theorem dAr_copyOf_0_15 : decode prog_28_method_121_code 15 = .ok (.newarray .byte, 2) := by decide +kernel
theorem dAr_copyOf_0_17 : decode prog_28_method_121_code 17 = .ok (.astore_n 2, 1) := by decide +kernel
theorem dAr_copyOf_0_18 : decode prog_28_method_121_code 18 = .ok (.aload_n 0, 1) := by decide +kernel
theorem dAr_copyOf_0_19 : decode prog_28_method_121_code 19 = .ok (.iconst 0, 1) := by decide +kernel
theorem dAr_copyOf_0_20 : decode prog_28_method_121_code 20 = .ok (.aload_n 2, 1) := by decide +kernel
theorem dAr_copyOf_0_21 : decode prog_28_method_121_code 21 = .ok (.iconst 0, 1) := by decide +kernel
theorem dAr_copyOf_0_22 : decode prog_28_method_121_code 22 = .ok (.aload_n 0, 1) := by decide +kernel
theorem dAr_copyOf_0_23 : decode prog_28_method_121_code 23 = .ok (.arraylength, 1) := by decide +kernel
theorem dAr_copyOf_0_24 : decode prog_28_method_121_code 24 = .ok (.iload_n 1, 1) := by decide +kernel
theorem dAr_copyOf_0_25 : decode prog_28_method_121_code 25 = .ok (.invokestatic 304, 3) := by decide +kernel
theorem dAr_copyOf_0_28 : decode prog_28_method_121_code 28 = .ok (.invokestatic 150, 3) := by decide +kernel
theorem dAr_copyOf_0_31 : decode prog_28_method_121_code 31 = .ok (.aload_n 2, 1) := by decide +kernel
theorem dAr_copyOf_0_32 : decode prog_28_method_121_code 32 = .ok (.areturn, 1) := by decide +kernel
theorem dMa_min_0 : decode prog_19_method_69_code 0 = .ok (.iload_n 0, 1) := by decide +kernel
theorem dMa_min_1 : decode prog_19_method_69_code 1 = .ok (.iload_n 1, 1) := by decide +kernel
theorem dMa_min_2 : decode prog_19_method_69_code 2 = .ok (.if_icmp .gt 7, 3) := by decide +kernel
theorem dMa_min_5 : decode prog_19_method_69_code 5 = .ok (.iload_n 0, 1) := by decide +kernel
theorem dMa_min_6 : decode prog_19_method_69_code 6 = .ok (.goto 4, 3) := by decide +kernel
theorem dMa_min_9 : decode prog_19_method_69_code 9 = .ok (.iload_n 1, 1) := by decide +kernel
theorem dMa_min_10 : decode prog_19_method_69_code 10 = .ok (.ireturn, 1) := by decide +kernel
theorem dAr_fill_0 : decode prog_28_method_110_code 0 = .ok (.aload_n 0, 1) := by decide +kernel
theorem dAr_fill_1 : decode prog_28_method_110_code 1 = .ok (.arraylength, 1) := by decide +kernel
theorem dAr_fill_2 : decode prog_28_method_110_code 2 = .ok (.iload_n 1, 1) := by decide +kernel
theorem dAr_fill_3 : decode prog_28_method_110_code 3 = .ok (.iload_n 2, 1) := by decide +kernel
theorem dAr_fill_4 : decode prog_28_method_110_code 4 = .ok (.invokestatic 13, 3) := by decide +kernel
theorem dAr_fill_7 : decode prog_28_method_110_code 7 = .ok (.iload_n 1, 1) := by decide +kernel
theorem dAr_fill_8 : decode prog_28_method_110_code 8 = .ok (.istore 4, 2) := by decide +kernel
theorem dAr_fill_10 : decode prog_28_method_110_code 10 = .ok (.iload 4, 2) := by decide +kernel
theorem dAr_fill_12 : decode prog_28_method_110_code 12 = .ok (.iload_n 2, 1) := by decide +kernel
theorem dAr_fill_13 : decode prog_28_method_110_code 13 = .ok (.if_icmp .ge 14, 3) := by decide +kernel
theorem dAr_fill_16 : decode prog_28_method_110_code 16 = .ok (.aload_n 0, 1) := by decide +kernel
theorem dAr_fill_17 : decode prog_28_method_110_code 17 = .ok (.iload 4, 2) := by decide +kernel
theorem dAr_fill_19 : decode prog_28_method_110_code 19 = .ok (.iload_n 3, 1) := by decide +kernel
theorem dAr_fill_20 : decode prog_28_method_110_code 20 = .ok (.bastore, 1) := by decide +kernel
theorem dAr_fill_21 : decode prog_28_method_110_code 21 = .ok (.iinc 4 1, 3) := by decide +kernel
theorem dAr_fill_24 : decode prog_28_method_110_code 24 = .ok (.goto (-14), 3) := by decide +kernel
theorem dAr_fill_27 : decode prog_28_method_110_code 27 = .ok (.return_, 1) := by decide +kernel
theorem dAr_rangeCheck_0 : decode prog_28_method_30_code 0 = .ok (.iload_n 1, 1) := by decide +kernel
theorem dAr_rangeCheck_1 : decode prog_28_method_30_code 1 = .ok (.iload_n 2, 1) := by decide +kernel
theorem dAr_rangeCheck_2 : decode prog_28_method_30_code 2 = .ok (.if_icmp .le 44, 3) := by decide +kernel
theorem dAr_rangeCheck_5 : decode prog_28_method_30_code 5 = .ok (.new 43, 3) := by decide +kernel
theorem dAr_rangeCheck_8 : decode prog_28_method_30_code 8 = .ok (.dup, 1) := by decide +kernel
theorem dAr_rangeCheck_9 : decode prog_28_method_30_code 9 = .ok (.new 45, 3) := by decide +kernel
theorem dAr_rangeCheck_12 : decode prog_28_method_30_code 12 = .ok (.dup, 1) := by decide +kernel
theorem dAr_rangeCheck_13 : decode prog_28_method_30_code 13 = .ok (.invokespecial 47, 3) := by decide +kernel
theorem dAr_rangeCheck_16 : decode prog_28_method_30_code 16 = .ok (.ldc 48, 2) := by decide +kernel
theorem dAr_rangeCheck_18 : decode prog_28_method_30_code 18 = .ok (.invokevirtual 50, 3) := by decide +kernel
theorem dAr_rangeCheck_21 : decode prog_28_method_30_code 21 = .ok (.iload_n 1, 1) := by decide +kernel
theorem dAr_rangeCheck_22 : decode prog_28_method_30_code 22 = .ok (.invokevirtual 54, 3) := by decide +kernel
theorem dAr_rangeCheck_25 : decode prog_28_method_30_code 25 = .ok (.ldc 57, 2) := by decide +kernel
theorem dAr_rangeCheck_27 : decode prog_28_method_30_code 27 = .ok (.invokevirtual 50, 3) := by decide +kernel
theorem dAr_rangeCheck_30 : decode prog_28_method_30_code 30 = .ok (.iload_n 2, 1) := by decide +kernel
theorem dAr_rangeCheck_31 : decode prog_28_method_30_code 31 = .ok (.invokevirtual 54, 3) := by decide +kernel
theorem dAr_rangeCheck_34 : decode prog_28_method_30_code 34 = .ok (.ldc 59, 2) := by decide +kernel
theorem dAr_rangeCheck_36 : decode prog_28_method_30_code 36 = .ok (.invokevirtual 50, 3) := by decide +kernel
theorem dAr_rangeCheck_39 : decode prog_28_method_30_code 39 = .ok (.invokevirtual 61, 3) := by decide +kernel
theorem dAr_rangeCheck_42 : decode prog_28_method_30_code 42 = .ok (.invokespecial 65, 3) := by decide +kernel
theorem dAr_rangeCheck_45 : decode prog_28_method_30_code 45 = .ok (.athrow, 1) := by decide +kernel
theorem dAr_rangeCheck_46 : decode prog_28_method_30_code 46 = .ok (.iload_n 1, 1) := by decide +kernel
theorem dAr_rangeCheck_47 : decode prog_28_method_30_code 47 = .ok (.ifCond .ge 12, 3) := by decide +kernel
theorem dAr_rangeCheck_50 : decode prog_28_method_30_code 50 = .ok (.new 68, 3) := by decide +kernel
theorem dAr_rangeCheck_53 : decode prog_28_method_30_code 53 = .ok (.dup, 1) := by decide +kernel
theorem dAr_rangeCheck_54 : decode prog_28_method_30_code 54 = .ok (.iload_n 1, 1) := by decide +kernel
theorem dAr_rangeCheck_55 : decode prog_28_method_30_code 55 = .ok (.invokespecial 70, 3) := by decide +kernel
theorem dAr_rangeCheck_58 : decode prog_28_method_30_code 58 = .ok (.athrow, 1) := by decide +kernel
theorem dAr_rangeCheck_59 : decode prog_28_method_30_code 59 = .ok (.iload_n 2, 1) := by decide +kernel
theorem dAr_rangeCheck_60 : decode prog_28_method_30_code 60 = .ok (.iload_n 0, 1) := by decide +kernel
theorem dAr_rangeCheck_61 : decode prog_28_method_30_code 61 = .ok (.if_icmp .le 12, 3) := by decide +kernel
theorem dAr_rangeCheck_64 : decode prog_28_method_30_code 64 = .ok (.new 68, 3) := by decide +kernel
theorem dAr_rangeCheck_67 : decode prog_28_method_30_code 67 = .ok (.dup, 1) := by decide +kernel
theorem dAr_rangeCheck_68 : decode prog_28_method_30_code 68 = .ok (.iload_n 2, 1) := by decide +kernel
theorem dAr_rangeCheck_69 : decode prog_28_method_30_code 69 = .ok (.invokespecial 70, 3) := by decide +kernel
theorem dAr_rangeCheck_72 : decode prog_28_method_30_code 72 = .ok (.athrow, 1) := by decide +kernel
theorem dAr_rangeCheck_73 : decode prog_28_method_30_code 73 = .ok (.return_, 1) := by decide +kernel
theorem dAr_copyOfRange_0 : decode prog_28_method_132_code 0 = .ok (.iload_n 1, 1) := by decide +kernel
theorem dAr_copyOfRange_1 : decode prog_28_method_132_code 1 = .ok (.ifCond .ne 9, 3) := by decide +kernel
theorem dAr_copyOfRange_4 : decode prog_28_method_132_code 4 = .ok (.iload_n 2, 1) := by decide +kernel
theorem dAr_copyOfRange_5 : decode prog_28_method_132_code 5 = .ok (.aload_n 0, 1) := by decide +kernel
theorem dAr_copyOfRange_6 : decode prog_28_method_132_code 6 = .ok (.arraylength, 1) := by decide +kernel
theorem dAr_copyOfRange_7 : decode prog_28_method_132_code 7 = .ok (.if_icmp .eq 10, 3) := by decide +kernel
theorem dAr_copyOfRange_10 : decode prog_28_method_132_code 10 = .ok (.aload_n 0, 1) := by decide +kernel
theorem dAr_copyOfRange_11 : decode prog_28_method_132_code 11 = .ok (.iload_n 1, 1) := by decide +kernel
theorem dAr_copyOfRange_12 : decode prog_28_method_132_code 12 = .ok (.iload_n 2, 1) := by decide +kernel
theorem dAr_copyOfRange_13 : decode prog_28_method_132_code 13 = .ok (.invokestatic 339, 3) := by decide +kernel
theorem dAr_copyOfRange_16 : decode prog_28_method_132_code 16 = .ok (.areturn, 1) := by decide +kernel
theorem dAr_copyOfRange_17 : decode prog_28_method_132_code 17 = .ok (.aload_n 0, 1) := by decide +kernel
theorem dAr_copyOfRange_18 : decode prog_28_method_132_code 18 = .ok (.invokevirtual 310, 3) := by decide +kernel
theorem dAr_copyOfRange_21 : decode prog_28_method_132_code 21 = .ok (.checkcast 311, 3) := by decide +kernel
theorem dAr_copyOfRange_24 : decode prog_28_method_132_code 24 = .ok (.areturn, 1) := by decide +kernel
theorem dAr_copyOfRangeByte_0 : decode prog_28_method_133_code 0 = .ok (.iload_n 1, 1) := by decide +kernel
theorem dAr_copyOfRangeByte_1 : decode prog_28_method_133_code 1 = .ok (.iload_n 2, 1) := by decide +kernel
theorem dAr_copyOfRangeByte_2 : decode prog_28_method_133_code 2 = .ok (.invokestatic 343, 3) := by decide +kernel
theorem dAr_copyOfRangeByte_5 : decode prog_28_method_133_code 5 = .ok (.iload_n 2, 1) := by decide +kernel
theorem dAr_copyOfRangeByte_6 : decode prog_28_method_133_code 6 = .ok (.iload_n 1, 1) := by decide +kernel
theorem dAr_copyOfRangeByte_7 : decode prog_28_method_133_code 7 = .ok (.isub, 1) := by decide +kernel
theorem dAr_copyOfRangeByte_8 : decode prog_28_method_133_code 8 = .ok (.istore_n 3, 1) := by decide +kernel
theorem dAr_copyOfRangeByte_9 : decode prog_28_method_133_code 9 = .ok (.iload_n 3, 1) := by decide +kernel
theorem dAr_copyOfRangeByte_10 : decode prog_28_method_133_code 10 = .ok (.newarray .byte, 2) := by decide +kernel
theorem dAr_copyOfRangeByte_12 : decode prog_28_method_133_code 12 = .ok (.astore 4, 2) := by decide +kernel
theorem dAr_copyOfRangeByte_14 : decode prog_28_method_133_code 14 = .ok (.aload_n 0, 1) := by decide +kernel
theorem dAr_copyOfRangeByte_15 : decode prog_28_method_133_code 15 = .ok (.iload_n 1, 1) := by decide +kernel
theorem dAr_copyOfRangeByte_16 : decode prog_28_method_133_code 16 = .ok (.aload 4, 2) := by decide +kernel
theorem dAr_copyOfRangeByte_18 : decode prog_28_method_133_code 18 = .ok (.iconst 0, 1) := by decide +kernel
theorem dAr_copyOfRangeByte_19 : decode prog_28_method_133_code 19 = .ok (.aload_n 0, 1) := by decide +kernel
theorem dAr_copyOfRangeByte_20 : decode prog_28_method_133_code 20 = .ok (.arraylength, 1) := by decide +kernel
theorem dAr_copyOfRangeByte_21 : decode prog_28_method_133_code 21 = .ok (.iload_n 1, 1) := by decide +kernel
theorem dAr_copyOfRangeByte_22 : decode prog_28_method_133_code 22 = .ok (.isub, 1) := by decide +kernel
theorem dAr_copyOfRangeByte_23 : decode prog_28_method_133_code 23 = .ok (.iload_n 3, 1) := by decide +kernel
theorem dAr_copyOfRangeByte_24 : decode prog_28_method_133_code 24 = .ok (.invokestatic 304, 3) := by decide +kernel
theorem dAr_copyOfRangeByte_27 : decode prog_28_method_133_code 27 = .ok (.invokestatic 150, 3) := by decide +kernel
theorem dAr_copyOfRangeByte_30 : decode prog_28_method_133_code 30 = .ok (.aload 4, 2) := by decide +kernel
theorem dAr_copyOfRangeByte_32 : decode prog_28_method_133_code 32 = .ok (.areturn, 1) := by decide +kernel
theorem dAr_checkLength_0 : decode prog_28_method_131_code 0 = .ok (.iload_n 1, 1) := by decide +kernel
theorem dAr_checkLength_1 : decode prog_28_method_131_code 1 = .ok (.iload_n 0, 1) := by decide +kernel
theorem dAr_checkLength_2 : decode prog_28_method_131_code 2 = .ok (.if_icmp .ge 35, 3) := by decide +kernel
theorem dAr_checkLength_5 : decode prog_28_method_131_code 5 = .ok (.new 43, 3) := by decide +kernel
theorem dAr_checkLength_8 : decode prog_28_method_131_code 8 = .ok (.dup, 1) := by decide +kernel
theorem dAr_checkLength_9 : decode prog_28_method_131_code 9 = .ok (.new 45, 3) := by decide +kernel
theorem dAr_checkLength_12 : decode prog_28_method_131_code 12 = .ok (.dup, 1) := by decide +kernel
theorem dAr_checkLength_13 : decode prog_28_method_131_code 13 = .ok (.invokespecial 47, 3) := by decide +kernel
theorem dAr_checkLength_16 : decode prog_28_method_131_code 16 = .ok (.iload_n 0, 1) := by decide +kernel
theorem dAr_checkLength_17 : decode prog_28_method_131_code 17 = .ok (.invokevirtual 54, 3) := by decide +kernel
theorem dAr_checkLength_20 : decode prog_28_method_131_code 20 = .ok (.ldc_w 337, 3) := by decide +kernel
theorem dAr_checkLength_23 : decode prog_28_method_131_code 23 = .ok (.invokevirtual 50, 3) := by decide +kernel
theorem dAr_checkLength_26 : decode prog_28_method_131_code 26 = .ok (.iload_n 1, 1) := by decide +kernel
theorem dAr_checkLength_27 : decode prog_28_method_131_code 27 = .ok (.invokevirtual 54, 3) := by decide +kernel
theorem dAr_checkLength_30 : decode prog_28_method_131_code 30 = .ok (.invokevirtual 61, 3) := by decide +kernel
theorem dAr_checkLength_33 : decode prog_28_method_131_code 33 = .ok (.invokespecial 65, 3) := by decide +kernel
theorem dAr_checkLength_36 : decode prog_28_method_131_code 36 = .ok (.athrow, 1) := by decide +kernel
theorem dAr_checkLength_37 : decode prog_28_method_131_code 37 = .ok (.return_, 1) := by decide +kernel
theorem dAr_copyOf_1_0 : decode prog_28_method_119_code 0 = .ok (.aload_n 0, 1) := by decide +kernel
theorem dAr_copyOf_1_1 : decode prog_28_method_119_code 1 = .ok (.iload_n 1, 1) := by decide +kernel
theorem dAr_copyOf_1_2 : decode prog_28_method_119_code 2 = .ok (.aload_n 0, 1) := by decide +kernel
theorem dAr_copyOf_1_3 : decode prog_28_method_119_code 3 = .ok (.invokevirtual 86, 3) := by decide +kernel
theorem dAr_copyOf_1_6 : decode prog_28_method_119_code 6 = .ok (.invokestatic 300, 3) := by decide +kernel
theorem dAr_copyOf_1_9 : decode prog_28_method_119_code 9 = .ok (.areturn, 1) := by decide +kernel
theorem dAr_copyOf_2_0 : decode prog_28_method_120_code 0 = .ok (.aload_n 2, 1) := by decide +kernel
theorem dAr_copyOf_2_1 : decode prog_28_method_120_code 1 = .ok (.ldc 110, 2) := by decide +kernel
theorem dAr_copyOf_2_3 : decode prog_28_method_120_code 3 = .ok (.if_acmp .ne 10, 3) := by decide +kernel
theorem dAr_copyOf_2_6 : decode prog_28_method_120_code 6 = .ok (.iload_n 1, 1) := by decide +kernel
theorem dAr_copyOf_2_7 : decode prog_28_method_120_code 7 = .ok (.anewarray 2, 3) := by decide +kernel
theorem dAr_copyOf_2_10 : decode prog_28_method_120_code 10 = .ok (.goto 14, 3) := by decide +kernel
theorem dAr_copyOf_2_13 : decode prog_28_method_120_code 13 = .ok (.aload_n 2, 1) := by decide +kernel
theorem dAr_copyOf_2_14 : decode prog_28_method_120_code 14 = .ok (.invokevirtual 90, 3) := by decide +kernel
theorem dAr_copyOf_2_17 : decode prog_28_method_120_code 17 = .ok (.iload_n 1, 1) := by decide +kernel
theorem dAr_copyOf_2_18 : decode prog_28_method_120_code 18 = .ok (.invokestatic 95, 3) := by decide +kernel
theorem dAr_copyOf_2_21 : decode prog_28_method_120_code 21 = .ok (.checkcast 110, 3) := by decide +kernel
theorem dAr_copyOf_2_24 : decode prog_28_method_120_code 24 = .ok (.astore_n 3, 1) := by decide +kernel
theorem dAr_copyOf_2_25 : decode prog_28_method_120_code 25 = .ok (.aload_n 0, 1) := by decide +kernel
theorem dAr_copyOf_2_26 : decode prog_28_method_120_code 26 = .ok (.iconst 0, 1) := by decide +kernel
theorem dAr_copyOf_2_27 : decode prog_28_method_120_code 27 = .ok (.aload_n 3, 1) := by decide +kernel
theorem dAr_copyOf_2_28 : decode prog_28_method_120_code 28 = .ok (.iconst 0, 1) := by decide +kernel
theorem dAr_copyOf_2_29 : decode prog_28_method_120_code 29 = .ok (.aload_n 0, 1) := by decide +kernel
theorem dAr_copyOf_2_30 : decode prog_28_method_120_code 30 = .ok (.arraylength, 1) := by decide +kernel
theorem dAr_copyOf_2_31 : decode prog_28_method_120_code 31 = .ok (.iload_n 1, 1) := by decide +kernel
theorem dAr_copyOf_2_32 : decode prog_28_method_120_code 32 = .ok (.invokestatic 304, 3) := by decide +kernel
theorem dAr_copyOf_2_35 : decode prog_28_method_120_code 35 = .ok (.invokestatic 150, 3) := by decide +kernel
theorem dAr_copyOf_2_38 : decode prog_28_method_120_code 38 = .ok (.aload_n 3, 1) := by decide +kernel
theorem dAr_copyOf_2_39 : decode prog_28_method_120_code 39 = .ok (.areturn, 1) := by decide +kernel
theorem zk_AS_194 : zLkS "jdk/internal/util/ArraysSupport" 194 M_Ma_max 2 := ⟨zc_Ma_max, zt2 58 rfl, Or.inl (zt2 57 rfl)⟩
theorem zk_AS_201 : zLkS "jdk/internal/util/ArraysSupport" 201 M_AS_hugeLength 2 := ⟨zc_AS_hugeLength, zt2 62 rfl, Or.inl (zt2 61 rfl)⟩
theorem zk_Ar_304 : zLkS "java/util/Arrays" 304 M_Ma_min 2 := ⟨zc_Ma_min, zt2 76 rfl, Or.inl (zt2 75 rfl)⟩
theorem zk_Ar_13 : zLkS "java/util/Arrays" 13 M_Ar_rangeCheck 3 := ⟨zc_Ar_rangeCheck, zt2 152 rfl, Or.inl (zt2 151 rfl)⟩
theorem zk_Ar_339 : zLkS "java/util/Arrays" 339 M_Ar_copyOfRangeByte 3 := ⟨zc_Ar_copyOfRangeByte, zt2 206 rfl, Or.inl (zt2 205 rfl)⟩
theorem zk_Ar_343 : zLkS "java/util/Arrays" 343 M_Ar_checkLength 2 := ⟨zc_Ar_checkLength, zt2 209 rfl, Or.inl (zt2 208 rfl)⟩
theorem zk_Ar_300 : zLkS "java/util/Arrays" 300 M_Ar_copyOf_2 3 := ⟨zc_Ar_copyOf_2, zt4 157 rfl, Or.inl (zt4 156 rfl)⟩
theorem sAS_newLength_0 {G : zG} {d : Nat} {Q : Option Value → Heap → Prop} {H : Heap} {st : List Value} {o3 : Option Value} {x0 : Int32} {x1 : Int32} {x2 : Int32} {P : Int32 → Heap → Prop} (hd : 1 ≤ d) (hl : ((.int x0) :: st).length ≤ 4) (hc : zC G (d - 1) M_Ma_max [(.int x1), (.int x2)] H (zPi P)) (kk : ∀ (r : Int32) (H1 : Heap), P r H1 → zOk G H1 → H.size ≤ H1.size → zT H ≤ zT H1 → zW G d M_AS_newLength 6 [some (.int x0), some (.int x1), some (.int x2), o3] ((.int r) :: (.int x0) :: st) H1 Q) : zW G d M_AS_newLength 0 [some (.int x0), some (.int x1), some (.int x2), o3] st H Q :=
  zw_iload_n (i := 0) dAS_newLength_0 rfl rfl <| zw_iload_n (i := 1) dAS_newLength_1 rfl rfl <| zw_iload_n (i := 2) dAS_newLength_2 rfl rfl <| zw_callS [(.int x1), (.int x2)] _ dAS_newLength_3 hd zk_AS_194 rfl rfl hl hc (zPi_k kk)
theorem sAS_newLength_6 {G : zG} {d : Nat} {Q : Option Value → Heap → Prop} {H : Heap} {st : List Value} {o0 : Option Value} {o1 : Option Value} {o2 : Option Value} {o3 : Option Value} {xs0 : Int32} {xs1 : Int32} (kt : ((xs1 + xs0) ≤ (0 : Int32)) → zW G d M_AS_newLength 21 [o0, o1, o2, some (.int (xs1 + xs0))] st H Q) (kf : (¬ (xs1 + xs0) ≤ (0 : Int32)) → zW G d M_AS_newLength 13 [o0, o1, o2, some (.int (xs1 + xs0))] st H Q) : zW G d M_AS_newLength 6 [o0, o1, o2, o3] ((.int xs0) :: (.int xs1) :: st) H Q :=
  zw_iadd dAS_newLength_6 <| zw_istore_n (i := 3) dAS_newLength_7 rfl (Nat.le_of_ble_eq_true rfl) <| zw_iconst (0 : Int32) dAS_newLength_8 zki_0 <| zw_iload_n (i := 3) dAS_newLength_9 rfl rfl <| zw_icmp_ge 21 dAS_newLength_10 (by decide) kt kf
theorem sAS_newLength_13 {G : zG} {d : Nat} {Q : Option Value → Heap → Prop} {H : Heap} {st : List Value} {o0 : Option Value} {o1 : Option Value} {o2 : Option Value} {x3 : Int32} (kt : ((2147483639 : Int32) < x3) → zW G d M_AS_newLength 21 [o0, o1, o2, some (.int x3)] st H Q) (kf : (¬ (2147483639 : Int32) < x3) → zW G d M_AS_newLength 19 [o0, o1, o2, some (.int x3)] st H Q) : zW G d M_AS_newLength 13 [o0, o1, o2, some (.int x3)] st H Q :=
  zw_iload_n (i := 3) dAS_newLength_13 rfl rfl <| zw_ldc dAS_newLength_14 (zt2 60 rfl) <| zw_icmp_gt 21 dAS_newLength_16 (by decide) kt kf
theorem sAS_newLength_19 {G : zG} {d : Nat} {Q : Option Value → Heap → Prop} {H : Heap} {o0 : Option Value} {o1 : Option Value} {o2 : Option Value} {x3 : Int32} (hq : Q (some (.int x3)) H) : zW G d M_AS_newLength 19 [o0, o1, o2, some (.int x3)] [] H Q :=
  zw_iload_n (i := 3) dAS_newLength_19 rfl rfl <| zw_iret dAS_newLength_20 .int rfl rfl hq
theorem sAS_newLength_21 {G : zG} {d : Nat} {Q : Option Value → Heap → Prop} {H : Heap} {st : List Value} {o2 : Option Value} {o3 : Option Value} {x0 : Int32} {x1 : Int32} {P : Int32 → Heap → Prop} (hd : 1 ≤ d) (hl : st.length ≤ 4) (hc : zC G (d - 1) M_AS_hugeLength [(.int x0), (.int x1)] H (zPi P)) (kk : ∀ (r : Int32) (H1 : Heap), P r H1 → zOk G H1 → H.size ≤ H1.size → zT H ≤ zT H1 → zW G d M_AS_newLength 26 [some (.int x0), some (.int x1), o2, o3] ((.int r) :: st) H1 Q) : zW G d M_AS_newLength 21 [some (.int x0), some (.int x1), o2, o3] st H Q :=
  zw_iload_n (i := 0) dAS_newLength_21 rfl rfl <| zw_iload_n (i := 1) dAS_newLength_22 rfl rfl <| zw_callS [(.int x0), (.int x1)] _ dAS_newLength_23 hd zk_AS_201 rfl rfl hl hc (zPi_k kk)
theorem sAS_newLength_26 {G : zG} {d : Nat} {Q : Option Value → Heap → Prop} {H : Heap} {o0 : Option Value} {o1 : Option Value} {o2 : Option Value} {o3 : Option Value} {xs0 : Int32} (hq : Q (some (.int xs0)) H) : zW G d M_AS_newLength 26 [o0, o1, o2, o3] ((.int xs0) :: []) H Q :=
  zw_iret dAS_newLength_26 .int rfl rfl hq
theorem sMa_max_0 {G : zG} {d : Nat} {Q : Option Value → Heap → Prop} {H : Heap} {st : List Value} {x0 : Int32} {x1 : Int32} (kt : (x0 < x1) → zW G d M_Ma_max 9 [some (.int x0), some (.int x1)] st H Q) (kf : (¬ x0 < x1) → zW G d M_Ma_max 5 [some (.int x0), some (.int x1)] st H Q) : zW G d M_Ma_max 0 [some (.int x0), some (.int x1)] st H Q :=
  zw_iload_n (i := 0) dMa_max_0 rfl rfl <| zw_iload_n (i := 1) dMa_max_1 rfl rfl <| zw_icmp_lt 9 dMa_max_2 (by decide) kt kf
theorem sMa_max_5 {G : zG} {d : Nat} {Q : Option Value → Heap → Prop} {H : Heap} {o1 : Option Value} {x0 : Int32} (hq : Q (some (.int x0)) H) : zW G d M_Ma_max 5 [some (.int x0), o1] [] H Q :=
  zw_iload_n (i := 0) dMa_max_5 rfl rfl <| zw_goto 10 dMa_max_6 (by decide) <| zw_iret dMa_max_10 .int rfl rfl hq
theorem sMa_max_9 {G : zG} {d : Nat} {Q : Option Value → Heap → Prop} {H : Heap} {o0 : Option Value} {x1 : Int32} (hq : Q (some (.int x1)) H) : zW G d M_Ma_max 9 [o0, some (.int x1)] [] H Q :=
  zw_iload_n (i := 1) dMa_max_9 rfl rfl <| zw_iret dMa_max_10 .int rfl rfl hq
theorem sMa_max_10 {G : zG} {d : Nat} {Q : Option Value → Heap → Prop} {H : Heap} {o0 : Option Value} {o1 : Option Value} {xs0 : Int32} (hq : Q (some (.int xs0)) H) : zW G d M_Ma_max 10 [o0, o1] ((.int xs0) :: []) H Q :=
  zw_iret dMa_max_10 .int rfl rfl hq
theorem sAS_hugeLength_0 {G : zG} {d : Nat} {Q : Option Value → Heap → Prop} {H : Heap} {st : List Value} {o2 : Option Value} {x0 : Int32} {x1 : Int32} (kt : (0 ≤ (x0 + x1)) → zW G d M_AS_hugeLength 49 [some (.int x0), some (.int x1), some (.int (x0 + x1))] st H Q) (kf : (¬ 0 ≤ (x0 + x1)) → zW G d M_AS_hugeLength 8 [some (.int x0), some (.int x1), some (.int (x0 + x1))] st H Q) : zW G d M_AS_hugeLength 0 [some (.int x0), some (.int x1), o2] st H Q :=
  zw_iload_n (i := 0) dAS_hugeLength_0 rfl rfl <| zw_iload_n (i := 1) dAS_hugeLength_1 rfl rfl <| zw_iadd dAS_hugeLength_2 <| zw_istore_n (i := 2) dAS_hugeLength_3 rfl (Nat.le_of_ble_eq_true rfl) <| zw_iload_n (i := 2) dAS_hugeLength_4 rfl rfl <| zw_if_ge 49 dAS_hugeLength_5 (by decide) kt kf
theorem sAS_hugeLength_11 {G : zG} {d : Nat} {Q : Option Value → Heap → Prop} {H : Heap} {st : List Value} {o0 : Option Value} {o1 : Option Value} {o2 : Option Value} {ws0 : Value} (hcs0 : ws0.category = 1 := by first | rfl | exact zRf.cat (by assumption)) (kk : zW G d M_AS_hugeLength 12 [o0, o1, o2] (ws0 :: ws0 :: st) H Q) : zW G d M_AS_hugeLength 11 [o0, o1, o2] (ws0 :: st) H Q :=
  zw_dup dAS_hugeLength_11 hcs0 <| kk
theorem sAS_hugeLength_15 {G : zG} {d : Nat} {Q : Option Value → Heap → Prop} {H : Heap} {st : List Value} {o0 : Option Value} {o1 : Option Value} {o2 : Option Value} {ws0 : Value} (hcs0 : ws0.category = 1 := by first | rfl | exact zRf.cat (by assumption)) (kk : zW G d M_AS_hugeLength 16 [o0, o1, o2] (ws0 :: ws0 :: st) H Q) : zW G d M_AS_hugeLength 15 [o0, o1, o2] (ws0 :: st) H Q :=
  zw_dup dAS_hugeLength_15 hcs0 <| kk
theorem sAS_hugeLength_24 {G : zG} {d : Nat} {Q : Option Value → Heap → Prop} {H : Heap} {st : List Value} {o1 : Option Value} {o2 : Option Value} {x0 : Int32} (kk : zW G d M_AS_hugeLength 25 [some (.int x0), o1, o2] ((.int x0) :: st) H Q) : zW G d M_AS_hugeLength 24 [some (.int x0), o1, o2] st H Q :=
  zw_iload_n (i := 0) dAS_hugeLength_24 rfl rfl <| kk
theorem sAS_hugeLength_33 {G : zG} {d : Nat} {Q : Option Value → Heap → Prop} {H : Heap} {st : List Value} {o0 : Option Value} {o2 : Option Value} {x1 : Int32} (kk : zW G d M_AS_hugeLength 34 [o0, some (.int x1), o2] ((.int x1) :: st) H Q) : zW G d M_AS_hugeLength 33 [o0, some (.int x1), o2] st H Q :=
  zw_iload_n (i := 1) dAS_hugeLength_33 rfl rfl <| kk
theorem sAS_hugeLength_49 {G : zG} {d : Nat} {Q : Option Value → Heap → Prop} {H : Heap} {st : List Value} {o0 : Option Value} {o1 : Option Value} {x2 : Int32} (kt : ((2147483639 : Int32) < x2) → zW G d M_AS_hugeLength 58 [o0, o1, some (.int x2)] st H Q) (kf : (¬ (2147483639 : Int32) < x2) → zW G d M_AS_hugeLength 55 [o0, o1, some (.int x2)] st H Q) : zW G d M_AS_hugeLength 49 [o0, o1, some (.int x2)] st H Q :=
  zw_iload_n (i := 2) dAS_hugeLength_49 rfl rfl <| zw_ldc dAS_hugeLength_50 (zt2 60 rfl) <| zw_icmp_gt 58 dAS_hugeLength_52 (by decide) kt kf
theorem sAS_hugeLength_55 {G : zG} {d : Nat} {Q : Option Value → Heap → Prop} {H : Heap} {o0 : Option Value} {o1 : Option Value} {o2 : Option Value} (hq : Q (some (.int (2147483639 : Int32))) H) : zW G d M_AS_hugeLength 55 [o0, o1, o2] [] H Q :=
  zw_ldc dAS_hugeLength_55 (zt2 60 rfl) <| zw_iret dAS_hugeLength_57 .int rfl rfl hq
theorem sAS_hugeLength_58 {G : zG} {d : Nat} {Q : Option Value → Heap → Prop} {H : Heap} {o0 : Option Value} {o1 : Option Value} {x2 : Int32} (hq : Q (some (.int x2)) H) : zW G d M_AS_hugeLength 58 [o0, o1, some (.int x2)] [] H Q :=
  zw_iload_n (i := 2) dAS_hugeLength_58 rfl rfl <| zw_iret dAS_hugeLength_59 .int rfl rfl hq
theorem sAr_copyOf_0_0 {G : zG} {d : Nat} {Q : Option Value → Heap → Prop} {H : Heap} {st : List Value} {o2 : Option Value} {x1 : Int32} {a0 : Nat} {n1 : Nat} {t1 : FieldType} {g1 : Nat → Value} (ha1 : zArr G H a0 t1 n1 g1) (kt : (¬ x1 = (nI n1)) → zW G d M_Ar_copyOf_0 14 [some (.ref a0), some (.int x1), o2] st H Q) (kf : (x1 = (nI n1)) → zW G d M_Ar_copyOf_0 6 [some (.ref a0), some (.int x1), o2] st H Q) : zW G d M_Ar_copyOf_0 0 [some (.ref a0), some (.int x1), o2] st H Q :=
  zw_iload_n (i := 1) dAr_copyOf_0_0 rfl rfl <| zw_aload_n (i := 0) dAr_copyOf_0_1 rfl rfl zRf_ref <| zw_alen dAr_copyOf_0_2 ha1 <| zw_icmp_ne 14 dAr_copyOf_0_3 (by decide) kt kf
theorem sAr_copyOf_0_6 {G : zG} {d : Nat} {Q : Option Value → Heap → Prop} {H : Heap} {st : List Value} {o1 : Option Value} {o2 : Option Value} {v0 : Value} (hr0 : zRf v0 := by first | exact zRf_ref | exact zRf_null | exact zRf_rf _ | assumption) (kk : zW G d M_Ar_copyOf_0 7 [some v0, o1, o2] (v0 :: st) H Q) : zW G d M_Ar_copyOf_0 6 [some v0, o1, o2] st H Q :=
  zw_aload_n (i := 0) dAr_copyOf_0_6 rfl rfl hr0 <| kk
theorem sAr_copyOf_0_14 {G : zG} {d : Nat} {Q : Option Value → Heap → Prop} {H : Heap} {st : List Value} {o0 : Option Value} {o2 : Option Value} {x1 : Int32} {N : Nat} (hn : ¬ x1 < 0) (hN : (x1).toNatClampNeg = N) (hb : N * componentBytes .byte ≤ 536870912) (hc1 : H.size + 1 ≤ zCp G) (hs1 : zT H + N ≤ zSp G) (kk : ∀ H1 : Heap, zArr G H1 H.size .byte N (fun _ => defaultValue .byte) → zNw N H H1 → zW G d M_Ar_copyOf_0 17 [o0, some (.int x1), o2] ((.ref H.size) :: st) H1 Q) : zW G d M_Ar_copyOf_0 14 [o0, some (.int x1), o2] st H Q :=
  zw_iload_n (i := 1) dAr_copyOf_0_14 rfl rfl <| zw_newa .byte dAr_copyOf_0_15 rfl (zt1 68 rfl) hn hN hb hc1 hs1 kk
theorem sAr_copyOf_0_17 {G : zG} {d : Nat} {Q : Option Value → Heap → Prop} {H : Heap} {st : List Value} {o2 : Option Value} {vs0 : Value} {a0 : Nat} {x1 : Int32} {n1 : Nat} {t1 : FieldType} {g1 : Nat → Value} {P : Int32 → Heap → Prop} (hrs0 : zRf vs0 := by first | exact zRf_ref | exact zRf_null | exact zRf_rf _ | assumption) (ha1 : zArr G H a0 t1 n1 g1) (hd : 1 ≤ d) (hl : ((.int (0 : Int32)) :: vs0 :: (.int (0 : Int32)) :: (.ref a0) :: st).length ≤ 4) (hc : zC G (d - 1) M_Ma_min [(.int (nI n1)), (.int x1)] H (zPi P)) (kk : ∀ (r : Int32) (H1 : Heap), P r H1 → zOk G H1 → H.size ≤ H1.size → zT H ≤ zT H1 → zW G d M_Ar_copyOf_0 28 [some (.ref a0), some (.int x1), some vs0] ((.int r) :: (.int (0 : Int32)) :: vs0 :: (.int (0 : Int32)) :: (.ref a0) :: st) H1 Q) : zW G d M_Ar_copyOf_0 17 [some (.ref a0), some (.int x1), o2] (vs0 :: st) H Q :=
  zw_astore_n (i := 2) dAr_copyOf_0_17 rfl (Nat.le_of_ble_eq_true rfl) hrs0 <| zw_aload_n (i := 0) dAr_copyOf_0_18 rfl rfl zRf_ref <| zw_iconst (0 : Int32) dAr_copyOf_0_19 zki_0 <| zw_aload_n (i := 2) dAr_copyOf_0_20 rfl rfl hrs0 <| zw_iconst (0 : Int32) dAr_copyOf_0_21 zki_0 <| zw_aload_n (i := 0) dAr_copyOf_0_22 rfl rfl zRf_ref <| zw_alen dAr_copyOf_0_23 ha1 <| zw_iload_n (i := 1) dAr_copyOf_0_24 rfl rfl <| zw_callS [(.int (nI n1)), (.int x1)] _ dAr_copyOf_0_25 hd zk_Ar_304 rfl rfl hl hc (zPi_k kk)
theorem sAr_copyOf_0_31 {G : zG} {d : Nat} {Q : Option Value → Heap → Prop} {H : Heap} {o0 : Option Value} {o1 : Option Value} {v2 : Value} (hr2 : zRf v2 := by first | exact zRf_ref | exact zRf_null | exact zRf_rf _ | assumption) (hq : Q (some v2) H) : zW G d M_Ar_copyOf_0 31 [o0, o1, some v2] [] H Q :=
  zw_aload_n (i := 2) dAr_copyOf_0_31 rfl rfl hr2 <| zw_aret dAr_copyOf_0_32 (.array .byte) rfl (Or.inr ⟨_, rfl⟩) hr2 hq
theorem sMa_min_0 {G : zG} {d : Nat} {Q : Option Value → Heap → Prop} {H : Heap} {st : List Value} {x0 : Int32} {x1 : Int32} (kt : (x1 < x0) → zW G d M_Ma_min 9 [some (.int x0), some (.int x1)] st H Q) (kf : (¬ x1 < x0) → zW G d M_Ma_min 5 [some (.int x0), some (.int x1)] st H Q) : zW G d M_Ma_min 0 [some (.int x0), some (.int x1)] st H Q :=
  zw_iload_n (i := 0) dMa_min_0 rfl rfl <| zw_iload_n (i := 1) dMa_min_1 rfl rfl <| zw_icmp_gt 9 dMa_min_2 (by decide) kt kf
theorem sMa_min_5 {G : zG} {d : Nat} {Q : Option Value → Heap → Prop} {H : Heap} {o1 : Option Value} {x0 : Int32} (hq : Q (some (.int x0)) H) : zW G d M_Ma_min 5 [some (.int x0), o1] [] H Q :=
  zw_iload_n (i := 0) dMa_min_5 rfl rfl <| zw_goto 10 dMa_min_6 (by decide) <| zw_iret dMa_min_10 .int rfl rfl hq
theorem sMa_min_9 {G : zG} {d : Nat} {Q : Option Value → Heap → Prop} {H : Heap} {o0 : Option Value} {x1 : Int32} (hq : Q (some (.int x1)) H) : zW G d M_Ma_min 9 [o0, some (.int x1)] [] H Q :=
  zw_iload_n (i := 1) dMa_min_9 rfl rfl <| zw_iret dMa_min_10 .int rfl rfl hq
theorem sMa_min_10 {G : zG} {d : Nat} {Q : Option Value → Heap → Prop} {H : Heap} {o0 : Option Value} {o1 : Option Value} {xs0 : Int32} (hq : Q (some (.int xs0)) H) : zW G d M_Ma_min 10 [o0, o1] ((.int xs0) :: []) H Q :=
  zw_iret dMa_min_10 .int rfl rfl hq
theorem sAr_fill_0 {G : zG} {d : Nat} {Q : Option Value → Heap → Prop} {H : Heap} {st : List Value} {o3 : Option Value} {o4 : Option Value} {a0 : Nat} {x1 : Int32} {x2 : Int32} {n1 : Nat} {t1 : FieldType} {g1 : Nat → Value} {P : Heap → Prop} (ha1 : zArr G H a0 t1 n1 g1) (hd : 1 ≤ d) (hl : st.length ≤ 4) (hc : zC G (d - 1) M_Ar_rangeCheck [(.int (nI n1)), (.int x1), (.int x2)] H (zPv P)) (kk : ∀ H1 : Heap, P H1 → zOk G H1 → H.size ≤ H1.size → zT H ≤ zT H1 → zW G d M_Ar_fill 7 [some (.ref a0), some (.int x1), some (.int x2), o3, o4] st H1 Q) : zW G d M_Ar_fill 0 [some (.ref a0), some (.int x1), some (.int x2), o3, o4] st H Q :=
  zw_aload_n (i := 0) dAr_fill_0 rfl rfl zRf_ref <| zw_alen dAr_fill_1 ha1 <| zw_iload_n (i := 1) dAr_fill_2 rfl rfl <| zw_iload_n (i := 2) dAr_fill_3 rfl rfl <| zw_callS [(.int (nI n1)), (.int x1), (.int x2)] _ dAr_fill_4 hd zk_Ar_13 rfl rfl hl hc (zPv_k kk)
theorem sAr_fill_7 {G : zG} {d : Nat} {Q : Option Value → Heap → Prop} {H : Heap} {st : List Value} {o0 : Option Value} {o2 : Option Value} {o3 : Option Value} {o4 : Option Value} {x1 : Int32} (kk : zW G d M_Ar_fill 10 [o0, some (.int x1), o2, o3, some (.int x1)] st H Q) : zW G d M_Ar_fill 7 [o0, some (.int x1), o2, o3, o4] st H Q :=
  zw_iload_n (i := 1) dAr_fill_7 rfl rfl <| zw_istore (i := 4) dAr_fill_8 (Nat.le_of_ble_eq_true rfl) <| kk
theorem sAr_fill_10 {G : zG} {d : Nat} {Q : Option Value → Heap → Prop} {H : Heap} {st : List Value} {o0 : Option Value} {o1 : Option Value} {o3 : Option Value} {x4 : Int32} {x2 : Int32} (kt : (x2 ≤ x4) → zW G d M_Ar_fill 27 [o0, o1, some (.int x2), o3, some (.int x4)] st H Q) (kf : (¬ x2 ≤ x4) → zW G d M_Ar_fill 16 [o0, o1, some (.int x2), o3, some (.int x4)] st H Q) : zW G d M_Ar_fill 10 [o0, o1, some (.int x2), o3, some (.int x4)] st H Q :=
  zw_iload (i := 4) dAr_fill_10 rfl <| zw_iload_n (i := 2) dAr_fill_12 rfl rfl <| zw_icmp_ge 27 dAr_fill_13 (by decide) kt kf
theorem sAr_fill_16 {G : zG} {d : Nat} {Q : Option Value → Heap → Prop} {H : Heap} {st : List Value} {o1 : Option Value} {o2 : Option Value} {a0 : Nat} {x4 : Int32} {x3 : Int32} {n : Nat} {g : Nat → Value} (ha : zArr G H a0 .byte n g) (hi : vp_in x4 n) (hw : zFr G a0) (kk : ∀ H1 : Heap, zArr G H1 a0 .byte n (updV g (x4).toNatClampNeg (.int (x3).toInt8.toInt32)) → zUp a0 H H1 → zW G d M_Ar_fill 21 [some (.ref a0), o1, o2, some (.int x3), some (.int x4)] st H1 Q) : zW G d M_Ar_fill 16 [some (.ref a0), o1, o2, some (.int x3), some (.int x4)] st H Q :=
  zw_aload_n (i := 0) dAr_fill_16 rfl rfl zRf_ref <| zw_iload (i := 4) dAr_fill_17 rfl <| zw_iload_n (i := 3) dAr_fill_19 rfl rfl <| zw_bast dAr_fill_20 ha hi hw kk
theorem sAr_fill_21 {G : zG} {d : Nat} {Q : Option Value → Heap → Prop} {H : Heap} {st : List Value} {o0 : Option Value} {o1 : Option Value} {o2 : Option Value} {o3 : Option Value} {x4 : Int32} (kk : zW G d M_Ar_fill 10 [o0, o1, o2, o3, some (.int (x4 + (1 : Int32)))] st H Q) : zW G d M_Ar_fill 21 [o0, o1, o2, o3, some (.int x4)] st H Q :=
  zw_iinc (i := 4) (x4 + (1 : Int32)) dAr_fill_21 rfl (by rw [zki_1]) <| zw_goto 10 dAr_fill_24 (by decide) <| kk
theorem sAr_fill_27 {G : zG} {d : Nat} {Q : Option Value → Heap → Prop} {H : Heap} {o0 : Option Value} {o1 : Option Value} {o2 : Option Value} {o3 : Option Value} {o4 : Option Value} (hq : Q none H) : zW G d M_Ar_fill 27 [o0, o1, o2, o3, o4] [] H Q :=
  zw_vret dAr_fill_27 rfl hq
theorem sAr_rangeCheck_0 {G : zG} {d : Nat} {Q : Option Value → Heap → Prop} {H : Heap} {st : List Value} {o0 : Option Value} {x1 : Int32} {x2 : Int32} (kt : (x1 ≤ x2) → zW G d M_Ar_rangeCheck 46 [o0, some (.int x1), some (.int x2)] st H Q) (kf : (¬ x1 ≤ x2) → zW G d M_Ar_rangeCheck 5 [o0, some (.int x1), some (.int x2)] st H Q) : zW G d M_Ar_rangeCheck 0 [o0, some (.int x1), some (.int x2)] st H Q :=
  zw_iload_n (i := 1) dAr_rangeCheck_0 rfl rfl <| zw_iload_n (i := 2) dAr_rangeCheck_1 rfl rfl <| zw_icmp_le 46 dAr_rangeCheck_2 (by decide) kt kf
theorem sAr_rangeCheck_8 {G : zG} {d : Nat} {Q : Option Value → Heap → Prop} {H : Heap} {st : List Value} {o0 : Option Value} {o1 : Option Value} {o2 : Option Value} {ws0 : Value} (hcs0 : ws0.category = 1 := by first | rfl | exact zRf.cat (by assumption)) (kk : zW G d M_Ar_rangeCheck 9 [o0, o1, o2] (ws0 :: ws0 :: st) H Q) : zW G d M_Ar_rangeCheck 8 [o0, o1, o2] (ws0 :: st) H Q :=
  zw_dup dAr_rangeCheck_8 hcs0 <| kk
theorem sAr_rangeCheck_12 {G : zG} {d : Nat} {Q : Option Value → Heap → Prop} {H : Heap} {st : List Value} {o0 : Option Value} {o1 : Option Value} {o2 : Option Value} {ws0 : Value} (hcs0 : ws0.category = 1 := by first | rfl | exact zRf.cat (by assumption)) (kk : zW G d M_Ar_rangeCheck 13 [o0, o1, o2] (ws0 :: ws0 :: st) H Q) : zW G d M_Ar_rangeCheck 12 [o0, o1, o2] (ws0 :: st) H Q :=
  zw_dup dAr_rangeCheck_12 hcs0 <| kk
theorem sAr_rangeCheck_21 {G : zG} {d : Nat} {Q : Option Value → Heap → Prop} {H : Heap} {st : List Value} {o0 : Option Value} {o2 : Option Value} {x1 : Int32} (kk : zW G d M_Ar_rangeCheck 22 [o0, some (.int x1), o2] ((.int x1) :: st) H Q) : zW G d M_Ar_rangeCheck 21 [o0, some (.int x1), o2] st H Q :=
  zw_iload_n (i := 1) dAr_rangeCheck_21 rfl rfl <| kk
theorem sAr_rangeCheck_30 {G : zG} {d : Nat} {Q : Option Value → Heap → Prop} {H : Heap} {st : List Value} {o0 : Option Value} {o1 : Option Value} {x2 : Int32} (kk : zW G d M_Ar_rangeCheck 31 [o0, o1, some (.int x2)] ((.int x2) :: st) H Q) : zW G d M_Ar_rangeCheck 30 [o0, o1, some (.int x2)] st H Q :=
  zw_iload_n (i := 2) dAr_rangeCheck_30 rfl rfl <| kk
theorem sAr_rangeCheck_46 {G : zG} {d : Nat} {Q : Option Value → Heap → Prop} {H : Heap} {st : List Value} {o0 : Option Value} {o2 : Option Value} {x1 : Int32} (kt : (0 ≤ x1) → zW G d M_Ar_rangeCheck 59 [o0, some (.int x1), o2] st H Q) (kf : (¬ 0 ≤ x1) → zW G d M_Ar_rangeCheck 50 [o0, some (.int x1), o2] st H Q) : zW G d M_Ar_rangeCheck 46 [o0, some (.int x1), o2] st H Q :=
  zw_iload_n (i := 1) dAr_rangeCheck_46 rfl rfl <| zw_if_ge 59 dAr_rangeCheck_47 (by decide) kt kf
theorem sAr_rangeCheck_53 {G : zG} {d : Nat} {Q : Option Value → Heap → Prop} {H : Heap} {st : List Value} {o0 : Option Value} {o2 : Option Value} {ws0 : Value} {x1 : Int32} (hcs0 : ws0.category = 1 := by first | rfl | exact zRf.cat (by assumption)) (kk : zW G d M_Ar_rangeCheck 55 [o0, some (.int x1), o2] ((.int x1) :: ws0 :: ws0 :: st) H Q) : zW G d M_Ar_rangeCheck 53 [o0, some (.int x1), o2] (ws0 :: st) H Q :=
  zw_dup dAr_rangeCheck_53 hcs0 <| zw_iload_n (i := 1) dAr_rangeCheck_54 rfl rfl <| kk
theorem sAr_rangeCheck_59 {G : zG} {d : Nat} {Q : Option Value → Heap → Prop} {H : Heap} {st : List Value} {o1 : Option Value} {x2 : Int32} {x0 : Int32} (kt : (x2 ≤ x0) → zW G d M_Ar_rangeCheck 73 [some (.int x0), o1, some (.int x2)] st H Q) (kf : (¬ x2 ≤ x0) → zW G d M_Ar_rangeCheck 64 [some (.int x0), o1, some (.int x2)] st H Q) : zW G d M_Ar_rangeCheck 59 [some (.int x0), o1, some (.int x2)] st H Q :=
  zw_iload_n (i := 2) dAr_rangeCheck_59 rfl rfl <| zw_iload_n (i := 0) dAr_rangeCheck_60 rfl rfl <| zw_icmp_le 73 dAr_rangeCheck_61 (by decide) kt kf
theorem sAr_rangeCheck_67 {G : zG} {d : Nat} {Q : Option Value → Heap → Prop} {H : Heap} {st : List Value} {o0 : Option Value} {o1 : Option Value} {ws0 : Value} {x2 : Int32} (hcs0 : ws0.category = 1 := by first | rfl | exact zRf.cat (by assumption)) (kk : zW G d M_Ar_rangeCheck 69 [o0, o1, some (.int x2)] ((.int x2) :: ws0 :: ws0 :: st) H Q) : zW G d M_Ar_rangeCheck 67 [o0, o1, some (.int x2)] (ws0 :: st) H Q :=
  zw_dup dAr_rangeCheck_67 hcs0 <| zw_iload_n (i := 2) dAr_rangeCheck_68 rfl rfl <| kk
theorem sAr_rangeCheck_73 {G : zG} {d : Nat} {Q : Option Value → Heap → Prop} {H : Heap} {o0 : Option Value} {o1 : Option Value} {o2 : Option Value} (hq : Q none H) : zW G d M_Ar_rangeCheck 73 [o0, o1, o2] [] H Q :=
  zw_vret dAr_rangeCheck_73 rfl hq
theorem sAr_copyOfRange_0 {G : zG} {d : Nat} {Q : Option Value → Heap → Prop} {H : Heap} {st : List Value} {o0 : Option Value} {o2 : Option Value} {x1 : Int32} (kt : (¬ x1 = 0) → zW G d M_Ar_copyOfRange 10 [o0, some (.int x1), o2] st H Q) (kf : (x1 = 0) → zW G d M_Ar_copyOfRange 4 [o0, some (.int x1), o2] st H Q) : zW G d M_Ar_copyOfRange 0 [o0, some (.int x1), o2] st H Q :=
  zw_iload_n (i := 1) dAr_copyOfRange_0 rfl rfl <| zw_if_ne 10 dAr_copyOfRange_1 (by decide) kt kf
theorem sAr_copyOfRange_4 {G : zG} {d : Nat} {Q : Option Value → Heap → Prop} {H : Heap} {st : List Value} {o1 : Option Value} {x2 : Int32} {a0 : Nat} {n1 : Nat} {t1 : FieldType} {g1 : Nat → Value} (ha1 : zArr G H a0 t1 n1 g1) (kt : (x2 = (nI n1)) → zW G d M_Ar_copyOfRange 17 [some (.ref a0), o1, some (.int x2)] st H Q) (kf : (¬ x2 = (nI n1)) → zW G d M_Ar_copyOfRange 10 [some (.ref a0), o1, some (.int x2)] st H Q) : zW G d M_Ar_copyOfRange 4 [some (.ref a0), o1, some (.int x2)] st H Q :=
  zw_iload_n (i := 2) dAr_copyOfRange_4 rfl rfl <| zw_aload_n (i := 0) dAr_copyOfRange_5 rfl rfl zRf_ref <| zw_alen dAr_copyOfRange_6 ha1 <| zw_icmp_eq 17 dAr_copyOfRange_7 (by decide) kt kf
theorem sAr_copyOfRange_10 {G : zG} {d : Nat} {Q : Option Value → Heap → Prop} {H : Heap} {st : List Value} {v0 : Value} {x1 : Int32} {x2 : Int32} {P : Value → Heap → Prop} (hr0 : zRf v0 := by first | exact zRf_ref | exact zRf_null | exact zRf_rf _ | assumption) (hd : 1 ≤ d) (hl : st.length ≤ 4) (hc : zC G (d - 1) M_Ar_copyOfRangeByte [v0, (.int x1), (.int x2)] H (zPr P)) (kk : ∀ (r : Value) (H1 : Heap), zRf r → P r H1 → zOk G H1 → H.size ≤ H1.size → zT H ≤ zT H1 → zW G d M_Ar_copyOfRange 16 [some v0, some (.int x1), some (.int x2)] (r :: st) H1 Q) : zW G d M_Ar_copyOfRange 10 [some v0, some (.int x1), some (.int x2)] st H Q :=
  zw_aload_n (i := 0) dAr_copyOfRange_10 rfl rfl hr0 <| zw_iload_n (i := 1) dAr_copyOfRange_11 rfl rfl <| zw_iload_n (i := 2) dAr_copyOfRange_12 rfl rfl <| zw_callS [v0, (.int x1), (.int x2)] _ dAr_copyOfRange_13 hd zk_Ar_339 rfl rfl hl hc (zPr_k kk)
theorem sAr_copyOfRange_16 {G : zG} {d : Nat} {Q : Option Value → Heap → Prop} {H : Heap} {o0 : Option Value} {o1 : Option Value} {o2 : Option Value} {vs0 : Value} (hrs0 : zRf vs0 := by first | exact zRf_ref | exact zRf_null | exact zRf_rf _ | assumption) (hq : Q (some vs0) H) : zW G d M_Ar_copyOfRange 16 [o0, o1, o2] (vs0 :: []) H Q :=
  zw_aret dAr_copyOfRange_16 (.array .byte) rfl (Or.inr ⟨_, rfl⟩) hrs0 hq
theorem sAr_copyOfRange_17 {G : zG} {d : Nat} {Q : Option Value → Heap → Prop} {H : Heap} {st : List Value} {o1 : Option Value} {o2 : Option Value} {v0 : Value} (hr0 : zRf v0 := by first | exact zRf_ref | exact zRf_null | exact zRf_rf _ | assumption) (kk : zW G d M_Ar_copyOfRange 18 [some v0, o1, o2] (v0 :: st) H Q) : zW G d M_Ar_copyOfRange 17 [some v0, o1, o2] st H Q :=
  zw_aload_n (i := 0) dAr_copyOfRange_17 rfl rfl hr0 <| kk
theorem sAr_copyOfRangeByte_0 {G : zG} {d : Nat} {Q : Option Value → Heap → Prop} {H : Heap} {st : List Value} {o0 : Option Value} {o3 : Option Value} {o4 : Option Value} {x1 : Int32} {x2 : Int32} {P : Heap → Prop} (hd : 1 ≤ d) (hl : st.length ≤ 4) (hc : zC G (d - 1) M_Ar_checkLength [(.int x1), (.int x2)] H (zPv P)) (kk : ∀ H1 : Heap, P H1 → zOk G H1 → H.size ≤ H1.size → zT H ≤ zT H1 → zW G d M_Ar_copyOfRangeByte 5 [o0, some (.int x1), some (.int x2), o3, o4] st H1 Q) : zW G d M_Ar_copyOfRangeByte 0 [o0, some (.int x1), some (.int x2), o3, o4] st H Q :=
  zw_iload_n (i := 1) dAr_copyOfRangeByte_0 rfl rfl <| zw_iload_n (i := 2) dAr_copyOfRangeByte_1 rfl rfl <| zw_callS [(.int x1), (.int x2)] _ dAr_copyOfRangeByte_2 hd zk_Ar_343 rfl rfl hl hc (zPv_k kk)
theorem sAr_copyOfRangeByte_5 {G : zG} {d : Nat} {Q : Option Value → Heap → Prop} {H : Heap} {st : List Value} {o0 : Option Value} {o3 : Option Value} {o4 : Option Value} {x2 : Int32} {x1 : Int32} {N : Nat} (hn : ¬ (x2 - x1) < 0) (hN : ((x2 - x1)).toNatClampNeg = N) (hb : N * componentBytes .byte ≤ 536870912) (hc1 : H.size + 1 ≤ zCp G) (hs1 : zT H + N ≤ zSp G) (kk : ∀ H1 : Heap, zArr G H1 H.size .byte N (fun _ => defaultValue .byte) → zNw N H H1 → zW G d M_Ar_copyOfRangeByte 12 [o0, some (.int x1), some (.int x2), some (.int (x2 - x1)), o4] ((.ref H.size) :: st) H1 Q) : zW G d M_Ar_copyOfRangeByte 5 [o0, some (.int x1), some (.int x2), o3, o4] st H Q :=
  zw_iload_n (i := 2) dAr_copyOfRangeByte_5 rfl rfl <| zw_iload_n (i := 1) dAr_copyOfRangeByte_6 rfl rfl <| zw_isub dAr_copyOfRangeByte_7 <| zw_istore_n (i := 3) dAr_copyOfRangeByte_8 rfl (Nat.le_of_ble_eq_true rfl) <| zw_iload_n (i := 3) dAr_copyOfRangeByte_9 rfl rfl <| zw_newa .byte dAr_copyOfRangeByte_10 rfl (zt1 68 rfl) hn hN hb hc1 hs1 kk
theorem sAr_copyOfRangeByte_12 {G : zG} {d : Nat} {Q : Option Value → Heap → Prop} {H : Heap} {st : List Value} {o2 : Option Value} {o4 : Option Value} {vs0 : Value} {a0 : Nat} {x1 : Int32} {x3 : Int32} {n1 : Nat} {t1 : FieldType} {g1 : Nat → Value} {P : Int32 → Heap → Prop} (hrs0 : zRf vs0 := by first | exact zRf_ref | exact zRf_null | exact zRf_rf _ | assumption) (ha1 : zArr G H a0 t1 n1 g1) (hd : 1 ≤ d) (hl : ((.int (0 : Int32)) :: vs0 :: (.int x1) :: (.ref a0) :: st).length ≤ 4) (hc : zC G (d - 1) M_Ma_min [(.int ((nI n1) - x1)), (.int x3)] H (zPi P)) (kk : ∀ (r : Int32) (H1 : Heap), P r H1 → zOk G H1 → H.size ≤ H1.size → zT H ≤ zT H1 → zW G d M_Ar_copyOfRangeByte 27 [some (.ref a0), some (.int x1), o2, some (.int x3), some vs0] ((.int r) :: (.int (0 : Int32)) :: vs0 :: (.int x1) :: (.ref a0) :: st) H1 Q) : zW G d M_Ar_copyOfRangeByte 12 [some (.ref a0), some (.int x1), o2, some (.int x3), o4] (vs0 :: st) H Q :=
  zw_astore (i := 4) dAr_copyOfRangeByte_12 (Nat.le_of_ble_eq_true rfl) hrs0 <| zw_aload_n (i := 0) dAr_copyOfRangeByte_14 rfl rfl zRf_ref <| zw_iload_n (i := 1) dAr_copyOfRangeByte_15 rfl rfl <| zw_aload (i := 4) dAr_copyOfRangeByte_16 rfl hrs0 <| zw_iconst (0 : Int32) dAr_copyOfRangeByte_18 zki_0 <| zw_aload_n (i := 0) dAr_copyOfRangeByte_19 rfl rfl zRf_ref <| zw_alen dAr_copyOfRangeByte_20 ha1 <| zw_iload_n (i := 1) dAr_copyOfRangeByte_21 rfl rfl <| zw_isub dAr_copyOfRangeByte_22 <| zw_iload_n (i := 3) dAr_copyOfRangeByte_23 rfl rfl <| zw_callS [(.int ((nI n1) - x1)), (.int x3)] _ dAr_copyOfRangeByte_24 hd zk_Ar_304 rfl rfl hl hc (zPi_k kk)
theorem sAr_copyOfRangeByte_30 {G : zG} {d : Nat} {Q : Option Value → Heap → Prop} {H : Heap} {o0 : Option Value} {o1 : Option Value} {o2 : Option Value} {o3 : Option Value} {v4 : Value} (hr4 : zRf v4 := by first | exact zRf_ref | exact zRf_null | exact zRf_rf _ | assumption) (hq : Q (some v4) H) : zW G d M_Ar_copyOfRangeByte 30 [o0, o1, o2, o3, some v4] [] H Q :=
  zw_aload (i := 4) dAr_copyOfRangeByte_30 rfl hr4 <| zw_aret dAr_copyOfRangeByte_32 (.array .byte) rfl (Or.inr ⟨_, rfl⟩) hr4 hq
theorem sAr_checkLength_0 {G : zG} {d : Nat} {Q : Option Value → Heap → Prop} {H : Heap} {st : List Value} {x1 : Int32} {x0 : Int32} (kt : (x0 ≤ x1) → zW G d M_Ar_checkLength 37 [some (.int x0), some (.int x1)] st H Q) (kf : (¬ x0 ≤ x1) → zW G d M_Ar_checkLength 5 [some (.int x0), some (.int x1)] st H Q) : zW G d M_Ar_checkLength 0 [some (.int x0), some (.int x1)] st H Q :=
  zw_iload_n (i := 1) dAr_checkLength_0 rfl rfl <| zw_iload_n (i := 0) dAr_checkLength_1 rfl rfl <| zw_icmp_ge 37 dAr_checkLength_2 (by decide) kt kf
theorem sAr_checkLength_8 {G : zG} {d : Nat} {Q : Option Value → Heap → Prop} {H : Heap} {st : List Value} {o0 : Option Value} {o1 : Option Value} {ws0 : Value} (hcs0 : ws0.category = 1 := by first | rfl | exact zRf.cat (by assumption)) (kk : zW G d M_Ar_checkLength 9 [o0, o1] (ws0 :: ws0 :: st) H Q) : zW G d M_Ar_checkLength 8 [o0, o1] (ws0 :: st) H Q :=
  zw_dup dAr_checkLength_8 hcs0 <| kk
theorem sAr_checkLength_12 {G : zG} {d : Nat} {Q : Option Value → Heap → Prop} {H : Heap} {st : List Value} {o0 : Option Value} {o1 : Option Value} {ws0 : Value} (hcs0 : ws0.category = 1 := by first | rfl | exact zRf.cat (by assumption)) (kk : zW G d M_Ar_checkLength 13 [o0, o1] (ws0 :: ws0 :: st) H Q) : zW G d M_Ar_checkLength 12 [o0, o1] (ws0 :: st) H Q :=
  zw_dup dAr_checkLength_12 hcs0 <| kk
theorem sAr_checkLength_16 {G : zG} {d : Nat} {Q : Option Value → Heap → Prop} {H : Heap} {st : List Value} {o1 : Option Value} {x0 : Int32} (kk : zW G d M_Ar_checkLength 17 [some (.int x0), o1] ((.int x0) :: st) H Q) : zW G d M_Ar_checkLength 16 [some (.int x0), o1] st H Q :=
  zw_iload_n (i := 0) dAr_checkLength_16 rfl rfl <| kk
theorem sAr_checkLength_26 {G : zG} {d : Nat} {Q : Option Value → Heap → Prop} {H : Heap} {st : List Value} {o0 : Option Value} {x1 : Int32} (kk : zW G d M_Ar_checkLength 27 [o0, some (.int x1)] ((.int x1) :: st) H Q) : zW G d M_Ar_checkLength 26 [o0, some (.int x1)] st H Q :=
  zw_iload_n (i := 1) dAr_checkLength_26 rfl rfl <| kk
theorem sAr_checkLength_37 {G : zG} {d : Nat} {Q : Option Value → Heap → Prop} {H : Heap} {o0 : Option Value} {o1 : Option Value} (hq : Q none H) : zW G d M_Ar_checkLength 37 [o0, o1] [] H Q :=
  zw_vret dAr_checkLength_37 rfl hq
theorem sAr_copyOf_1_0 {G : zG} {d : Nat} {Q : Option Value → Heap → Prop} {H : Heap} {st : List Value} {v0 : Value} {x1 : Int32} (hr0 : zRf v0 := by first | exact zRf_ref | exact zRf_null | exact zRf_rf _ | assumption) (kk : zW G d M_Ar_copyOf_1 3 [some v0, some (.int x1)] (v0 :: (.int x1) :: v0 :: st) H Q) : zW G d M_Ar_copyOf_1 0 [some v0, some (.int x1)] st H Q :=
  zw_aload_n (i := 0) dAr_copyOf_1_0 rfl rfl hr0 <| zw_iload_n (i := 1) dAr_copyOf_1_1 rfl rfl <| zw_aload_n (i := 0) dAr_copyOf_1_2 rfl rfl hr0 <| kk
theorem sAr_copyOf_1_6 {G : zG} {d : Nat} {Q : Option Value → Heap → Prop} {H : Heap} {st : List Value} {o0 : Option Value} {o1 : Option Value} {vs0 : Value} {xs1 : Int32} {vs2 : Value} {P : Value → Heap → Prop} (hrs0 : zRf vs0 := by first | exact zRf_ref | exact zRf_null | exact zRf_rf _ | assumption) (hrs2 : zRf vs2 := by first | exact zRf_ref | exact zRf_null | exact zRf_rf _ | assumption) (hd : 1 ≤ d) (hl : st.length ≤ 4) (hc : zC G (d - 1) M_Ar_copyOf_2 [vs2, (.int xs1), vs0] H (zPr P)) (kk : ∀ (r : Value) (H1 : Heap), zRf r → P r H1 → zOk G H1 → H.size ≤ H1.size → zT H ≤ zT H1 → zW G d M_Ar_copyOf_1 9 [o0, o1] (r :: st) H1 Q) : zW G d M_Ar_copyOf_1 6 [o0, o1] (vs0 :: (.int xs1) :: vs2 :: st) H Q :=
  zw_callS [vs2, (.int xs1), vs0] _ dAr_copyOf_1_6 hd zk_Ar_300 rfl rfl hl hc (zPr_k kk)
theorem sAr_copyOf_1_9 {G : zG} {d : Nat} {Q : Option Value → Heap → Prop} {H : Heap} {o0 : Option Value} {o1 : Option Value} {vs0 : Value} (hrs0 : zRf vs0 := by first | exact zRf_ref | exact zRf_null | exact zRf_rf _ | assumption) (hq : Q (some vs0) H) : zW G d M_Ar_copyOf_1 9 [o0, o1] (vs0 :: []) H Q :=
  zw_aret dAr_copyOf_1_9 (.array (.object "java/lang/Object")) rfl (Or.inr ⟨_, rfl⟩) hrs0 hq
theorem sAr_copyOf_2_0 {G : zG} {d : Nat} {Q : Option Value → Heap → Prop} {H : Heap} {st : List Value} {o0 : Option Value} {o1 : Option Value} {o3 : Option Value} {v2 : Value} (hr2 : zRf v2 := by first | exact zRf_ref | exact zRf_null | exact zRf_rf _ | assumption) (kk : zW G d M_Ar_copyOf_2 1 [o0, o1, some v2, o3] (v2 :: st) H Q) : zW G d M_Ar_copyOf_2 0 [o0, o1, some v2, o3] st H Q :=
  zw_aload_n (i := 2) dAr_copyOf_2_0 rfl rfl hr2 <| kk
theorem sAr_copyOf_2_6 {G : zG} {d : Nat} {Q : Option Value → Heap → Prop} {H : Heap} {st : List Value} {o0 : Option Value} {o2 : Option Value} {o3 : Option Value} {x1 : Int32} (kk : zW G d M_Ar_copyOf_2 7 [o0, some (.int x1), o2, o3] ((.int x1) :: st) H Q) : zW G d M_Ar_copyOf_2 6 [o0, some (.int x1), o2, o3] st H Q :=
  zw_iload_n (i := 1) dAr_copyOf_2_6 rfl rfl <| kk
theorem sAr_copyOf_2_10 {G : zG} {d : Nat} {Q : Option Value → Heap → Prop} {H : Heap} {st : List Value} {o2 : Option Value} {o3 : Option Value} {vs0 : Value} {a0 : Nat} {x1 : Int32} {n1 : Nat} {t1 : FieldType} {g1 : Nat → Value} {P : Int32 → Heap → Prop} (hrs0 : zRf vs0 := by first | exact zRf_ref | exact zRf_null | exact zRf_rf _ | assumption) (ha1 : zArr G H a0 t1 n1 g1) (hd : 1 ≤ d) (hl : ((.int (0 : Int32)) :: vs0 :: (.int (0 : Int32)) :: (.ref a0) :: st).length ≤ 4) (hc : zC G (d - 1) M_Ma_min [(.int (nI n1)), (.int x1)] H (zPi P)) (kk : ∀ (r : Int32) (H1 : Heap), P r H1 → zOk G H1 → H.size ≤ H1.size → zT H ≤ zT H1 → zW G d M_Ar_copyOf_2 35 [some (.ref a0), some (.int x1), o2, some vs0] ((.int r) :: (.int (0 : Int32)) :: vs0 :: (.int (0 : Int32)) :: (.ref a0) :: st) H1 Q) : zW G d M_Ar_copyOf_2 10 [some (.ref a0), some (.int x1), o2, o3] (vs0 :: st) H Q :=
  zw_goto 24 dAr_copyOf_2_10 (by decide) <| zw_astore_n (i := 3) dAr_copyOf_2_24 rfl (Nat.le_of_ble_eq_true rfl) hrs0 <| zw_aload_n (i := 0) dAr_copyOf_2_25 rfl rfl zRf_ref <| zw_iconst (0 : Int32) dAr_copyOf_2_26 zki_0 <| zw_aload_n (i := 3) dAr_copyOf_2_27 rfl rfl hrs0 <| zw_iconst (0 : Int32) dAr_copyOf_2_28 zki_0 <| zw_aload_n (i := 0) dAr_copyOf_2_29 rfl rfl zRf_ref <| zw_alen dAr_copyOf_2_30 ha1 <| zw_iload_n (i := 1) dAr_copyOf_2_31 rfl rfl <| zw_callS [(.int (nI n1)), (.int x1)] _ dAr_copyOf_2_32 hd zk_Ar_304 rfl rfl hl hc (zPi_k kk)
theorem sAr_copyOf_2_13 {G : zG} {d : Nat} {Q : Option Value → Heap → Prop} {H : Heap} {st : List Value} {o0 : Option Value} {o1 : Option Value} {o3 : Option Value} {v2 : Value} (hr2 : zRf v2 := by first | exact zRf_ref | exact zRf_null | exact zRf_rf _ | assumption) (kk : zW G d M_Ar_copyOf_2 14 [o0, o1, some v2, o3] (v2 :: st) H Q) : zW G d M_Ar_copyOf_2 13 [o0, o1, some v2, o3] st H Q :=
  zw_aload_n (i := 2) dAr_copyOf_2_13 rfl rfl hr2 <| kk
theorem sAr_copyOf_2_17 {G : zG} {d : Nat} {Q : Option Value → Heap → Prop} {H : Heap} {st : List Value} {o0 : Option Value} {o2 : Option Value} {o3 : Option Value} {x1 : Int32} (kk : zW G d M_Ar_copyOf_2 18 [o0, some (.int x1), o2, o3] ((.int x1) :: st) H Q) : zW G d M_Ar_copyOf_2 17 [o0, some (.int x1), o2, o3] st H Q :=
  zw_iload_n (i := 1) dAr_copyOf_2_17 rfl rfl <| kk
theorem sAr_copyOf_2_24 {G : zG} {d : Nat} {Q : Option Value → Heap → Prop} {H : Heap} {st : List Value} {o2 : Option Value} {o3 : Option Value} {vs0 : Value} {a0 : Nat} {x1 : Int32} {n1 : Nat} {t1 : FieldType} {g1 : Nat → Value} {P : Int32 → Heap → Prop} (hrs0 : zRf vs0 := by first | exact zRf_ref | exact zRf_null | exact zRf_rf _ | assumption) (ha1 : zArr G H a0 t1 n1 g1) (hd : 1 ≤ d) (hl : ((.int (0 : Int32)) :: vs0 :: (.int (0 : Int32)) :: (.ref a0) :: st).length ≤ 4) (hc : zC G (d - 1) M_Ma_min [(.int (nI n1)), (.int x1)] H (zPi P)) (kk : ∀ (r : Int32) (H1 : Heap), P r H1 → zOk G H1 → H.size ≤ H1.size → zT H ≤ zT H1 → zW G d M_Ar_copyOf_2 35 [some (.ref a0), some (.int x1), o2, some vs0] ((.int r) :: (.int (0 : Int32)) :: vs0 :: (.int (0 : Int32)) :: (.ref a0) :: st) H1 Q) : zW G d M_Ar_copyOf_2 24 [some (.ref a0), some (.int x1), o2, o3] (vs0 :: st) H Q :=
  zw_astore_n (i := 3) dAr_copyOf_2_24 rfl (Nat.le_of_ble_eq_true rfl) hrs0 <| zw_aload_n (i := 0) dAr_copyOf_2_25 rfl rfl zRf_ref <| zw_iconst (0 : Int32) dAr_copyOf_2_26 zki_0 <| zw_aload_n (i := 3) dAr_copyOf_2_27 rfl rfl hrs0 <| zw_iconst (0 : Int32) dAr_copyOf_2_28 zki_0 <| zw_aload_n (i := 0) dAr_copyOf_2_29 rfl rfl zRf_ref <| zw_alen dAr_copyOf_2_30 ha1 <| zw_iload_n (i := 1) dAr_copyOf_2_31 rfl rfl <| zw_callS [(.int (nI n1)), (.int x1)] _ dAr_copyOf_2_32 hd zk_Ar_304 rfl rfl hl hc (zPi_k kk)
theorem sAr_copyOf_2_38 {G : zG} {d : Nat} {Q : Option Value → Heap → Prop} {H : Heap} {o0 : Option Value} {o1 : Option Value} {o2 : Option Value} {v3 : Value} (hr3 : zRf v3 := by first | exact zRf_ref | exact zRf_null | exact zRf_rf _ | assumption) (hq : Q (some v3) H) : zW G d M_Ar_copyOf_2 38 [o0, o1, o2, some v3] [] H Q :=
  zw_aload_n (i := 3) dAr_copyOf_2_38 rfl rfl hr3 <| zw_aret dAr_copyOf_2_39 (.array (.object "java/lang/Object")) rfl (Or.inr ⟨_, rfl⟩) hr3 hq
end
section
theorem dAL_init_0 : decode prog_26_method_1_code 0 = .ok (.aload_n 0, 1) := by decide +kernel
theorem dAL_init_1 : decode prog_26_method_1_code 1 = .ok (.invokespecial 1, 3) := by decide +kernel
theorem dAL_init_4 : decode prog_26_method_1_code 4 = .ok (.aload_n 0, 1) := by decide +kernel
theorem dAL_init_5 : decode prog_26_method_1_code 5 = .ok (.iconst 0, 1) := by decide +kernel
theorem dAL_init_6 : decode prog_26_method_1_code 6 = .ok (.putfield 7, 3) := by decide +kernel
theorem dAL_init_9 : decode prog_26_method_1_code 9 = .ok (.return_, 1) := by decide +kernel
theorem dAC_init_0 : decode prog_25_method_1_code 0 = .ok (.aload_n 0, 1) := by decide +kernel
theorem dAC_init_1 : decode prog_25_method_1_code 1 = .ok (.invokespecial 1, 3) := by decide +kernel
theorem dAC_init_4 : decode prog_25_method_1_code 4 = .ok (.return_, 1) := by decide +kernel
theorem dPc_checkFromIndexSize_0 : decode prog_35_method_13_code 0 = .ok (.iload_n 2, 1) := by decide +kernel
theorem dPc_checkFromIndexSize_1 : decode prog_35_method_13_code 1 = .ok (.iload_n 0, 1) := by decide +kernel
theorem dPc_checkFromIndexSize_2 : decode prog_35_method_13_code 2 = .ok (.ior, 1) := by decide +kernel
theorem dPc_checkFromIndexSize_3 : decode prog_35_method_13_code 3 = .ok (.iload_n 1, 1) := by decide +kernel
theorem dPc_checkFromIndexSize_4 : decode prog_35_method_13_code 4 = .ok (.ior, 1) := by decide +kernel
theorem dPc_checkFromIndexSize_5 : decode prog_35_method_13_code 5 = .ok (.ifCond .lt 10, 3) := by decide +kernel
theorem dPc_checkFromIndexSize_8 : decode prog_35_method_13_code 8 = .ok (.iload_n 1, 1) := by decide +kernel
theorem dPc_checkFromIndexSize_9 : decode prog_35_method_13_code 9 = .ok (.iload_n 2, 1) := by decide +kernel
theorem dPc_checkFromIndexSize_10 : decode prog_35_method_13_code 10 = .ok (.iload_n 0, 1) := by decide +kernel
theorem dPc_checkFromIndexSize_11 : decode prog_35_method_13_code 11 = .ok (.isub, 1) := by decide +kernel
theorem dPc_checkFromIndexSize_12 : decode prog_35_method_13_code 12 = .ok (.if_icmp .le 11, 3) := by decide +kernel
theorem dPc_checkFromIndexSize_15 : decode prog_35_method_13_code 15 = .ok (.aload_n 3, 1) := by decide +kernel
theorem dPc_checkFromIndexSize_16 : decode prog_35_method_13_code 16 = .ok (.iload_n 0, 1) := by decide +kernel
theorem dPc_checkFromIndexSize_17 : decode prog_35_method_13_code 17 = .ok (.iload_n 1, 1) := by decide +kernel
theorem dPc_checkFromIndexSize_18 : decode prog_35_method_13_code 18 = .ok (.iload_n 2, 1) := by decide +kernel
theorem dPc_checkFromIndexSize_23 : decode prog_35_method_13_code 23 = .ok (.iload_n 0, 1) := by decide +kernel
theorem dPc_checkFromIndexSize_24 : decode prog_35_method_13_code 24 = .ok (.ireturn, 1) := by decide +kernel
theorem dPc_checkIndex_0 : decode prog_35_method_11_code 0 = .ok (.iload_n 0, 1) := by decide +kernel
theorem dPc_checkIndex_1 : decode prog_35_method_11_code 1 = .ok (.ifCond .lt 8, 3) := by decide +kernel
theorem dPc_checkIndex_4 : decode prog_35_method_11_code 4 = .ok (.iload_n 0, 1) := by decide +kernel
theorem dPc_checkIndex_5 : decode prog_35_method_11_code 5 = .ok (.iload_n 1, 1) := by decide +kernel
theorem dPc_checkIndex_6 : decode prog_35_method_11_code 6 = .ok (.if_icmp .lt 10, 3) := by decide +kernel
theorem dPc_checkIndex_9 : decode prog_35_method_11_code 9 = .ok (.aload_n 2, 1) := by decide +kernel
theorem dPc_checkIndex_10 : decode prog_35_method_11_code 10 = .ok (.iload_n 0, 1) := by decide +kernel
theorem dPc_checkIndex_11 : decode prog_35_method_11_code 11 = .ok (.iload_n 1, 1) := by decide +kernel
theorem dPc_checkIndex_16 : decode prog_35_method_11_code 16 = .ok (.iload_n 0, 1) := by decide +kernel
theorem dPc_checkIndex_17 : decode prog_35_method_11_code 17 = .ok (.ireturn, 1) := by decide +kernel
theorem dPc_checkFromToIndex_0 : decode prog_35_method_12_code 0 = .ok (.iload_n 0, 1) := by decide +kernel
theorem dPc_checkFromToIndex_1 : decode prog_35_method_12_code 1 = .ok (.ifCond .lt 13, 3) := by decide +kernel
theorem dPc_checkFromToIndex_4 : decode prog_35_method_12_code 4 = .ok (.iload_n 0, 1) := by decide +kernel
theorem dPc_checkFromToIndex_5 : decode prog_35_method_12_code 5 = .ok (.iload_n 1, 1) := by decide +kernel
theorem dPc_checkFromToIndex_6 : decode prog_35_method_12_code 6 = .ok (.if_icmp .gt 8, 3) := by decide +kernel
theorem dPc_checkFromToIndex_9 : decode prog_35_method_12_code 9 = .ok (.iload_n 1, 1) := by decide +kernel
theorem dPc_checkFromToIndex_10 : decode prog_35_method_12_code 10 = .ok (.iload_n 2, 1) := by decide +kernel
theorem dPc_checkFromToIndex_11 : decode prog_35_method_12_code 11 = .ok (.if_icmp .le 11, 3) := by decide +kernel
theorem dPc_checkFromToIndex_14 : decode prog_35_method_12_code 14 = .ok (.aload_n 3, 1) := by decide +kernel
theorem dPc_checkFromToIndex_15 : decode prog_35_method_12_code 15 = .ok (.iload_n 0, 1) := by decide +kernel
theorem dPc_checkFromToIndex_16 : decode prog_35_method_12_code 16 = .ok (.iload_n 1, 1) := by decide +kernel
theorem dPc_checkFromToIndex_17 : decode prog_35_method_12_code 17 = .ok (.iload_n 2, 1) := by decide +kernel
theorem dPc_checkFromToIndex_22 : decode prog_35_method_12_code 22 = .ok (.iload_n 0, 1) := by decide +kernel
theorem dPc_checkFromToIndex_23 : decode prog_35_method_12_code 23 = .ok (.ireturn, 1) := by decide +kernel
theorem dOb_checkIndex_0 : decode prog_31_method_17_code 0 = .ok (.iload_n 0, 1) := by decide +kernel
theorem dOb_checkIndex_1 : decode prog_31_method_17_code 1 = .ok (.iload_n 1, 1) := by decide +kernel
theorem dOb_checkIndex_2 : decode prog_31_method_17_code 2 = .ok (.aconst_null, 1) := by decide +kernel
theorem dOb_checkIndex_3 : decode prog_31_method_17_code 3 = .ok (.invokestatic 105, 3) := by decide +kernel
theorem dOb_checkIndex_6 : decode prog_31_method_17_code 6 = .ok (.ireturn, 1) := by decide +kernel
theorem zk_AL_1 : zLkI "java/util/AbstractList" 1 M_AC_init 0 := ⟨zc_AC_init, rfl, rfl, zt1 171 rfl, Or.inl (zt1 170 rfl)⟩
theorem zf_AL_7 : zFl "java/util/AbstractList" 7 5 2 := ⟨_, _, _, "java/util/AbstractList", rfl, Nat.le_of_ble_eq_true rfl, in_Al, Or.inl (zt1 178 rfl), Or.inl rfl⟩
theorem zp_AL_init_7 : zPf M_AL_init 7 5 2 .int := ⟨zf_AL_7, _, _, _, ty_Al, rfl, tyok_Al, nm_Al, rfl, Or.inl rfl⟩
theorem zk_Ob_105 : zLkS "java/util/Objects" 105 M_Pc_checkIndex 3 := ⟨zc_Pc_checkIndex, zt2 132 rfl, Or.inl (zt4 104 rfl)⟩
theorem sAL_init_0 {G : zG} {d : Nat} {Q : Option Value → Heap → Prop} {H : Heap} {st : List Value} {a0 : Nat} {P : Heap → Prop} (hd : 1 ≤ d) (hl : st.length ≤ 4) (hc : zC G (d - 1) M_AC_init [(.ref a0)] H (zPv P)) (kk : ∀ H1 : Heap, P H1 → zOk G H1 → H.size ≤ H1.size → zT H ≤ zT H1 → zW G d M_AL_init 4 [some (.ref a0)] st H1 Q) : zW G d M_AL_init 0 [some (.ref a0)] st H Q :=
  zw_aload_n (i := 0) dAL_init_0 rfl rfl zRf_ref <| zw_callI [] _ dAL_init_1 hd zk_AL_1 rfl rfl hl hc (zPv_k kk)
theorem sAL_init_4 {G : zG} {d : Nat} {Q : Option Value → Heap → Prop} {H : Heap} {st : List Value} {a0 : Nat} {b0 : Value} {b1 : Value} {b2 : Value} (ho : zObj G H a0 5 [b0, b1, b2]) (hw : zFr G a0) (kk : ∀ H1 : Heap, zObj G H1 a0 5 [b0, b1, (.int (0 : Int32))] → zUp a0 H H1 → zW G d M_AL_init 9 [some (.ref a0)] st H1 Q) : zW G d M_AL_init 4 [some (.ref a0)] st H Q :=
  zw_aload_n (i := 0) dAL_init_4 rfl rfl zRf_ref <| zw_iconst (0 : Int32) dAL_init_5 zki_0 <| zw_putf (k := 2) dAL_init_6 zp_AL_init_7 ho (Nat.le_of_ble_eq_true rfl) (Nat.le_of_ble_eq_true rfl) hw rfl rfl kk
theorem sAL_init_9 {G : zG} {d : Nat} {Q : Option Value → Heap → Prop} {H : Heap} {o0 : Option Value} (hq : Q none H) : zW G d M_AL_init 9 [o0] [] H Q :=
  zw_vret dAL_init_9 rfl hq
theorem sAC_init_0 {G : zG} {d : Nat} {Q : Option Value → Heap → Prop} {H : Heap} {st : List Value} {a0 : Nat} (hd : 1 ≤ d) (hl : st.length ≤ 4) (kk : zW G d M_AC_init 4 [some (.ref a0)] st H Q) : zW G d M_AC_init 0 [some (.ref a0)] st H Q :=
  zw_aload_n (i := 0) dAC_init_0 rfl rfl zRf_ref <| zw_objInit dAC_init_1 hd (zt1 173 rfl) zo_inst zo_code hl kk
theorem sAC_init_4 {G : zG} {d : Nat} {Q : Option Value → Heap → Prop} {H : Heap} {o0 : Option Value} (hq : Q none H) : zW G d M_AC_init 4 [o0] [] H Q :=
  zw_vret dAC_init_4 rfl hq
theorem sPc_checkFromIndexSize_0 {G : zG} {d : Nat} {Q : Option Value → Heap → Prop} {H : Heap} {st : List Value} {o3 : Option Value} {x2 : Int32} {x0 : Int32} {x1 : Int32} (kt : (((x2 ||| x0) ||| x1) < 0) → zW G d M_Pc_checkFromIndexSize 15 [some (.int x0), some (.int x1), some (.int x2), o3] st H Q) (kf : (¬ ((x2 ||| x0) ||| x1) < 0) → zW G d M_Pc_checkFromIndexSize 8 [some (.int x0), some (.int x1), some (.int x2), o3] st H Q) : zW G d M_Pc_checkFromIndexSize 0 [some (.int x0), some (.int x1), some (.int x2), o3] st H Q :=
  zw_iload_n (i := 2) dPc_checkFromIndexSize_0 rfl rfl <| zw_iload_n (i := 0) dPc_checkFromIndexSize_1 rfl rfl <| zw_ior dPc_checkFromIndexSize_2 <| zw_iload_n (i := 1) dPc_checkFromIndexSize_3 rfl rfl <| zw_ior dPc_checkFromIndexSize_4 <| zw_if_lt 15 dPc_checkFromIndexSize_5 (by decide) kt kf
theorem sPc_checkFromIndexSize_8 {G : zG} {d : Nat} {Q : Option Value → Heap → Prop} {H : Heap} {st : List Value} {o3 : Option Value} {x1 : Int32} {x2 : Int32} {x0 : Int32} (kt : (x1 ≤ (x2 - x0)) → zW G d M_Pc_checkFromIndexSize 23 [some (.int x0), some (.int x1), some (.int x2), o3] st H Q) (kf : (¬ x1 ≤ (x2 - x0)) → zW G d M_Pc_checkFromIndexSize 15 [some (.int x0), some (.int x1), some (.int x2), o3] st H Q) : zW G d M_Pc_checkFromIndexSize 8 [some (.int x0), some (.int x1), some (.int x2), o3] st H Q :=
  zw_iload_n (i := 1) dPc_checkFromIndexSize_8 rfl rfl <| zw_iload_n (i := 2) dPc_checkFromIndexSize_9 rfl rfl <| zw_iload_n (i := 0) dPc_checkFromIndexSize_10 rfl rfl <| zw_isub dPc_checkFromIndexSize_11 <| zw_icmp_le 23 dPc_checkFromIndexSize_12 (by decide) kt kf
theorem sPc_checkFromIndexSize_15 {G : zG} {d : Nat} {Q : Option Value → Heap → Prop} {H : Heap} {st : List Value} {v3 : Value} {x0 : Int32} {x1 : Int32} {x2 : Int32} (hr3 : zRf v3 := by first | exact zRf_ref | exact zRf_null | exact zRf_rf _ | assumption) (kk : zW G d M_Pc_checkFromIndexSize 19 [some (.int x0), some (.int x1), some (.int x2), some v3] ((.int x2) :: (.int x1) :: (.int x0) :: v3 :: st) H Q) : zW G d M_Pc_checkFromIndexSize 15 [some (.int x0), some (.int x1), some (.int x2), some v3] st H Q :=
  zw_aload_n (i := 3) dPc_checkFromIndexSize_15 rfl rfl hr3 <| zw_iload_n (i := 0) dPc_checkFromIndexSize_16 rfl rfl <| zw_iload_n (i := 1) dPc_checkFromIndexSize_17 rfl rfl <| zw_iload_n (i := 2) dPc_checkFromIndexSize_18 rfl rfl <| kk
theorem sPc_checkFromIndexSize_23 {G : zG} {d : Nat} {Q : Option Value → Heap → Prop} {H : Heap} {o1 : Option Value} {o2 : Option Value} {o3 : Option Value} {x0 : Int32} (hq : Q (some (.int x0)) H) : zW G d M_Pc_checkFromIndexSize 23 [some (.int x0), o1, o2, o3] [] H Q :=
  zw_iload_n (i := 0) dPc_checkFromIndexSize_23 rfl rfl <| zw_iret dPc_checkFromIndexSize_24 .int rfl rfl hq
theorem sPc_checkIndex_0 {G : zG} {d : Nat} {Q : Option Value → Heap → Prop} {H : Heap} {st : List Value} {o1 : Option Value} {o2 : Option Value} {x0 : Int32} (kt : (x0 < 0) → zW G d M_Pc_checkIndex 9 [some (.int x0), o1, o2] st H Q) (kf : (¬ x0 < 0) → zW G d M_Pc_checkIndex 4 [some (.int x0), o1, o2] st H Q) : zW G d M_Pc_checkIndex 0 [some (.int x0), o1, o2] st H Q :=
  zw_iload_n (i := 0) dPc_checkIndex_0 rfl rfl <| zw_if_lt 9 dPc_checkIndex_1 (by decide) kt kf
theorem sPc_checkIndex_4 {G : zG} {d : Nat} {Q : Option Value → Heap → Prop} {H : Heap} {st : List Value} {o2 : Option Value} {x0 : Int32} {x1 : Int32} (kt : (x0 < x1) → zW G d M_Pc_checkIndex 16 [some (.int x0), some (.int x1), o2] st H Q) (kf : (¬ x0 < x1) → zW G d M_Pc_checkIndex 9 [some (.int x0), some (.int x1), o2] st H Q) : zW G d M_Pc_checkIndex 4 [some (.int x0), some (.int x1), o2] st H Q :=
  zw_iload_n (i := 0) dPc_checkIndex_4 rfl rfl <| zw_iload_n (i := 1) dPc_checkIndex_5 rfl rfl <| zw_icmp_lt 16 dPc_checkIndex_6 (by decide) kt kf
theorem sPc_checkIndex_9 {G : zG} {d : Nat} {Q : Option Value → Heap → Prop} {H : Heap} {st : List Value} {v2 : Value} {x0 : Int32} {x1 : Int32} (hr2 : zRf v2 := by first | exact zRf_ref | exact zRf_null | exact zRf_rf _ | assumption) (kk : zW G d M_Pc_checkIndex 12 [some (.int x0), some (.int x1), some v2] ((.int x1) :: (.int x0) :: v2 :: st) H Q) : zW G d M_Pc_checkIndex 9 [some (.int x0), some (.int x1), some v2] st H Q :=
  zw_aload_n (i := 2) dPc_checkIndex_9 rfl rfl hr2 <| zw_iload_n (i := 0) dPc_checkIndex_10 rfl rfl <| zw_iload_n (i := 1) dPc_checkIndex_11 rfl rfl <| kk
theorem sPc_checkIndex_16 {G : zG} {d : Nat} {Q : Option Value → Heap → Prop} {H : Heap} {o1 : Option Value} {o2 : Option Value} {x0 : Int32} (hq : Q (some (.int x0)) H) : zW G d M_Pc_checkIndex 16 [some (.int x0), o1, o2] [] H Q :=
  zw_iload_n (i := 0) dPc_checkIndex_16 rfl rfl <| zw_iret dPc_checkIndex_17 .int rfl rfl hq
theorem sPc_checkFromToIndex_0 {G : zG} {d : Nat} {Q : Option Value → Heap → Prop} {H : Heap} {st : List Value} {o1 : Option Value} {o2 : Option Value} {o3 : Option Value} {x0 : Int32} (kt : (x0 < 0) → zW G d M_Pc_checkFromToIndex 14 [some (.int x0), o1, o2, o3] st H Q) (kf : (¬ x0 < 0) → zW G d M_Pc_checkFromToIndex 4 [some (.int x0), o1, o2, o3] st H Q) : zW G d M_Pc_checkFromToIndex 0 [some (.int x0), o1, o2, o3] st H Q :=
  zw_iload_n (i := 0) dPc_checkFromToIndex_0 rfl rfl <| zw_if_lt 14 dPc_checkFromToIndex_1 (by decide) kt kf
theorem sPc_checkFromToIndex_4 {G : zG} {d : Nat} {Q : Option Value → Heap → Prop} {H : Heap} {st : List Value} {o2 : Option Value} {o3 : Option Value} {x0 : Int32} {x1 : Int32} (kt : (x1 < x0) → zW G d M_Pc_checkFromToIndex 14 [some (.int x0), some (.int x1), o2, o3] st H Q) (kf : (¬ x1 < x0) → zW G d M_Pc_checkFromToIndex 9 [some (.int x0), some (.int x1), o2, o3] st H Q) : zW G d M_Pc_checkFromToIndex 4 [some (.int x0), some (.int x1), o2, o3] st H Q :=
  zw_iload_n (i := 0) dPc_checkFromToIndex_4 rfl rfl <| zw_iload_n (i := 1) dPc_checkFromToIndex_5 rfl rfl <| zw_icmp_gt 14 dPc_checkFromToIndex_6 (by decide) kt kf
theorem sPc_checkFromToIndex_9 {G : zG} {d : Nat} {Q : Option Value → Heap → Prop} {H : Heap} {st : List Value} {o0 : Option Value} {o3 : Option Value} {x1 : Int32} {x2 : Int32} (kt : (x1 ≤ x2) → zW G d M_Pc_checkFromToIndex 22 [o0, some (.int x1), some (.int x2), o3] st H Q) (kf : (¬ x1 ≤ x2) → zW G d M_Pc_checkFromToIndex 14 [o0, some (.int x1), some (.int x2), o3] st H Q) : zW G d M_Pc_checkFromToIndex 9 [o0, some (.int x1), some (.int x2), o3] st H Q :=
  zw_iload_n (i := 1) dPc_checkFromToIndex_9 rfl rfl <| zw_iload_n (i := 2) dPc_checkFromToIndex_10 rfl rfl <| zw_icmp_le 22 dPc_checkFromToIndex_11 (by decide) kt kf
theorem sPc_checkFromToIndex_14 {G : zG} {d : Nat} {Q : Option Value → Heap → Prop} {H : Heap} {st : List Value} {v3 : Value} {x0 : Int32} {x1 : Int32} {x2 : Int32} (hr3 : zRf v3 := by first | exact zRf_ref | exact zRf_null | exact zRf_rf _ | assumption) (kk : zW G d M_Pc_checkFromToIndex 18 [some (.int x0), some (.int x1), some (.int x2), some v3] ((.int x2) :: (.int x1) :: (.int x0) :: v3 :: st) H Q) : zW G d M_Pc_checkFromToIndex 14 [some (.int x0), some (.int x1), some (.int x2), some v3] st H Q :=
  zw_aload_n (i := 3) dPc_checkFromToIndex_14 rfl rfl hr3 <| zw_iload_n (i := 0) dPc_checkFromToIndex_15 rfl rfl <| zw_iload_n (i := 1) dPc_checkFromToIndex_16 rfl rfl <| zw_iload_n (i := 2) dPc_checkFromToIndex_17 rfl rfl <| kk
theorem sPc_checkFromToIndex_22 {G : zG} {d : Nat} {Q : Option Value → Heap → Prop} {H : Heap} {o1 : Option Value} {o2 : Option Value} {o3 : Option Value} {x0 : Int32} (hq : Q (some (.int x0)) H) : zW G d M_Pc_checkFromToIndex 22 [some (.int x0), o1, o2, o3] [] H Q :=
  zw_iload_n (i := 0) dPc_checkFromToIndex_22 rfl rfl <| zw_iret dPc_checkFromToIndex_23 .int rfl rfl hq
theorem sOb_checkIndex_0 {G : zG} {d : Nat} {Q : Option Value → Heap → Prop} {H : Heap} {st : List Value} {x0 : Int32} {x1 : Int32} {P : Int32 → Heap → Prop} (hd : 1 ≤ d) (hl : st.length ≤ 4) (hc : zC G (d - 1) M_Pc_checkIndex [(.int x0), (.int x1), .null] H (zPi P)) (kk : ∀ (r : Int32) (H1 : Heap), P r H1 → zOk G H1 → H.size ≤ H1.size → zT H ≤ zT H1 → zW G d M_Ob_checkIndex 6 [some (.int x0), some (.int x1)] ((.int r) :: st) H1 Q) : zW G d M_Ob_checkIndex 0 [some (.int x0), some (.int x1)] st H Q :=
  zw_iload_n (i := 0) dOb_checkIndex_0 rfl rfl <| zw_iload_n (i := 1) dOb_checkIndex_1 rfl rfl <| zw_null dOb_checkIndex_2 <| zw_callS [(.int x0), (.int x1), .null] _ dOb_checkIndex_3 hd zk_Ob_105 rfl rfl hl hc (zPi_k kk)
theorem sOb_checkIndex_6 {G : zG} {d : Nat} {Q : Option Value → Heap → Prop} {H : Heap} {o0 : Option Value} {o1 : Option Value} {xs0 : Int32} (hq : Q (some (.int xs0)) H) : zW G d M_Ob_checkIndex 6 [o0, o1] ((.int xs0) :: []) H Q :=
  zw_iret dOb_checkIndex_6 .int rfl rfl hq
end
section
theorem pn_N_init : plainFor M_N_init.1 = true := by decide +kernel
theorem pn_Sb_init : plainFor M_Sb_init.1 = true := by decide +kernel
theorem pn_Ab_init : plainFor M_Ab_init.1 = true := by decide +kernel
theorem pn_Ad_init : plainFor M_Ad_init.1 = true := by decide +kernel
theorem pn_Fl_init : plainFor M_Fl_init.1 = true := by decide +kernel
theorem pn_An_init : plainFor M_An_init.1 = true := by decide +kernel
theorem pn_Al_init : plainFor M_Al_init.1 = true := by decide +kernel
theorem pn_AL_init : plainFor M_AL_init.1 = true := by decide +kernel
theorem pn_AC_init : plainFor M_AC_init.1 = true := by decide +kernel
theorem pn_Jr_init : plainFor M_Jr_init.1 = true := by decide +kernel
theorem pn_Kp_init : plainFor M_Kp_init.1 = true := by decide +kernel
theorem pn_N_feed : plainFor M_N_feed.1 = true := by decide +kernel
theorem pn_Sb_length : plainFor M_Sb_length.1 = true := by decide +kernel
theorem pn_Ab_length : plainFor M_Ab_length.1 = true := by decide +kernel
theorem pn_N_addWord : plainFor M_N_addWord.1 = true := by decide +kernel
theorem pn_Sb_append_0 : plainFor M_Sb_append_0.1 = true := by decide +kernel
theorem pn_Ab_append_0 : plainFor M_Ab_append_0.1 = true := by decide +kernel
theorem pn_Ab_ensureCapacityInternal : plainFor M_Ab_ensureCapacityInternal.1 = true := by decide +kernel
theorem pn_Ab_newCapacity : plainFor M_Ab_newCapacity.1 = true := by decide +kernel
theorem pn_AS_newLength : plainFor M_AS_newLength.1 = true := by decide +kernel
theorem pn_Ma_max : plainFor M_Ma_max.1 = true := by decide +kernel
theorem pn_AS_hugeLength : plainFor M_AS_hugeLength.1 = true := by decide +kernel
theorem pn_Ar_copyOf_0 : plainFor M_Ar_copyOf_0.1 = true := by decide +kernel
theorem pn_Ma_min : plainFor M_Ma_min.1 = true := by decide +kernel
theorem pn_Ab_isLatin1 : plainFor M_Ab_isLatin1.1 = true := by decide +kernel
theorem pn_L1_canEncode_0 : plainFor M_L1_canEncode_0.1 = true := by decide +kernel
theorem pn_Ab_inflate : plainFor M_Ab_inflate.1 = true := by decide +kernel
theorem pn_L1_inflate : plainFor M_L1_inflate.1 = true := by decide +kernel
theorem pn_St_checkBoundsOffCount : plainFor M_St_checkBoundsOffCount.1 = true := by decide +kernel
theorem pn_Pc_checkFromIndexSize : plainFor M_Pc_checkFromIndexSize.1 = true := by decide +kernel
theorem pn_St_checkIndex : plainFor M_St_checkIndex.1 = true := by decide +kernel
theorem pn_Pc_checkIndex : plainFor M_Pc_checkIndex.1 = true := by decide +kernel
theorem pn_N_end : plainFor M_N_end.1 = true := by decide +kernel
theorem pn_Sb_setLength : plainFor M_Sb_setLength.1 = true := by decide +kernel
theorem pn_Ab_setLength : plainFor M_Ab_setLength.1 = true := by decide +kernel
theorem pn_L1_fillNull : plainFor M_L1_fillNull.1 = true := by decide +kernel
theorem pn_Ar_fill : plainFor M_Ar_fill.1 = true := by decide +kernel
theorem pn_Ar_rangeCheck : plainFor M_Ar_rangeCheck.1 = true := by decide +kernel
theorem pn_N_out : plainFor M_N_out.1 = true := by decide +kernel
theorem pn_Sb_charAt : plainFor M_Sb_charAt.1 = true := by decide +kernel
theorem pn_Ab_charAt : plainFor M_Ab_charAt.1 = true := by decide +kernel
theorem pn_N_resolve : plainFor M_N_resolve.1 = true := by decide +kernel
theorem pn_N_takeText : plainFor M_N_takeText.1 = true := by decide +kernel
theorem pn_Sb_toString : plainFor M_Sb_toString.1 = true := by decide +kernel
theorem pn_St_init_0 : plainFor M_St_init_0.1 = true := by decide +kernel
theorem pn_St_init_1 : plainFor M_St_init_1.1 = true := by decide +kernel
theorem pn_Ab_getValue : plainFor M_Ab_getValue.1 = true := by decide +kernel
theorem pn_Ar_copyOfRange : plainFor M_Ar_copyOfRange.1 = true := by decide +kernel
theorem pn_Ar_copyOfRangeByte : plainFor M_Ar_copyOfRangeByte.1 = true := by decide +kernel
theorem pn_Ar_checkLength : plainFor M_Ar_checkLength.1 = true := by decide +kernel
theorem pn_Tx_badByte : plainFor M_Tx_badByte.1 = true := by decide +kernel
theorem pn_St_length : plainFor M_St_length.1 = true := by decide +kernel
theorem pn_St_coder : plainFor M_St_coder.1 = true := by decide +kernel
theorem pn_St_charAt : plainFor M_St_charAt.1 = true := by decide +kernel
theorem pn_St_isLatin1 : plainFor M_St_isLatin1.1 = true := by decide +kernel
theorem pn_L1_charAt : plainFor M_L1_charAt.1 = true := by decide +kernel
theorem pn_Ad_read : plainFor M_Ad_read.1 = true := by decide +kernel
theorem pn_Ad_placeOrLength : plainFor M_Ad_placeOrLength.1 = true := by decide +kernel
theorem pn_St_indexOf_0 : plainFor M_St_indexOf_0.1 = true := by decide +kernel
theorem pn_St_indexOf_1 : plainFor M_St_indexOf_1.1 = true := by decide +kernel
theorem pn_L1_indexOf : plainFor M_L1_indexOf.1 = true := by decide +kernel
theorem pn_L1_canEncode_1 : plainFor M_L1_canEncode_1.1 = true := by decide +kernel
theorem pn_L1_indexOfChar : plainFor M_L1_indexOfChar.1 = true := by decide +kernel
theorem pn_St_checkBoundsBeginEnd : plainFor M_St_checkBoundsBeginEnd.1 = true := by decide +kernel
theorem pn_Pc_checkFromToIndex : plainFor M_Pc_checkFromToIndex.1 = true := by decide +kernel
theorem pn_St_substring_0 : plainFor M_St_substring_0.1 = true := by decide +kernel
theorem pn_L1_newString : plainFor M_L1_newString.1 = true := by decide +kernel
theorem pn_St_init_2 : plainFor M_St_init_2.1 = true := by decide +kernel
theorem pn_St_substring_1 : plainFor M_St_substring_1.1 = true := by decide +kernel
theorem pn_Ad_isQuery : plainFor M_Ad_isQuery.1 = true := by decide +kernel
theorem pn_St_isEmpty : plainFor M_St_isEmpty.1 = true := by decide +kernel
theorem pn_Tx_hasOnly : plainFor M_Tx_hasOnly.1 = true := by decide +kernel
theorem pn_Tx_isSmallLetter : plainFor M_Tx_isSmallLetter.1 = true := by decide +kernel
theorem pn_Tx_isDigit : plainFor M_Tx_isDigit.1 = true := by decide +kernel
theorem pn_Tx_isName : plainFor M_Tx_isName.1 = true := by decide +kernel
theorem pn_Tx_noNameAt : plainFor M_Tx_noNameAt.1 = true := by decide +kernel
theorem pn_Pt_init : plainFor M_Pt_init.1 = true := by decide +kernel
theorem pn_Tx_begins : plainFor M_Tx_begins.1 = true := by decide +kernel
theorem pn_St_equals : plainFor M_St_equals.1 = true := by decide +kernel
theorem pn_L1_equals : plainFor M_L1_equals.1 = true := by decide +kernel
theorem pn_Pt_startBeside : plainFor M_Pt_startBeside.1 = true := by decide +kernel
theorem pn_Sb_append_1 : plainFor M_Sb_append_1.1 = true := by decide +kernel
theorem pn_Ab_append_1 : plainFor M_Ab_append_1.1 = true := by decide +kernel
theorem pn_Ab_appendNull : plainFor M_Ab_appendNull.1 = true := by decide +kernel
theorem pn_Ab_putStringAt : plainFor M_Ab_putStringAt.1 = true := by decide +kernel
theorem pn_Ab_inflateIfNeededFor : plainFor M_Ab_inflateIfNeededFor.1 = true := by decide +kernel
theorem pn_St_getBytes : plainFor M_St_getBytes.1 = true := by decide +kernel
theorem pn_Ad_segments : plainFor M_Ad_segments.1 = true := by decide +kernel
theorem pn_Pt_pop : plainFor M_Pt_pop.1 = true := by decide +kernel
theorem pn_Pt_take : plainFor M_Pt_take.1 = true := by decide +kernel
theorem pn_Pt_takeOne : plainFor M_Pt_takeOne.1 = true := by decide +kernel
theorem pn_Pt_push : plainFor M_Pt_push.1 = true := by decide +kernel
theorem pn_N_writeAddress : plainFor M_N_writeAddress.1 = true := by decide +kernel
theorem pn_Ad_appendTo : plainFor M_Ad_appendTo.1 = true := by decide +kernel
theorem pn_N_base : plainFor M_N_base.1 = true := by decide +kernel
theorem pn_N_server : plainFor M_N_server.1 = true := by decide +kernel
theorem pn_Sv_init : plainFor M_Sv_init.1 = true := by decide +kernel
theorem pn_Sv_firstWrong : plainFor M_Sv_firstWrong.1 = true := by decide +kernel
theorem pn_Sv_takeAddress : plainFor M_Sv_takeAddress.1 = true := by decide +kernel
theorem pn_Fl_take : plainFor M_Fl_take.1 = true := by decide +kernel
theorem pn_Fl_takeAge : plainFor M_Fl_takeAge.1 = true := by decide +kernel
theorem pn_Tx_isNumber : plainFor M_Tx_isNumber.1 = true := by decide +kernel
theorem pn_Tx_number : plainFor M_Tx_number.1 = true := by decide +kernel
theorem pn_Fl_takeCookie : plainFor M_Fl_takeCookie.1 = true := by decide +kernel
theorem pn_N_placeOfAnswer : plainFor M_N_placeOfAnswer.1 = true := by decide +kernel
theorem pn_Al_size : plainFor M_Al_size.1 = true := by decide +kernel
theorem pn_Al_get : plainFor M_Al_get.1 = true := by decide +kernel
theorem pn_Ob_checkIndex : plainFor M_Ob_checkIndex.1 = true := by decide +kernel
theorem pn_Al_elementData : plainFor M_Al_elementData.1 = true := by decide +kernel
theorem pn_Ad_isSamePlace : plainFor M_Ad_isSamePlace.1 = true := by decide +kernel
theorem pn_Al_set : plainFor M_Al_set.1 = true := by decide +kernel
theorem pn_Al_add_0 : plainFor M_Al_add_0.1 = true := by decide +kernel
theorem pn_Al_add_1 : plainFor M_Al_add_1.1 = true := by decide +kernel
theorem pn_Al_grow_0 : plainFor M_Al_grow_0.1 = true := by decide +kernel
theorem pn_Al_grow_1 : plainFor M_Al_grow_1.1 = true := by decide +kernel
theorem pn_Ar_copyOf_1 : plainFor M_Ar_copyOf_1.1 = true := by decide +kernel
theorem pn_Ar_copyOf_2 : plainFor M_Ar_copyOf_2.1 = true := by decide +kernel
theorem pn_N_fetch : plainFor M_N_fetch.1 = true := by decide +kernel
theorem pn_N_follow : plainFor M_N_follow.1 = true := by decide +kernel
theorem pn_N_answerFrom : plainFor M_N_answerFrom.1 = true := by decide +kernel
theorem pn_Kp_fresh : plainFor M_Kp_fresh.1 = true := by decide +kernel
theorem pn_Kp_placeOf : plainFor M_Kp_placeOf.1 = true := by decide +kernel
theorem pn_N_request : plainFor M_N_request.1 = true := by decide +kernel
theorem pn_Jr_tell : plainFor M_Jr_tell.1 = true := by decide +kernel
theorem pn_Ck_init : plainFor M_Ck_init.1 = true := by decide +kernel
theorem pn_Jr_put : plainFor M_Jr_put.1 = true := by decide +kernel
theorem pn_Kt_init : plainFor M_Kt_init.1 = true := by decide +kernel
theorem pn_Kp_put : plainFor M_Kp_put.1 = true := by decide +kernel
theorem pn_Al_remove : plainFor M_Al_remove.1 = true := by decide +kernel
theorem pn_Al_fastRemove : plainFor M_Al_fastRemove.1 = true := by decide +kernel
theorem pn_N_body : plainFor M_N_body.1 = true := by decide +kernel
theorem pn_N_tick : plainFor M_N_tick.1 = true := by decide +kernel
theorem pn_N_forget : plainFor M_N_forget.1 = true := by decide +kernel
theorem pn_Jr_dropLast : plainFor M_Jr_dropLast.1 = true := by decide +kernel
theorem pn_N_write : plainFor M_N_write.1 = true := by decide +kernel
theorem pn_N_count : plainFor M_N_count.1 = true := by decide +kernel
theorem pn_Jr_size : plainFor M_Jr_size.1 = true := by decide +kernel
theorem pn_Kp_size : plainFor M_Kp_size.1 = true := by decide +kernel
theorem pn_Mo_server : plainFor M_Mo_server.1 = true := by decide +kernel
theorem pn_Mo_take : plainFor M_Mo_take.1 = true := by decide +kernel
theorem pn_Mo_wrong : plainFor M_Mo_wrong.1 = true := by decide +kernel
theorem pn_Mo_tokenEnd : plainFor M_Mo_tokenEnd.1 = true := by decide +kernel
theorem pn_Mo_isBlank : plainFor M_Mo_isBlank.1 = true := by decide +kernel
theorem pn_Mo_refer : plainFor M_Mo_refer.1 = true := by decide +kernel
theorem pn_Mo_nameEnd : plainFor M_Mo_nameEnd.1 = true := by decide +kernel
theorem pn_Mo_isSmall : plainFor M_Mo_isSmall.1 = true := by decide +kernel
theorem pn_Mo_isDigit : plainFor M_Mo_isDigit.1 = true := by decide +kernel
theorem pn_Mo_put : plainFor M_Mo_put.1 = true := by decide +kernel
theorem pn_Mo_segments : plainFor M_Mo_segments.1 = true := by decide +kernel
theorem pn_Mo_oneSegment : plainFor M_Mo_oneSegment.1 = true := by decide +kernel
theorem pn_Mo_isSegment : plainFor M_Mo_isSegment.1 = true := by decide +kernel
theorem pn_Mo_segment : plainFor M_Mo_segment.1 = true := by decide +kernel
theorem pn_Mo_siteEnd : plainFor M_Mo_siteEnd.1 = true := by decide +kernel
theorem pn_Mo_baseSegments : plainFor M_Mo_baseSegments.1 = true := by decide +kernel
theorem pn_Mo_queryAt : plainFor M_Mo_queryAt.1 = true := by decide +kernel
theorem pn_Mo_query : plainFor M_Mo_query.1 = true := by decide +kernel
theorem pn_Mo_isQuery : plainFor M_Mo_isQuery.1 = true := by decide +kernel
theorem pn_Mo_copyRow : plainFor M_Mo_copyRow.1 = true := by decide +kernel
theorem pn_Mo_field : plainFor M_Mo_field.1 = true := by decide +kernel
theorem pn_Mo_isWord : plainFor M_Mo_isWord.1 = true := by decide +kernel
theorem pn_Mo_alike : plainFor M_Mo_alike.1 = true := by decide +kernel
theorem pn_Mo_same : plainFor M_Mo_same.1 = true := by decide +kernel
theorem pn_Mo_init : plainFor M_Mo_init.1 = true := by decide +kernel
theorem pn_Mo_feed : plainFor M_Mo_feed.1 = true := by decide +kernel
theorem pn_Mo_putFour : plainFor M_Mo_putFour.1 = true := by decide +kernel
theorem pn_Mo_end : plainFor M_Mo_end.1 = true := by decide +kernel
theorem pn_Mo_out : plainFor M_Mo_out.1 = true := by decide +kernel
theorem pn_Mo_resolve : plainFor M_Mo_resolve.1 = true := by decide +kernel
theorem pn_Mo_sayRow : plainFor M_Mo_sayRow.1 = true := by decide +kernel
theorem pn_Mo_sayAll : plainFor M_Mo_sayAll.1 = true := by decide +kernel
theorem pn_Mo_say : plainFor M_Mo_say.1 = true := by decide +kernel
theorem pn_Mo_base : plainFor M_Mo_base.1 = true := by decide +kernel
theorem pn_Mo_fetch : plainFor M_Mo_fetch.1 = true := by decide +kernel
theorem pn_Mo_fetchIt : plainFor M_Mo_fetchIt.1 = true := by decide +kernel
theorem pn_Mo_ask : plainFor M_Mo_ask.1 = true := by decide +kernel
theorem pn_Mo_tellCookies : plainFor M_Mo_tellCookies.1 = true := by decide +kernel
theorem pn_Mo_send : plainFor M_Mo_send.1 = true := by decide +kernel
theorem pn_Mo_dropCookie : plainFor M_Mo_dropCookie.1 = true := by decide +kernel
theorem pn_Mo_keep : plainFor M_Mo_keep.1 = true := by decide +kernel
theorem pn_Mo_body : plainFor M_Mo_body.1 = true := by decide +kernel
theorem pn_Mo_tick : plainFor M_Mo_tick.1 = true := by decide +kernel
theorem pn_Mo_forget : plainFor M_Mo_forget.1 = true := by decide +kernel
theorem pn_Mo_write : plainFor M_Mo_write.1 = true := by decide +kernel
theorem pn_Mo_count : plainFor M_Mo_count.1 = true := by decide +kernel
end
section
theorem zcp_Ar_150 : Cond.methodLink "java/util/Arrays" 150 arraycopyName ∈ lw_tbl := zt2 78 rfl
theorem zcp_St_212 : Cond.methodLink "java/lang/String" 212 arraycopyName ∈ lw_tbl := zt3 201 rfl
theorem zcp_Al_112 : Cond.methodLink "java/util/ArrayList" 112 arraycopyName ∈ lw_tbl := zt5 16 rfl
theorem zcp_nat : Cond.native arraycopyName ∈ lw_tbl := zt2 80 rfl
theorem zcp_stat : Cond.static arraycopyName ∈ lw_tbl := zt2 79 rfl
theorem zcp_init : Cond.initialized "java/lang/System" ∈ lw_tbl := zt1 18 rfl
theorem zcl_Ar_310 : Cond.methodLink "java/util/Arrays" 310 ⟨"[B", "clone", "()Ljava/lang/Object;"⟩ ∈ lw_tbl := zt2 68 rfl
theorem zcl_1 : Cond.sameMethod "[B" "java/lang/Object" "clone" "()Ljava/lang/Object;" ∈ lw_tbl := zt2 69 rfl
theorem zcl_2 : Cond.native ⟨"java/lang/Object", "clone", "()Ljava/lang/Object;"⟩ ∈ lw_tbl := zt2 70 rfl
theorem zcl_3 : Cond.instanceMethod ⟨"java/lang/Object", "clone", "()Ljava/lang/Object;"⟩ ∈ lw_tbl := zt2 71 rfl
theorem zcl_4 : Cond.selects "[B" ⟨"[B", "clone", "()Ljava/lang/Object;"⟩ ⟨"java/lang/Object", "clone", "()Ljava/lang/Object;"⟩ ∈ lw_tbl := zt2 72 rfl
theorem zcl_5 : Cond.castable "[B" "java/lang/Cloneable" ∈ lw_tbl := zt2 73 rfl
theorem zgc_Ar_86 : Cond.methodLink "java/util/Arrays" 86 ⟨"java/lang/Object", "getClass", "()Ljava/lang/Class;"⟩ ∈ lw_tbl := zt4 138 rfl
theorem zgc_1 : Cond.declares ⟨"java/lang/Object", "getClass", "()Ljava/lang/Class;"⟩ ∈ lw_tbl := zt6 168 rfl
theorem zgc_2 : Cond.selects "[Ljava/lang/Object;" ⟨"java/lang/Object", "getClass", "()Ljava/lang/Class;"⟩ ⟨"java/lang/Object", "getClass", "()Ljava/lang/Class;"⟩ ∈ lw_tbl := zt6 167 rfl
theorem zgc_3 : Cond.instanceMethod ⟨"java/lang/Object", "getClass", "()Ljava/lang/Class;"⟩ ∈ lw_tbl := zt4 139 rfl
theorem zgc_4 : Cond.native ⟨"java/lang/Object", "getClass", "()Ljava/lang/Class;"⟩ ∈ lw_tbl := zt4 155 rfl
theorem zcx_La_7 : Cond.classLink "NetDeskLaw" 7 "NetDesk" ∈ lw_tbl := zt1 28 rfl
theorem zcx_N_7 : Cond.classLink "NetDesk" 7 "java/lang/StringBuilder" ∈ lw_tbl := zt1 36 rfl
theorem zcx_N_19 : Cond.classLink "NetDesk" 19 "NetDesk$Address" ∈ lw_tbl := zt1 69 rfl
theorem zcx_N_33 : Cond.classLink "NetDesk" 33 "NetDesk$Answer" ∈ lw_tbl := zt1 95 rfl
theorem zcx_N_35 : Cond.classLink "NetDesk" 35 "NetDesk$Fields" ∈ lw_tbl := zt1 97 rfl
theorem zcx_N_45 : Cond.classLink "NetDesk" 45 "java/util/ArrayList" ∈ lw_tbl := zt1 162 rfl
theorem zcx_N_52 : Cond.classLink "NetDesk" 52 "NetDesk$Jar" ∈ lw_tbl := zt1 188 rfl
theorem zcx_Jr_9 : Cond.classLink "NetDesk$Jar" 9 "java/util/ArrayList" ∈ lw_tbl := zt1 194 rfl
theorem zcx_N_59 : Cond.classLink "NetDesk" 59 "NetDesk$Keep" ∈ lw_tbl := zt1 200 rfl
theorem zcx_Kp_9 : Cond.classLink "NetDesk$Keep" 9 "java/util/ArrayList" ∈ lw_tbl := zt1 206 rfl
theorem zcx_Ar_311 : Cond.classLink "java/util/Arrays" 311 "[B" ∈ lw_tbl := zt2 74 rfl
theorem zcx_Sb_18 : Cond.classLink "java/lang/StringBuilder" 18 "java/lang/String" ∈ lw_tbl := zt2 186 rfl
theorem zcx_L1_1 : Cond.classLink "java/lang/StringLatin1" 1 "java/lang/String" ∈ lw_tbl := zt3 92 rfl
theorem zcx_U16_3 : Cond.classLink "java/lang/StringUTF16" 3 "java/lang/String" ∈ lw_tbl := zt3 104 rfl
theorem zcx_Ad_8 : Cond.classLink "NetDesk$Address" 8 "NetDesk$Address" ∈ lw_tbl := zt3 136 rfl
theorem zcx_Ad_57 : Cond.classLink "NetDesk$Address" 57 "NetDesk$Path" ∈ lw_tbl := zt3 138 rfl
theorem zcx_Pt_7 : Cond.classLink "NetDesk$Path" 7 "java/lang/StringBuilder" ∈ lw_tbl := zt3 144 rfl
theorem zcx_St_10 : Cond.classLink "java/lang/String" 10 "java/lang/String" ∈ lw_tbl := zt3 163 rfl
theorem zcx_N_138 : Cond.classLink "NetDesk" 138 "NetDesk$ServerText" ∈ lw_tbl := zt4 17 rfl
theorem zcx_Sv_9 : Cond.classLink "NetDesk$ServerText" 9 "NetDesk$Fields" ∈ lw_tbl := zt4 23 rfl
theorem zcx_Ar_110 : Cond.classLink "java/util/Arrays" 110 "[Ljava/lang/Object;" ∈ lw_tbl := zt4 159 rfl
theorem zcx_Ar_2 : Cond.classLink "java/util/Arrays" 2 "java/lang/Object" ∈ lw_tbl := zt4 161 rfl
theorem zcx_Al_7 : Cond.classLink "java/util/ArrayList" 7 "java/lang/Object" ∈ lw_tbl := zt4 163 rfl
theorem zcx_Kp_30 : Cond.classLink "NetDesk$Keep" 30 "NetDesk$Kept" ∈ lw_tbl := zt4 186 rfl
theorem zcx_Jr_26 : Cond.classLink "NetDesk$Jar" 26 "NetDesk$Cookie" ∈ lw_tbl := zt4 198 rfl
theorem zcx_N_242 : Cond.classLink "NetDesk" 242 "NetDesk$Cookie" ∈ lw_tbl := zt4 204 rfl
theorem zcx_N_257 : Cond.classLink "NetDesk" 257 "NetDesk$Kept" ∈ lw_tbl := zt4 229 rfl
theorem zcx_La_10 : Cond.classLink "NetDeskLaw" 10 "NetDeskModel" ∈ lw_tbl := zt5 147 rfl
theorem zco_N : Cond.castable "NetDesk" "java/lang/Object" ∈ lw_tbl := zt6 169 rfl
theorem zco_Ad : Cond.castable "NetDesk$Address" "java/lang/Object" ∈ lw_tbl := zt6 170 rfl
theorem zco_An : Cond.castable "NetDesk$Answer" "java/lang/Object" ∈ lw_tbl := zt6 171 rfl
theorem zco_Fl : Cond.castable "NetDesk$Fields" "java/lang/Object" ∈ lw_tbl := zt6 172 rfl
theorem zco_Jr : Cond.castable "NetDesk$Jar" "java/lang/Object" ∈ lw_tbl := zt6 173 rfl
theorem zco_Kp : Cond.castable "NetDesk$Keep" "java/lang/Object" ∈ lw_tbl := zt6 174 rfl
theorem zco_Mo : Cond.castable "NetDeskModel" "java/lang/Object" ∈ lw_tbl := zt6 175 rfl
theorem zco_St : Cond.castable "java/lang/String" "java/lang/Object" ∈ lw_tbl := zt6 176 rfl
theorem zco_Pt : Cond.castable "NetDesk$Path" "java/lang/Object" ∈ lw_tbl := zt6 177 rfl
theorem zco_Sv : Cond.castable "NetDesk$ServerText" "java/lang/Object" ∈ lw_tbl := zt6 178 rfl
theorem zco_Ck : Cond.castable "NetDesk$Cookie" "java/lang/Object" ∈ lw_tbl := zt6 179 rfl
theorem zco_Kt : Cond.castable "NetDesk$Kept" "java/lang/Object" ∈ lw_tbl := zt6 180 rfl
theorem zao_O : Cond.arrayOver (.object "java/lang/Object") ∈ lw_tbl := zt4 160 rfl
end
section
/-- a String at a with the (Latin-1) text t; it and its bytes lie outside L, the cells that may change -/
def zTx (G : zG) (L : List Nat) (H : Heap) (a : Nat) (t : List Nat) : Prop := ∃ v : Nat, a ∉ L ∧ v ∉ L ∧ zIs G H a 8 ∧ zFd G H a 8 0 (.ref v) ∧ zFd G H a 8 1 (.int 0) ∧ zArr G H v .byte t.length (fun j => .int (sb_b (t.getD j 0))) ∧ (∀ c ∈ t, c < 256) ∧ t.length ≤ 65536
theorem zTx.mo {G : zG} {L S : List Nat} {H H1 : Heap} {a : Nat} {t : List Nat} (h : zTx G L H a t) (m : zMo S H H1) (hS : ∀ q ∈ S, q ∈ L ∨ H.size ≤ q) : zTx G L H1 a t := by
  obtain ⟨v, h1, h2, h3, h4, h5, h6, h7⟩ := h
  have ha : a ∉ S := fun z => (hS a z).elim h1 (fun w => by have := h3.lt; omega)
  have hv : v ∉ S := fun z => (hS v z).elim h2 (fun w => by have := h6.lt; omega)
  exact ⟨v, h1, h2, h3.mo m ha, h4.mo m ha, h5.mo m ha, h6.mo m hv, h7⟩
theorem zTx.ex {G : zG} {L : List Nat} {H H1 : Heap} {a : Nat} {t : List Nat} (h : zTx G L H a t) (m : zMo [] H H1) : zTx G L H1 a t := h.mo m (fun q z => by cases z)
theorem zTx.li {G : zG} {L L2 : List Nat} {H : Heap} {a : Nat} {t : List Nat} (h : zTx G L H a t) (hL : ∀ q ∈ L2, q ∈ L ∨ H.size ≤ q) : zTx G L2 H a t := by
  obtain ⟨v, h1, h2, h3, h4, h5, h6, h7⟩ := h
  exact ⟨v, fun z => (hL a z).elim h1 (fun w => by have := h3.lt; omega), fun z => (hL v z).elim h2 (fun w => by have := h6.lt; omega), h3, h4, h5, h6, h7⟩
theorem zTx.lt {G : zG} {L : List Nat} {H : Heap} {a : Nat} {t : List Nat} (h : zTx G L H a t) : a < H.size := h.choose_spec.2.2.1.lt
theorem zTx.is {G : zG} {L : List Nat} {H : Heap} {a : Nat} {t : List Nat} (h : zTx G L H a t) : zIs G H a 8 := h.choose_spec.2.2.1
theorem zTx.le {G : zG} {L : List Nat} {H : Heap} {a : Nat} {t : List Nat} (h : zTx G L H a t) : t.length ≤ 65536 := h.choose_spec.2.2.2.2.2.2.2
theorem zTx.b {G : zG} {L : List Nat} {H : Heap} {a : Nat} {t : List Nat} (h : zTx G L H a t) : ∀ c ∈ t, c < 256 := h.choose_spec.2.2.2.2.2.2.1
/-- what the start gives of the JDK's statics -/
def zCs (G : zG) : Prop := zGo G ∧ va_Z "java/lang/String" "COMPACT_STRINGS" "Z" (.int 1) (zFr G) (zS G) (zS G).heap ∧ (∃ v : Value, zRf v ∧ va_Z "jdk/internal/util/Preconditions" "SIOOBE_FORMATTER" "Ljava/util/function/BiFunction;" v (zFr G) (zS G) (zS G).heap) ∧ (∃ a : Nat, vk_R "java/lang/StringLatin1" 151 "" a (zS G) ∧ a < (zS G).heap.size ∧ zTx G [] (zS G).heap a [])
/-- a reader's end: an int, and the heap as it was -/
abbrev zRd (H : Heap) (v : Int32) : Option Value → Heap → Prop := zPi (fun r H1 => r = v ∧ H1 = H)
section JT
variable {G : zG} {d : Nat} {L : List Nat} {H : Heap} {a : Nat} {t : List Nat}
theorem zOk_base {q : Nat} (ho : zOk G H) (h : q < (zS G).heap.size) : H[q]? = (zS G).heap[q]? := ho.2.1 q h
theorem c_St_coder (hC : zCs G) (hf : zFd G H a 8 1 (.int 0)) : zC G d M_St_coder [.ref a] H (zRd H 0) := by
  refine zC_in [some (.ref a)] pn_St_coder hC.1 rfl (Nat.le_of_ble_eq_true rfl) rfl (fun ho => ?_)
  exact sSt_coder_0 hC.2.1 (fun h => absurd h (by decide)) (fun _ => sSt_coder_6 hf rfl ⟨_, rfl, rfl, rfl⟩)
theorem c_St_isLatin1 (hC : zCs G) (hf : zFd G H a 8 1 (.int 0)) : zC G d M_St_isLatin1 [.ref a] H (zRd H 1) := by
  refine zC_in [some (.ref a)] pn_St_isLatin1 hC.1 rfl (Nat.le_of_ble_eq_true rfl) rfl (fun ho => ?_)
  exact sSt_isLatin1_0 hC.2.1 (fun h => absurd h (by decide)) (fun _ => sSt_isLatin1_6 hf (fun h => absurd rfl h) (fun _ => sSt_isLatin1_13 rfl ⟨_, rfl, rfl, rfl⟩))
theorem c_St_length (hC : zCs G) (hd : 1 ≤ d) (h : zTx G L H a t) : zC G d M_St_length [.ref a] H (zRd H (nI t.length)) := by
  obtain ⟨v, h1, h2, h3, h4, h5, h6, h7, h8⟩ := h
  refine zC_in [some (.ref a)] pn_St_length hC.1 rfl (Nat.le_of_ble_eq_true rfl) rfl (fun ho => ?_)
  refine sSt_length_0 h4 h6 hd (Nat.le_of_ble_eq_true rfl) h3 (c_St_coder hC h5) ?_
  rintro r H1 ⟨rfl, rfl⟩ - - -
  exact sSt_length_9 ⟨_, rfl, sb_shr0 _, rfl⟩
theorem c_St_isEmpty (hC : zCs G) (h : zTx G L H a t) : zC G d M_St_isEmpty [.ref a] H (zRd H (if t = [] then 1 else 0)) := by
  obtain ⟨v, h1, h2, h3, h4, h5, h6, h7, h8⟩ := h
  refine zC_in [some (.ref a)] pn_St_isEmpty hC.1 rfl (Nat.le_of_ble_eq_true rfl) rfl (fun ho => ?_)
  refine sSt_isEmpty_0 h4 h6 (fun e => ?_) (fun e => ?_)
  · refine sSt_isEmpty_12 rfl ⟨_, rfl, ?_, rfl⟩
    rw [if_neg (fun z => e (by rw [z]; rfl))]
  · refine sSt_isEmpty_8 rfl ⟨_, rfl, ?_, rfl⟩
    rw [if_pos]
    have := (nI_eq (a := t.length) (b := 0) (by omega) (by decide)).mp e
    exact List.length_eq_zero_iff.mp this
theorem c_Pc_checkIndex {v : Value} (hC : zCs G) (hv : zRf v) {i n : Nat} (hi : i < n) (hn : n < 2 ^ 31) : zC G d M_Pc_checkIndex [.int (nI i), .int (nI n), v] H (zRd H (nI i)) := by
  have hcat : ([.int (nI i), .int (nI n), v] : List Value).all (fun v => v.category == 1) = true := by
    rcases hv with rfl | ⟨b, rfl⟩ <;> rfl
  refine zC_in [some (.int (nI i)), some (.int (nI n)), some v] pn_Pc_checkIndex hC.1 hcat (Nat.le_of_ble_eq_true rfl) rfl (fun ho => ?_)
  refine sPc_checkIndex_0 (fun h => absurd h (nI_pos (by omega))) (fun _ => ?_)
  refine sPc_checkIndex_4 (fun h => ?_) (fun h => absurd (nI_lt hi hn) h)
  exact sPc_checkIndex_16 ⟨_, rfl, rfl, rfl⟩
end JT
end
section
theorem zTx_get {t : List Nat} (h : ∀ c ∈ t, c < 256) (i : Nat) : t.getD i 0 < 256 := by
  rw [List.getD_eq_getElem?_getD]
  cases e : t[i]? with
  | none => decide
  | some c => exact h c (List.mem_of_getElem? e)
theorem sb_inj {c c' : Nat} (h : c < 256) (h' : c' < 256) : sb_b c = sb_b c' ↔ c = c' := by
  constructor
  · intro e
    have e1 := (sb_byte c h).1
    have e2 := (sb_byte c' h').1
    rw [e] at e1
    exact (nI_eq (by omega) (by omega)).mp (e1.symm.trans e2)
  · rintro rfl; rfl
/-- where c stands first, or -1 -/
def zIx (c : Nat) (t : List Nat) : Int32 := if t.findIdx (· == c) < t.length then nI (t.findIdx (· == c)) else -1
section JT2
variable {G : zG} {d : Nat} {L : List Nat} {H : Heap} {a : Nat} {t u : List Nat}
theorem c_St_checkIndex (hC : zCs G) (hd : 1 ≤ d) {i n : Nat} (hi : i < n) (hn : n < 2 ^ 31) : zC G d M_St_checkIndex [.int (nI i), .int (nI n)] H (zPv (fun H1 => H1 = H)) := by
  obtain ⟨v, hv, hz⟩ := hC.2.2.1
  refine zC_in [some (.int (nI i)), some (.int (nI n))] pn_St_checkIndex hC.1 rfl (Nat.le_of_ble_eq_true rfl) rfl (fun ho => ?_)
  refine sSt_checkIndex_0 hv hz hd (Nat.le_of_ble_eq_true rfl) (c_Pc_checkIndex hC hv hi hn) ?_
  rintro r H1 ⟨rfl, rfl⟩ - - -
  exact sSt_checkIndex_8 rfl ⟨rfl, rfl⟩
theorem c_L1_charAt (hC : zCs G) (hd : 2 ≤ d) {v i : Nat} (hA : zArr G H v .byte t.length (fun j => .int (sb_b (t.getD j 0)))) (hb : ∀ c ∈ t, c < 256) (hl : t.length ≤ 65536) (hi : i < t.length) : zC G d M_L1_charAt [.ref v, .int (nI i)] H (zRd H (nI (t.getD i 0))) := by
  refine zC_in [some (.ref v), some (.int (nI i))] pn_L1_charAt hC.1 rfl (Nat.le_of_ble_eq_true rfl) rfl (fun ho => ?_)
  refine sL1_charAt_0 hA (by omega) (Nat.le_of_ble_eq_true rfl) (c_St_checkIndex hC (by omega) hi (by omega)) ?_
  rintro H1 rfl - - -
  have hb1 := zTx_get hb i
  obtain ⟨b1, b2, -⟩ := sb_byte _ hb1
  have e : (((sb_b (t.getD (nI i).toNatClampNeg 0)) &&& (255 : Int32)).toUInt32 % 65536).toInt32 = nI (t.getD i 0) := by rw [nI_clamp (by omega), b1, b2]
  refine sL1_charAt_6 hA (vp_in_nI hi (by omega)) ?_ ⟨_, rfl, e, rfl⟩
  rw [e]
  exact (pk_charN (by omega)).1
theorem c_St_charAt (hC : zCs G) (hd : 3 ≤ d) (h : zTx G L H a t) {i : Nat} (hi : i < t.length) : zC G d M_St_charAt [.ref a, .int (nI i)] H (zRd H (nI (t.getD i 0))) := by
  obtain ⟨v, h1, h2, h3, h4, h5, h6, h7, h8⟩ := h
  refine zC_in [some (.ref a), some (.int (nI i))] pn_St_charAt hC.1 rfl (Nat.le_of_ble_eq_true rfl) rfl (fun ho => ?_)
  refine sSt_charAt_0 (by omega) (Nat.le_of_ble_eq_true rfl) h3 (c_St_isLatin1 hC h5) ?_
  rintro r H1 ⟨rfl, rfl⟩ - - -
  refine sSt_charAt_4 (fun z => absurd z (by decide)) (fun _ => ?_)
  refine sSt_charAt_7 zRf_ref h4 (by omega) (Nat.le_of_ble_eq_true rfl) (c_L1_charAt hC (by omega) h6 h7 h8 hi) ?_
  rintro r H1 ⟨rfl, rfl⟩ - - -
  refine sSt_charAt_15 ?_ ⟨_, rfl, rfl, rfl⟩
  exact (pk_charN (by have := zTx_get h7 i; omega)).1
theorem c_L1_equals (hC : zCs G) {v w : Nat} (hA : zArr G H v .byte t.length (fun j => .int (sb_b (t.getD j 0)))) (hB : zArr G H w .byte u.length (fun j => .int (sb_b (u.getD j 0)))) (ht : ∀ c ∈ t, c < 256) (hu : ∀ c ∈ u, c < 256) (hl : t.length ≤ 65536) (hl2 : u.length ≤ 65536) : zC G d M_L1_equals [.ref v, .ref w] H (zRd H (if t = u then 1 else 0)) := by
  refine zC_in [some (.ref v), some (.ref w), none] pn_L1_equals hC.1 rfl (Nat.le_of_ble_eq_true rfl) rfl (fun ho => ?_)
  refine sL1_equals_0 hA hB (fun e => ?_) (fun e => ?_)
  · refine sL1_equals_34 rfl ⟨_, rfl, ?_, rfl⟩
    rw [if_neg (fun z => e (by rw [z]))]
  · have el : t.length = u.length := (nI_eq (by omega) (by omega)).mp e
    refine sL1_equals_7 ?_
    have main : ∀ (k j : Nat), j + k = t.length → (∀ i, i < j → t.getD i 0 = u.getD i 0) → zW G d M_L1_equals 9 [some (.ref v), some (.ref w), some (.int (nI j))] [] H (zRd H (if t = u then 1 else 0)) := by
      intro k
      induction k with
      | zero =>
        intro j hj hs
        refine sL1_equals_9 hA (fun _ => ?_) (fun z => absurd (nI_le (by omega) (by omega)) z)
        refine sL1_equals_32 rfl ⟨_, rfl, ?_, rfl⟩
        rw [if_pos]
        apply List.ext_getElem?
        intro i
        by_cases hi : i < t.length
        · have := hs i (by omega)
          rw [List.getD_eq_getElem?_getD, List.getD_eq_getElem?_getD, List.getElem?_eq_getElem hi, List.getElem?_eq_getElem (by omega)] at this
          rw [List.getElem?_eq_getElem hi, List.getElem?_eq_getElem (by omega)]
          exact congrArg some this
        · rw [List.getElem?_eq_none (by omega), List.getElem?_eq_none (by omega)]
      | succ k ih =>
        intro j hj hs
        refine sL1_equals_9 hA (fun z => absurd z (nI_ge (by omega) (by omega))) (fun _ => ?_)
        refine sL1_equals_15 hA (vp_in_nI (by omega) (by omega)) hB (vp_in_nI (by omega) (by omega)) (fun z => ?_) (fun z => ?_)
        · rw [nI_clamp (by omega)] at z
          have z' := (sb_inj (zTx_get ht j) (zTx_get hu j)).mp z
          refine sL1_equals_26 ?_
          rw [nI_1]
          exact ih (j + 1) (by omega) (lt_s hs z')
        · refine sL1_equals_24 rfl ⟨_, rfl, ?_, rfl⟩
          rw [if_neg (fun q => z (by rw [q]))]
    exact main t.length 0 (by omega) (fun i h => absurd h (Nat.not_lt_zero i))
theorem c_St_equals (hC : zCs G) (hd : 1 ≤ d) {L2 : List Nat} {b : Nat} (h : zTx G L H a t) (h' : zTx G L2 H b u) : zC G d M_St_equals [.ref a, .ref b] H (zRd H (if t = u then 1 else 0)) := by
  refine zC_in [some (.ref a), some (.ref b), none] pn_St_equals hC.1 rfl (Nat.le_of_ble_eq_true rfl) rfl (fun ho => ?_)
  refine sSt_equals_0 zRf_ref zRf_ref ?_
  refine zw_acmp_ne (rx := some a) (ry := some b) 7 dSt_equals_2 (by decide) (fun e => ?_) (fun e => ?_)
  · obtain ⟨v, h1, h2, h3, h4, h5, h6, h7, h8⟩ := h
    obtain ⟨w, g1, g2, g3, g4, g5, g6, g7, g8⟩ := h'
    refine sSt_equals_7 g3 (fun z => absurd z (by decide)) (fun _ => ?_)
    refine sSt_equals_14 g3 hC.2.1 (fun z => absurd z (by decide)) (fun _ => ?_)
    refine sSt_equals_25 h5 g5 (fun z => absurd rfl z) (fun _ => ?_)
    refine sSt_equals_36 zRf_ref zRf_ref h4 g4 hd (Nat.le_of_ble_eq_true rfl) (c_L1_equals hC h6 g6 h7 g7 h8 g8) ?_
    rintro r H1 ⟨rfl, rfl⟩ - - -
    by_cases q : t = u
    · rw [if_pos q]
      exact sSt_equals_47 (fun z => absurd z (by decide)) (fun _ => sSt_equals_50 rfl ⟨_, rfl, rfl, rfl⟩)
    · rw [if_neg q]
      exact sSt_equals_47 (fun z => sSt_equals_54 rfl ⟨_, rfl, rfl, rfl⟩) (fun z => absurd rfl z)
  · refine sSt_equals_5 rfl ⟨_, rfl, ?_, rfl⟩
    have e' : a = b := Option.some.inj e
    subst e'
    rw [if_pos]
    obtain ⟨v, h1, h2, h3, h4, h5, h6, h7, h8⟩ := h
    obtain ⟨w, g1, g2, g3, g4, g5, g6, g7, g8⟩ := h'
    obtain ⟨c1, k1, -, k2⟩ := h4
    obtain ⟨c2, m1, -, m2⟩ := g4
    cases k1.symm.trans m1
    cases k2.symm.trans m2
    obtain ⟨c3, n1, -, -, n2, n3, -⟩ := h6
    obtain ⟨c4, o1, -, -, o2, o3, -⟩ := g6
    cases n1.symm.trans o1
    apply List.ext_getElem?
    intro i
    by_cases hi : i < t.length
    · have q1 := n3 i hi
      have q2 := o3 i (by omega)
      rw [q1] at q2
      have q3 : sb_b (t.getD i 0) = sb_b (u.getD i 0) := by
        have := Option.some.inj q2
        exact Value.int.inj this
      have q4 := (sb_inj (zTx_get h7 i) (zTx_get g7 i)).mp q3
      rw [List.getD_eq_getElem?_getD, List.getD_eq_getElem?_getD, List.getElem?_eq_getElem hi, List.getElem?_eq_getElem (by omega)] at q4
      rw [List.getElem?_eq_getElem hi, List.getElem?_eq_getElem (by omega)]
      exact congrArg some q4
    · rw [List.getElem?_eq_none (by omega), List.getElem?_eq_none (by omega)]
theorem c_Ma_max (hC : zCs G) (x y : Int32) : zC G d M_Ma_max [.int x, .int y] H (zRd H (if x < y then y else x)) := by
  refine zC_in [some (.int x), some (.int y)] pn_Ma_max hC.1 rfl (Nat.le_of_ble_eq_true rfl) rfl (fun ho => ?_)
  refine sMa_max_0 (fun e => sMa_max_9 ⟨_, rfl, ?_, rfl⟩) (fun e => sMa_max_5 ⟨_, rfl, ?_, rfl⟩)
  · rw [if_pos e]
  · rw [if_neg e]
theorem c_Ma_min (hC : zCs G) (x y : Int32) : zC G d M_Ma_min [.int x, .int y] H (zRd H (if y < x then y else x)) := by
  refine zC_in [some (.int x), some (.int y)] pn_Ma_min hC.1 rfl (Nat.le_of_ble_eq_true rfl) rfl (fun ho => ?_)
  refine sMa_min_0 (fun e => sMa_min_9 ⟨_, rfl, ?_, rfl⟩) (fun e => sMa_min_5 ⟨_, rfl, ?_, rfl⟩)
  · rw [if_pos e]
  · rw [if_neg e]
theorem c_L1_canEncode_1 (hC : zCs G) {c : Nat} (hc : c < 256) : zC G d M_L1_canEncode_1 [.int (nI c)] H (zRd H 1) := by
  refine zC_in [some (.int (nI c))] pn_L1_canEncode_1 hC.1 rfl (Nat.le_of_ble_eq_true rfl) rfl (fun ho => ?_)
  refine sL1_canEncode_1_0 (fun e => absurd e (nI_pos (by omega))) (fun _ => ?_)
  exact sL1_canEncode_1_4 (fun e => absurd e (show ¬ nI 255 < nI c from nI_nlt (by omega) (by decide))) (fun _ => sL1_canEncode_1_11 rfl ⟨_, rfl, rfl, rfl⟩)
theorem c_L1_canEncode_0 (hC : zCs G) {c : Nat} (hc : c < 256) : zC G d M_L1_canEncode_0 [.int (nI c)] H (zRd H 1) := by
  refine zC_in [some (.int (nI c))] pn_L1_canEncode_0 hC.1 rfl (Nat.le_of_ble_eq_true rfl) rfl (fun ho => ?_)
  exact sL1_canEncode_0_0 (fun e => absurd e (show ¬ nI 255 < nI c from nI_nlt (by omega) (by decide))) (fun _ => sL1_canEncode_0_7 rfl ⟨_, rfl, rfl, rfl⟩)
theorem c_L1_indexOfChar (hC : zCs G) {v c : Nat} (hA : zArr G H v .byte t.length (fun j => .int (sb_b (t.getD j 0)))) (ht : ∀ x ∈ t, x < 256) (hl : t.length ≤ 65536) (hc : c < 256) : zC G d M_L1_indexOfChar [.ref v, .int (nI c), .int 0, .int (nI t.length)] H (zRd H (zIx c t)) := by
  refine zC_in [some (.ref v), some (.int (nI c)), some (.int 0), some (.int (nI t.length)), none, none] pn_L1_indexOfChar hC.1 rfl (Nat.le_of_ble_eq_true rfl) rfl (fun ho => ?_)
  refine sL1_indexOfChar_0 ?_
  have main : ∀ (k j : Nat), j + k = t.length → (∀ i, i < j → t.getD i 0 ≠ c) → zW G d M_L1_indexOfChar 7 [some (.ref v), some (.int (nI c)), some (.int 0), some (.int (nI t.length)), some (.int (sb_b c)), some (.int (nI j))] [] H (zRd H (zIx c t)) := by
    intro k
    induction k with
    | zero =>
      intro j hj hs
      refine sL1_indexOfChar_7 (fun _ => ?_) (fun z => absurd (nI_le (by omega) (by omega)) z)
      refine sL1_indexOfChar_31 ⟨_, rfl, ?_, rfl⟩
      unfold zIx
      rw [if_neg]
      intro z
      have h1 := List.findIdx_getElem (p := (· == c)) (w := z)
      have h2 := hs _ (show t.findIdx (· == c) < j by omega)
      rw [List.getD_eq_getElem?_getD, List.getElem?_eq_getElem z] at h2
      exact h2 (by simpa using h1)
    | succ k ih =>
      intro j hj hs
      refine sL1_indexOfChar_7 (fun z => absurd z (nI_ge (by omega) (by omega))) (fun _ => ?_)
      refine sL1_indexOfChar_13 hA (vp_in_nI (by omega) (by omega)) (fun z => ?_) (fun z => ?_)
      · rw [nI_clamp (by omega)] at z
        refine sL1_indexOfChar_25 ?_
        rw [nI_1]
        exact ih (j + 1) (by omega) (lt_s hs (fun q => z (by rw [q])))
      · rw [nI_clamp (by omega)] at z
        have z' := (sb_inj (zTx_get ht j) hc).mp z
        refine sL1_indexOfChar_22 ⟨_, rfl, ?_, rfl⟩
        have hjl : j < t.length := by omega
        have e : t.findIdx (· == c) = j := by
          rw [List.findIdx_eq hjl]
          refine ⟨?_, fun i hi => ?_⟩
          · rw [List.getD_eq_getElem?_getD, List.getElem?_eq_getElem hjl] at z'
            simpa using z'
          · have := hs i hi
            rw [List.getD_eq_getElem?_getD, List.getElem?_eq_getElem (by omega)] at this
            simpa using this
        unfold zIx
        rw [e, if_pos hjl]
  exact main t.length 0 (by omega) (fun i h => absurd h (Nat.not_lt_zero i))
theorem c_L1_indexOf (hC : zCs G) (hd : 1 ≤ d) {v c : Nat} (hA : zArr G H v .byte t.length (fun j => .int (sb_b (t.getD j 0)))) (ht : ∀ x ∈ t, x < 256) (hl : t.length ≤ 65536) (hc : c < 256) : zC G d M_L1_indexOf [.ref v, .int (nI c), .int 0, .int (nI t.length)] H (zRd H (zIx c t)) := by
  refine zC_in [some (.ref v), some (.int (nI c)), some (.int 0), some (.int (nI t.length))] pn_L1_indexOf hC.1 rfl (Nat.le_of_ble_eq_true rfl) rfl (fun ho => ?_)
  refine sL1_indexOf_0 hd (Nat.le_of_ble_eq_true rfl) (c_L1_canEncode_1 hC hc) ?_
  rintro r H1 ⟨rfl, rfl⟩ - - -
  refine sL1_indexOf_4 (fun _ => ?_) (fun z => absurd z (by decide))
  refine sL1_indexOf_9 hd (Nat.le_of_ble_eq_true rfl) (c_Ma_max hC 0 0) ?_
  rintro r H1 ⟨rfl, rfl⟩ - - -
  rw [if_neg (by decide)]
  refine sL1_indexOf_14 hA hd (Nat.le_of_ble_eq_true rfl) (c_Ma_min hC _ _) ?_
  rintro r H1 ⟨rfl, rfl⟩ - - -
  rw [if_neg Int32.lt_irrefl]
  refine sL1_indexOf_21 (fun z => ?_) (fun z => ?_)
  · refine sL1_indexOf_29 zRf_ref hd (Nat.le_of_ble_eq_true rfl) (c_L1_indexOfChar hC hA ht hl hc) ?_
    rintro r H1 ⟨rfl, rfl⟩ - - -
    exact sL1_indexOf_36 ⟨_, rfl, rfl, rfl⟩
  · refine sL1_indexOf_27 ⟨_, rfl, ?_, rfl⟩
    have : t.length = 0 := by
      rcases Nat.eq_zero_or_pos t.length with q | q
      · exact q
      · exact absurd (show nI 0 < nI t.length from nI_lt q (by omega)) z
    have e : t = [] := List.length_eq_zero_iff.mp this
    subst e
    rfl
theorem c_St_indexOf (hC : zCs G) (hd : 3 ≤ d) (h : zTx G L H a t) {c : Nat} (hc : c < 256) : zC G d M_St_indexOf_0 [.ref a, .int (nI c)] H (zRd H (zIx c t)) := by
  have h0 := h
  obtain ⟨v, h1, h2, h3, h4, h5, h6, h7, h8⟩ := h
  refine zC_in [some (.ref a), some (.int (nI c))] pn_St_indexOf_0 hC.1 rfl (Nat.le_of_ble_eq_true rfl) rfl (fun ho => ?_)
  have inner : zC G (d - 1) M_St_indexOf_1 [.ref a, .int (nI c), .int 0] H (zRd H (zIx c t)) := by
    refine zC_in [some (.ref a), some (.int (nI c)), some (.int 0)] pn_St_indexOf_1 hC.1 rfl (Nat.le_of_ble_eq_true rfl) rfl (fun ho => ?_)
    refine sSt_indexOf_1_0 (by omega) (Nat.le_of_ble_eq_true rfl) h3 (c_St_isLatin1 hC h5) ?_
    rintro r H1 ⟨rfl, rfl⟩ - - -
    refine sSt_indexOf_1_4 (fun z => absurd z (by decide)) (fun _ => ?_)
    refine sSt_indexOf_1_7 zRf_ref h4 (by omega) (Nat.le_of_ble_eq_true rfl) h3 (c_St_length hC (by omega) h0) ?_
    rintro r H1 ⟨rfl, rfl⟩ - - -
    refine sSt_indexOf_1_17 zRf_ref (by omega) (Nat.le_of_ble_eq_true rfl) (c_L1_indexOf hC (by omega) h6 h7 h8 hc) ?_
    rintro r H1 ⟨rfl, rfl⟩ - - -
    exact sSt_indexOf_1_20 ⟨_, rfl, rfl, rfl⟩
  refine sSt_indexOf_0_0 (by omega) (Nat.le_of_ble_eq_true rfl) h3 inner ?_
  rintro r H1 ⟨rfl, rfl⟩ - - -
  exact sSt_indexOf_0_6 ⟨_, rfl, rfl, rfl⟩
end JT2
end
section
/-- the cells that may change lie behind the start -/
def zLi (G : zG) (H : Heap) (L : List Nat) : Prop := ∀ q ∈ L, zFr G q ∧ q < H.size
theorem zLi.mo {G : zG} {H H1 : Heap} {L : List Nat} (h : zLi G H L) (m : H.size ≤ H1.size) : zLi G H1 L := fun q hq => ⟨(h q hq).1, Nat.lt_of_lt_of_le (h q hq).2 m⟩
theorem zLi.new {G : zG} {H : Heap} {L : List Nat} (h : zLi G H L) {q : Nat} (hq : H.size ≤ q) : q ∉ L := fun z => by have := (h q z).2; omega
theorem zFr_new {G : zG} {H : Heap} (ho : zOk G H) : zFr G H.size := ho.1
theorem sb_fitT (t : List Nat) : sb_Fit (fun j => sb_b (t.getD j 0)) := fun _ => sb_fitB _
theorem zCpB {G : zG} {H : Heap} {x : Int32} (h : fits .byte (.int x) = true) : zCpv G H .byte (.int x) := Or.inl ⟨rfl, h, x, rfl⟩
theorem zCpyI (g h : Nat → Int32) (sp dp n j : Nat) : va_cpy (fun j => Value.int (g j)) (fun j => Value.int (h j)) sp dp n j = .int (va_cpy g h sp dp n j) := by
  unfold va_cpy
  split <;> rfl
section JA
variable {G : zG} {d : Nat} {L : List Nat} {H : Heap} {a : Nat} {t u : List Nat}
theorem c_Ar_copyOf (hC : zCs G) (hd : 1 ≤ d) {v n m : Nat} {g : Nat → Int32} (hA : zArr G H v .byte n (fun j => .int (g j))) (hg : sb_Fit g) (hnm : n < m) (hm : m ≤ 65536) (hR : zRm G H 1 m) :
    zC G d M_Ar_copyOf_0 [.ref v, .int (nI m)] H (zPr fun r H1 => r = .ref H.size ∧ zArr G H1 H.size .byte m (fun j => .int (va_cpy g (fun _ => 0) 0 0 n j)) ∧ zMo [] H H1 ∧ zUs 1 m H H1) := by
  refine zC_in [some (.ref v), some (.int (nI m)), none] pn_Ar_copyOf_0 hC.1 rfl (Nat.le_of_ble_eq_true rfl) rfl (fun ho => ?_)
  refine sAr_copyOf_0_0 hA (fun _ => ?_) (fun e => absurd ((nI_eq (by omega) (by omega)).mp e) (by omega))
  refine sAr_copyOf_0_14 (N := m) (nI_pos (by omega)) (nI_clamp (by omega)) (by show m * 1 ≤ _; omega) hR.1 hR.2 (fun H1 hB hN => ?_)
  have hA1 := hA.ex hN.mo
  refine sAr_copyOf_0_17 zRf_ref hA1 hd (Nat.le_of_ble_eq_true rfl) (c_Ma_min hC _ _) ?_
  rintro r H2 ⟨rfl, rfl⟩ ho2 - -
  rw [if_neg (nI_nlt (by omega) (by omega))]
  have ec : (nI n).toNatClampNeg = n := nI_clamp (by omega)
  refine zw_copy dAr_copyOf_0_28 hd zcp_Ar_150 zcp_nat zcp_stat zcp_init hA1 hB (zFr_new ho) (by decide) (by decide) (nI_pos (by omega)) (by rw [ec, sb_cl0]; omega) (by rw [ec, sb_cl0]; omega) (fun i hi => zCpB (hg _)) (Nat.le_of_ble_eq_true rfl) (fun H3 hB3 hu => ?_)
  refine sAr_copyOf_0_31 zRf_ref ⟨_, rfl, zRf_ref, rfl, hB3.to (fun j hj => ?_), hN.mo.up hu (Or.inr (Nat.le_refl _)), hN.us.tr hu.us (c2 := 0) (s2 := 0) (by omega) (by omega)⟩
  rw [ec, sb_cl0]
  exact zCpyI g (fun _ => 0) 0 0 n j
theorem c_Ar_checkLength (hC : zCs G) {i k : Nat} (h : i ≤ k) (hk : k < 2 ^ 31) : zC G d M_Ar_checkLength [.int (nI i), .int (nI k)] H (zPv fun H1 => H1 = H) := by
  refine zC_in [some (.int (nI i)), some (.int (nI k))] pn_Ar_checkLength hC.1 rfl (Nat.le_of_ble_eq_true rfl) rfl (fun ho => ?_)
  exact sAr_checkLength_0 (fun _ => sAr_checkLength_37 ⟨rfl, rfl⟩) (fun e => absurd (nI_le h hk) e)
theorem c_Ar_copyOfRangeByte (hC : zCs G) (hd : 1 ≤ d) {v n i k : Nat} {g : Nat → Int32} (hA : zArr G H v .byte n (fun j => .int (g j))) (hg : sb_Fit g) (hik : i ≤ k) (hk : k ≤ n) (hn : n ≤ 65536) (hR : zRm G H 1 (k - i)) :
    zC G d M_Ar_copyOfRangeByte [.ref v, .int (nI i), .int (nI k)] H (zPr fun r H1 => r = .ref H.size ∧ zArr G H1 H.size .byte (k - i) (fun j => .int (g (i + j))) ∧ zMo [] H H1 ∧ zUs 1 (k - i) H H1) := by
  refine zC_in [some (.ref v), some (.int (nI i)), some (.int (nI k)), none, none] pn_Ar_copyOfRangeByte hC.1 rfl (Nat.le_of_ble_eq_true rfl) rfl (fun ho => ?_)
  refine sAr_copyOfRangeByte_0 hd (Nat.le_of_ble_eq_true rfl) (c_Ar_checkLength hC hik (by omega)) ?_
  rintro H1 rfl - - -
  have es : nI k - nI i = nI (k - i) := pk_sub hik
  refine sAr_copyOfRangeByte_5 (N := k - i) (by rw [es]; exact nI_pos (by omega)) (by rw [es]; exact nI_clamp (by omega)) (by show (k - i) * 1 ≤ _; omega) hR.1 hR.2 (fun H2 hB hN => ?_)
  rw [es]
  have hA1 := hA.ex hN.mo
  refine sAr_copyOfRangeByte_12 zRf_ref hA1 hd (Nat.le_of_ble_eq_true rfl) (c_Ma_min hC _ _) ?_
  rintro r H3 ⟨rfl, rfl⟩ ho2 - -
  have em : (if nI (k - i) < nI n - nI i then nI (k - i) else nI n - nI i) = nI (k - i) := by
    rw [show nI n - nI i = nI (n - i) from pk_sub (by omega)]
    by_cases q : k - i < n - i
    · rw [if_pos (nI_lt q (by omega))]
    · rw [if_neg (nI_nlt (by omega) (by omega)), show n - i = k - i by omega]
  rw [em]
  have ec : (nI (k - i)).toNatClampNeg = k - i := nI_clamp (by omega)
  have ei : (nI i).toNatClampNeg = i := nI_clamp (by omega)
  refine zw_copy dAr_copyOfRangeByte_27 hd zcp_Ar_150 zcp_nat zcp_stat zcp_init hA1 hB (zFr_new ho) (nI_pos (by omega)) (by decide) (nI_pos (by omega)) (by rw [ec, ei]; omega) (by rw [ec, sb_cl0]; omega) (fun j hj => zCpB (hg _)) (Nat.le_of_ble_eq_true rfl) (fun H4 hB3 hu => ?_)
  refine sAr_copyOfRangeByte_30 zRf_ref ⟨_, rfl, zRf_ref, rfl, hB3.to (fun j hj => ?_), hN.mo.up hu (Or.inr (Nat.le_refl _)), hN.us.tr hu.us (c2 := 0) (s2 := 0) (by omega) (by omega)⟩
  rw [ec, ei, sb_cl0, pk_cpy_in (Nat.zero_le _) (by omega)]
  rfl
theorem c_Ar_copyOfRange (hC : zCs G) (hd : 2 ≤ d) {v n i k : Nat} {g : Nat → Int32} (hA : zArr G H v .byte n (fun j => .int (g j))) (hg : sb_Fit g) (hik : i ≤ k) (hk : k ≤ n) (hn : n ≤ 65536) (hfr : zFr G v ∨ ¬ (i = 0 ∧ k = n)) (hR : zRm G H 1 (k - i)) :
    zC G d M_Ar_copyOfRange [.ref v, .int (nI i), .int (nI k)] H (zPr fun r H1 => r = .ref H.size ∧ zArr G H1 H.size .byte (k - i) (fun j => .int (g (i + j))) ∧ zMo [] H H1 ∧ zUs 1 (k - i) H H1) := by
  refine zC_in [some (.ref v), some (.int (nI i)), some (.int (nI k))] pn_Ar_copyOfRange hC.1 rfl (Nat.le_of_ble_eq_true rfl) rfl (fun ho => ?_)
  have part : zW G d M_Ar_copyOfRange 10 [some (.ref v), some (.int (nI i)), some (.int (nI k))] [] H (zPr fun r H1 => r = .ref H.size ∧ zArr G H1 H.size .byte (k - i) (fun j => .int (g (i + j))) ∧ zMo [] H H1 ∧ zUs 1 (k - i) H H1) := by
    refine sAr_copyOfRange_10 zRf_ref (by omega) (Nat.le_of_ble_eq_true rfl) (c_Ar_copyOfRangeByte hC (by omega) hA hg hik hk hn hR) ?_
    intro r H1 hr hP _ _ _
    exact sAr_copyOfRange_16 hr ⟨_, rfl, hr, hP⟩
  refine sAr_copyOfRange_0 (fun _ => part) (fun e => ?_)
  have e0 : i = 0 := (nI_eq (b := 0) (by omega) (by decide)).mp e
  refine sAr_copyOfRange_4 hA (fun e2 => ?_) (fun _ => part)
  have e3 : k = n := (nI_eq (by omega) (by omega)).mp e2
  have hv : zFr G v := hfr.resolve_right (fun z => z ⟨e0, e3⟩)
  subst e0 e3
  refine sAr_copyOfRange_17 zRf_ref ?_
  refine zw_cloneB dAr_copyOfRange_18 (by omega) zcl_Ar_310 zcl_1 zcl_2 zcl_3 zcl_4 zcl_5 hA hv (fun j hj => hg j) hR.1 (by have := hR.2; omega) (Nat.le_of_ble_eq_true rfl) (fun H1 hB hN => ?_)
  refine zw_castA "[B" dAr_copyOfRange_21 zcx_Ar_311 hB (hB.nmB (zFr_new ho)) ?_
  refine zw_aret dAr_copyOfRange_24 _ rfl (Or.inr ⟨_, rfl⟩) zRf_ref ⟨_, rfl, zRf_ref, rfl, ?_, hN.mo, hN.us⟩
  exact hB.to (fun j hj => by rw [Nat.zero_add])
theorem c_St_init2 (hC : zCs G) (hd : 1 ≤ d) {v : Nat} {b0 b1 b2 b3 : Value} (ho : zObj G H a 8 [b0, b1, b2, b3]) (ha : zFr G a) : zC G d M_St_init_2 [.ref a, .ref v, .int 0] H (zPv fun H1 => zObj G H1 a 8 [.ref v, .int 0, b2, b3] ∧ zMo [a] H H1 ∧ zUs 0 0 H H1) := by
  refine zC_in [some (.ref a), some (.ref v), some (.int 0)] pn_St_init_2 hC.1 rfl (Nat.le_of_ble_eq_true rfl) rfl (fun ho2 => ?_)
  refine sSt_init_2_0 hd (Nat.le_of_ble_eq_true rfl) ?_
  refine sSt_init_2_4 zRf_ref ho ha (fun H1 h1 u1 => ?_)
  refine sSt_init_2_9 h1 ha rfl rfl (fun H2 h2 u2 => ?_)
  exact sSt_init_2_14 ⟨rfl, h2, u1.mo.up u2 (Or.inl (List.mem_singleton.mpr rfl)), u1.us.tr u2.us (c1 := 0) (s1 := 0) (c2 := 0) (s2 := 0) (by omega) (by omega)⟩
theorem take_drop_getD (t : List Nat) (i n j : Nat) (hj : j < n) : ((t.drop i).take n).getD j 0 = t.getD (i + j) 0 := by
  rw [List.getD_eq_getElem?_getD, List.getD_eq_getElem?_getD, List.getElem?_take, if_pos hj, List.getElem?_drop]
theorem c_L1_newString (hC : zCs G) (hd : 3 ≤ d) {v i n : Nat} (hA : zArr G H v .byte u.length (fun j => .int (sb_b (u.getD j 0)))) (hb : ∀ c ∈ u, c < 256) (hl : u.length ≤ 65536) (hi : i + n ≤ u.length) (hfr : zFr G v ∨ ¬ (i = 0 ∧ n = u.length)) (hL : zLi G H L) (hR : zRm G H 2 (n + 4)) :
    zC G d M_L1_newString [.ref v, .int (nI i), .int (nI n)] H (zPr fun r H1 => ∃ b, r = .ref b ∧ zTx G L H1 b ((u.drop i).take n) ∧ zMo [] H H1 ∧ zUs 2 (n + 4) H H1) := by
  refine zC_in [some (.ref v), some (.int (nI i)), some (.int (nI n))] pn_L1_newString hC.1 rfl (Nat.le_of_ble_eq_true rfl) rfl (fun ho => ?_)
  refine sL1_newString_0 (fun e => ?_) (fun e => ?_)
  · refine sL1_newString_7 (by have := hR.1; omega) (by have := hR.2; omega) (fun H1 h1 n1 => ?_)
    have hA1 := hA.ex n1.mo
    have hR1 : zRm G H1 1 n := hR.us n1.us 1 n (by omega) (by omega)
    refine sL1_newString_10 rfl zRf_ref (by omega) (Nat.le_of_ble_eq_true rfl) (by rw [nI_add]; exact c_Ar_copyOfRange hC (by omega) hA1 (sb_fitT u) (Nat.le_add_right i n) hi hl (hfr.imp id (fun z q => z ⟨q.1, by omega⟩)) (by rw [Nat.add_sub_cancel_left]; exact hR1)) ?_
    rintro r H2 - ⟨rfl, h2, m2, u2⟩ ho2 - -
    rw [Nat.add_sub_cancel_left] at h2 u2
    have h1' := h1.ex m2
    refine sL1_newString_19 zRf_ref (by omega) (Nat.le_of_ble_eq_true rfl) (c_St_init2 hC (by omega) h1' (zFr_new ho)) ?_
    rintro H3 ⟨h3, m3, u3⟩ ho3 - -
    have e1 : H1.size = H.size + 1 := n1.1
    have hm : zMo [] H H3 := (n1.mo.ex m2).tr m3 (fun q z => by cases z) (fun q z => Or.inr (by rw [List.mem_singleton.mp z]; exact Nat.le_refl _))
    refine sL1_newString_23 zRf_ref ⟨_, rfl, zRf_ref, _, rfl, ?_, hm, (n1.us.tr u2 (c := 2) (s := n + 4) (by omega) (by omega)).tr u3 (by omega) (by omega)⟩
    have hlen : ((u.drop i).take n).length = n := by
      rw [List.length_take, List.length_drop]
      omega
    refine ⟨H1.size, hL.new (Nat.le_refl _), hL.new (by omega), h3.is, h3.fd rfl, h3.fd rfl, ?_, fun c hc => hb c (List.mem_of_mem_drop (List.mem_of_mem_take hc)), by omega⟩
    rw [hlen]
    refine (h2.mo m3 (fun z => by have := List.mem_singleton.mp z; omega)).to (fun j hj => ?_)
    rw [take_drop_getD u i n j hj]
  · have e0 : n = 0 := (nI_eq (b := 0) (by omega) (by decide)).mp e
    subst e0
    obtain ⟨k, hk, hkl, hkt⟩ := hC.2.2.2
    refine sL1_newString_4 hk ⟨_, rfl, zRf_ref, k, rfl, ?_, zMo.rf, zUs.rf⟩
    rw [List.take_zero]
    obtain ⟨w, h1, h2, h3, h4, h5, h6, h7⟩ := hkt
    have hw : w < (zS G).heap.size := h6.lt
    have kk := ho.2.1 k hkl
    have kw := ho.2.1 w hw
    exact ⟨w, fun z => by have := (hL k z).1; unfold zFr at this; omega, fun z => by have := (hL w z).1; unfold zFr at this; omega, h3.kept kk, h4.kept kk, h5.kept kk, h6.kept kw, h7⟩
theorem c_Pc_fromTo {v : Value} (hC : zCs G) (hv : zRf v) {i k n : Nat} (h1 : i ≤ k) (h2 : k ≤ n) (hn : n < 2 ^ 31) : zC G d M_Pc_checkFromToIndex [.int (nI i), .int (nI k), .int (nI n), v] H (zRd H (nI i)) := by
  have hcat : ([.int (nI i), .int (nI k), .int (nI n), v] : List Value).all (fun v => v.category == 1) = true := by
    rcases hv with rfl | ⟨b, rfl⟩ <;> rfl
  refine zC_in [some (.int (nI i)), some (.int (nI k)), some (.int (nI n)), some v] pn_Pc_checkFromToIndex hC.1 hcat (Nat.le_of_ble_eq_true rfl) rfl (fun ho => ?_)
  refine sPc_checkFromToIndex_0 (fun h => absurd h (nI_pos (by omega))) (fun _ => ?_)
  refine sPc_checkFromToIndex_4 (fun h => absurd h (nI_nlt h1 (by omega))) (fun _ => ?_)
  exact sPc_checkFromToIndex_9 (fun _ => sPc_checkFromToIndex_22 ⟨_, rfl, rfl, rfl⟩) (fun h => absurd (nI_le h2 hn) h)
theorem c_St_checkBBE (hC : zCs G) (hd : 1 ≤ d) {i k n : Nat} (h1 : i ≤ k) (h2 : k ≤ n) (hn : n < 2 ^ 31) : zC G d M_St_checkBoundsBeginEnd [.int (nI i), .int (nI k), .int (nI n)] H (zPv fun H1 => H1 = H) := by
  obtain ⟨v, hv, hz⟩ := hC.2.2.1
  refine zC_in [some (.int (nI i)), some (.int (nI k)), some (.int (nI n))] pn_St_checkBoundsBeginEnd hC.1 rfl (Nat.le_of_ble_eq_true rfl) rfl (fun ho => ?_)
  refine sSt_checkBoundsBeginEnd_0 hv hz hd (Nat.le_of_ble_eq_true rfl) (c_Pc_fromTo hC hv h1 h2 hn) ?_
  rintro r H1 ⟨rfl, rfl⟩ - - -
  exact sSt_checkBoundsBeginEnd_9 rfl ⟨rfl, rfl⟩
/-- substring(i, k) -/
theorem c_St_substring (hC : zCs G) (hd : 4 ≤ d) (h : zTx G L H a t) {i k : Nat} (hik : i ≤ k) (hk : k ≤ t.length) (hL : zLi G H L) (hR : zRm G H 2 (k - i + 4)) :
    zC G d M_St_substring_0 [.ref a, .int (nI i), .int (nI k)] H (zPr fun r H1 => ∃ b, r = .ref b ∧ zTx G L H1 b ((t.drop i).take (k - i)) ∧ zMo [] H H1 ∧ zUs 2 (k - i + 4) H H1) := by
  have h0 := h
  obtain ⟨v, h1, h2, h3, h4, h5, h6, h7, h8⟩ := h
  refine zC_in [some (.ref a), some (.int (nI i)), some (.int (nI k)), none, none] pn_St_substring_0 hC.1 rfl (Nat.le_of_ble_eq_true rfl) rfl (fun ho => ?_)
  refine sSt_substring_0_0 (by omega) (Nat.le_of_ble_eq_true rfl) h3 (c_St_length hC (by omega) h0) ?_
  rintro r H1 ⟨rfl, rfl⟩ - - -
  refine sSt_substring_0_4 (by omega) (Nat.le_of_ble_eq_true rfl) (c_St_checkBBE hC (by omega) hik hk (by omega)) ?_
  rintro H1 rfl - - -
  have part : ¬ (i = 0 ∧ k = t.length) → zW G d M_St_substring_0 22 [some (.ref a), some (.int (nI i)), some (.int (nI k)), some (.int (nI t.length)), none] [] H1 (zPr fun r H2 => ∃ b, r = .ref b ∧ zTx G L H2 b ((t.drop i).take (k - i)) ∧ zMo [] H1 H2 ∧ zUs 2 (k - i + 4) H1 H2) := by
    intro hne
    refine sSt_substring_0_22 (by omega) (Nat.le_of_ble_eq_true rfl) h3 (c_St_isLatin1 hC h5) ?_
    rintro r H2 ⟨rfl, rfl⟩ - - -
    rw [pk_sub hik]
    refine sSt_substring_0_31 (fun z => absurd z (by decide)) (fun _ => ?_)
    refine sSt_substring_0_34 zRf_ref h4 (by omega) (Nat.le_of_ble_eq_true rfl) (c_L1_newString hC (by omega) h6 h7 h8 (by omega) (Or.inr (fun z => hne ⟨z.1, by omega⟩)) hL hR) ?_
    intro r H3 hr hP _ _ _
    exact sSt_substring_0_44 hr ⟨_, rfl, hr, hP⟩
  refine sSt_substring_0_11 (fun e => part (fun z => e (by rw [z.1]; rfl))) (fun e => ?_)
  have e0 : i = 0 := (nI_eq (b := 0) (by omega) (by decide)).mp e
  refine sSt_substring_0_15 (fun e2 => part (fun z => e2 (by rw [z.2]))) (fun e2 => ?_)
  have e3 : k = t.length := (nI_eq (by omega) (by omega)).mp e2
  refine sSt_substring_0_20 zRf_ref ⟨_, rfl, zRf_ref, a, rfl, ?_, zMo.rf, zUs.rf⟩
  rw [e0, e3, List.drop_zero, Nat.sub_zero, List.take_length]
  exact h0
/-- substring(i) -/
theorem c_St_substring1 (hC : zCs G) (hd : 5 ≤ d) (h : zTx G L H a t) {i : Nat} (hi : i ≤ t.length) (hL : zLi G H L) (hR : zRm G H 2 (t.length - i + 4)) :
    zC G d M_St_substring_1 [.ref a, .int (nI i)] H (zPr fun r H1 => ∃ b, r = .ref b ∧ zTx G L H1 b (t.drop i) ∧ zMo [] H H1 ∧ zUs 2 (t.length - i + 4) H H1) := by
  refine zC_in [some (.ref a), some (.int (nI i))] pn_St_substring_1 hC.1 rfl (Nat.le_of_ble_eq_true rfl) rfl (fun ho => ?_)
  refine sSt_substring_1_0 (by omega) (Nat.le_of_ble_eq_true rfl) h.is (c_St_length hC (by omega) h) ?_
  rintro r H1 ⟨rfl, rfl⟩ - - -
  refine sSt_substring_1_6 (by omega) (Nat.le_of_ble_eq_true rfl) h.is (c_St_substring hC (by omega) h hi (Nat.le_refl _) hL hR) ?_
  rintro r H2 hr ⟨b, rfl, h2, m2, u2⟩ - - -
  refine sSt_substring_1_9 zRf_ref ⟨_, rfl, zRf_ref, b, rfl, ?_, m2, u2⟩
  rw [show (t.drop i) = (t.drop i).take (t.length - i) from (List.take_of_length_le (by rw [List.length_drop]; exact Nat.le_refl _)).symm]
  exact h2
end JA
end
section
/-- a StringBuilder at a, its bytes at v (m of them), with the text t -/
def zSB (G : zG) (H : Heap) (a v m : Nat) (t : List Nat) : Prop := a ≠ v ∧ zFr G a ∧ zFr G v ∧ (∃ ml : Int32, zObj G H a 1 [.ref v, .int 0, .int ml, .int (nI t.length)]) ∧ (∃ g : Nat → Int32, zArr G H v .byte m (fun j => .int (g j)) ∧ sb_Fit g ∧ ∀ j, j < t.length → g j = sb_b (t.getD j 0)) ∧ (∀ c ∈ t, c < 256) ∧ t.length ≤ m ∧ m ≤ 65536
theorem zSB.mo {G : zG} {S : List Nat} {H H1 : Heap} {a v m : Nat} {t : List Nat} (h : zSB G H a v m t) (q : zMo S H H1) (ha : a ∉ S) (hv : v ∉ S) : zSB G H1 a v m t := by
  obtain ⟨h1, h2, h3, ⟨ml, h4⟩, ⟨g, h5, h6⟩, h7⟩ := h
  exact ⟨h1, h2, h3, ⟨ml, h4.mo q ha⟩, ⟨g, h5.mo q hv, h6⟩, h7⟩
theorem zSB.ex {G : zG} {H H1 : Heap} {a v m : Nat} {t : List Nat} (h : zSB G H a v m t) (q : zMo [] H H1) : zSB G H1 a v m t := h.mo q List.not_mem_nil List.not_mem_nil
theorem zSB.lt {G : zG} {H : Heap} {a v m : Nat} {t : List Nat} (h : zSB G H a v m t) : a < H.size ∧ v < H.size := by
  obtain ⟨h1, h2, h3, ⟨ml, h4⟩, ⟨g, h5, h6⟩, h7⟩ := h
  exact ⟨h4.lt, h5.lt⟩
theorem zSB.is {G : zG} {H : Heap} {a v m : Nat} {t : List Nat} (h : zSB G H a v m t) : zIs G H a 1 := by
  obtain ⟨h1, h2, h3, ⟨ml, h4⟩, ⟨g, h5, h6⟩, h7⟩ := h
  exact h4.is
theorem zSB.len {G : zG} {H : Heap} {a v m : Nat} {t : List Nat} (h : zSB G H a v m t) : t.length ≤ m ∧ m ≤ 65536 := h.2.2.2.2.2.2
theorem zSB.b {G : zG} {H : Heap} {a v m : Nat} {t : List Nat} (h : zSB G H a v m t) : ∀ c ∈ t, c < 256 := h.2.2.2.2.2.1
theorem z8 (x : Int32) : x.toInt8.toInt32.toInt8.toInt32 = x.toInt8.toInt32 := by simp
section ZO
variable {G : zG} {d : Nat} {M M2 : zMd} {pc : Nat} {lv : List (Option Value)} {st : List Value} {H : Heap} {Q Q2 : Option Value → Heap → Prop}
/-- a virtual call of an overriding method -/
theorem zw_callO {idx n b ci N m0 : Nat} {x : MethodName} {owner C : String} {T : u_T} {b0 : ByteArray} {r0 : Option FieldType} (As rest : List Value) (hd : decode M.2.1 pc = .ok (.invokevirtual idx, 3)) (hd1 : 1 ≤ d) (hL : zCl M2 n) (kc : classes[ci]? = some (C, T, N)) (k6 : Cond.selects C x M2.1 ∈ lw_tbl) (k7 : Cond.methodLink M.1.cls idx x ∈ lw_tbl) (k8 : Cond.sameMethod x.cls owner x.name x.desc ∈ lw_tbl) (k0 : Cond.code ⟨owner, x.name, x.desc⟩ b0 m0 r0 ∈ lw_tbl) (ki : Cond.instanceMethod ⟨owner, x.name, x.desc⟩ ∈ lw_tbl) (k9 : Cond.instanceMethod M2.1 ∈ lw_tbl) (kn : owner ≠ "java/lang/invoke/MethodHandle" ∧ owner ≠ "java/lang/invoke/VarHandle") (kx : (parseMethodDescriptor x.desc).map (fun d => d.parameters.length) = some n)
    (ho : zIs G H b ci) (hst : st = As.reverse ++ .ref b :: rest) (hn : As.length = n) (hr : rest.length ≤ 4) (hc : zC G (d - 1) M2 (.ref b :: As) H Q2) (kk : ∀ v H1, Q2 v H1 → zOk G H1 → H.size ≤ H1.size → zT H ≤ zT H1 → zW G d M (pc + 3) lv (v.toList ++ rest) H1 Q) : zW G d M pc lv st H Q := by
  intro p e s m args below meth c locs ls cells slots g0 g1 A h1 h2 h3 h4 h5
  obtain ⟨k1, k2, k3, k4, k5⟩ := hL
  refine zw_norm fun b1 b2 => zw_after (mc := zCp G - H.size) (ms := zSp G - zT H) (a := (Value.ref b :: As).toArray) ?_ kk g0 g1 A h1 h2 h3 h4
  have hP : PreV s H C b (va_Pc (.ref b :: As) (fun U => U.heap = H ∧ zEnv G U)) As := ⟨zBlind, ho.recv g0 g1 kc, fun U hU hW => ⟨rfl, hU, State.WarmedH.trans g1 hW⟩⟩
  have hdecl : va_Decl s ⟨owner, x.name, x.desc⟩ := va_Decl.of (args := args) (zWd g0 g1 ki rfl) (zWd g0 g1 k0 rfl)
  exact va_runU (cc := M.2.1) (nL := M.2.2.1) (Ts := []) ⟨A.1, A.2.1, A.2.2.1, A.2.2.2.2.2.1, fun w h => by cases h⟩ (hc h5) ⟨⟨rfl, rfl, (zRoom hd1 k5).1, (zRoom hd1 k5).2, zWs g0 g1 k1, List.mem_singleton.mpr rfl⟩, zWd g0 g1 k1 rfl, zWd g0 g1 k2 rfl, kn, zLen kx, zWd g0 g1 k7 rfl, zWd g0 g1 k8 rfl, hdecl, zWd g0 g1 k6 rfl, zWd g0 g1 k9 rfl⟩ hP rfl hn (h2.1.trans h1) hst (zLvR hr) hd (zRoom2 h5 b1 b2)
end ZO
theorem dSt_init_1_10 : decode prog_20_method_150_code 10 = .ok (.invokevirtual 549, 3) := by decide +kernel
theorem dSt_getBytes_22 : decode prog_20_method_147_code 22 = .ok (.invokestatic 212, 3) := by decide +kernel
section JB
variable {G : zG} {d : Nat} {L : List Nat} {H : Heap} {a v m : Nat} {t u : List Nat}
theorem c_Sb_init (hC : zCs G) (hd : 2 ≤ d) {b0 b1 b2 : Value} {ml : Int32} (ho : zObj G H a 1 [b0, b1, .int ml, .int 0]) (ha : zFr G a) (hR : zRm G H 1 16) :
    zC G d M_Sb_init [.ref a] H (zPv fun H1 => zSB G H1 a H.size 16 [] ∧ zMo [a] H H1 ∧ zUs 1 16 H H1) := by
  refine zC_in [some (.ref a)] pn_Sb_init hC.1 rfl (Nat.le_of_ble_eq_true rfl) rfl (fun ho2 => ?_)
  have inner : zC G (d - 1) M_Ab_init [.ref a, .int 16] H (zPv fun H1 => zSB G H1 a H.size 16 [] ∧ zMo [a] H H1 ∧ zUs 1 16 H H1) := by
    refine zC_in [some (.ref a), some (.int 16)] pn_Ab_init hC.1 rfl (Nat.le_of_ble_eq_true rfl) rfl (fun ho3 => ?_)
    refine sAb_init_0 (by omega) (Nat.le_of_ble_eq_true rfl) ?_
    refine sAb_init_4 hC.2.1 (fun h => absurd h (by decide)) (fun _ => ?_)
    refine sAb_init_10 (N := 16) zRf_ref (by decide) (by decide) (by decide) hR.1 hR.2 (fun H1 h1 n1 => ?_)
    refine sAb_init_14 zRf_ref (ho.ex n1.mo) ha (fun H2 h2 u2 => ?_)
    refine sAb_init_17 h2 ha rfl rfl (fun H3 h3 u3 => ?_)
    have hne : H.size ≠ a := by have := ho.lt; omega
    have m3 : zMo [a] H H3 := ((n1.mo.mono (fun q z => by cases z)).up u2 (Or.inl (List.mem_singleton.mpr rfl))).up u3 (Or.inl (List.mem_singleton.mpr rfl))
    have hz : H.size ∉ [a] := fun z => hne (List.mem_singleton.mp z)
    have hA : zArr G H3 H.size .byte 16 (fun _ => .int 0) := (h1.mo u2.mo hz).mo u3.mo hz
    refine sAb_init_22 ⟨rfl, ⟨fun e => hne e.symm, ha, zFr_new ho3, ⟨_, h3⟩, ⟨fun _ => 0, hA, sb_fit0, fun j hj => absurd hj (Nat.not_lt_zero j)⟩, fun c hc => (by cases hc), by decide, by decide⟩, m3, ?_⟩
    exact (n1.us.tr u2.us (c := 1) (s := 16) (c2 := 0) (s2 := 0) (by omega) (by omega)).tr u3.us (c2 := 0) (s2 := 0) (by omega) (by omega)
  refine sSb_init_0 (by omega) (Nat.le_of_ble_eq_true rfl) inner ?_
  intro H1 hP _ _ _
  exact sSb_init_6 ⟨rfl, hP⟩
theorem c_Sb_length (hC : zCs G) (hd : 1 ≤ d) (h : zSB G H a v m t) : zC G d M_Sb_length [.ref a] H (zRd H (nI t.length)) := by
  obtain ⟨h1, h2, h3, ⟨ml, h4⟩, ⟨g, h5, h6⟩, h7⟩ := h
  refine zC_in [some (.ref a)] pn_Sb_length hC.1 rfl (Nat.le_of_ble_eq_true rfl) rfl (fun ho2 => ?_)
  have inner : zC G (d - 1) M_Ab_length [.ref a] H (zRd H (nI t.length)) := by
    refine zC_in [some (.ref a)] pn_Ab_length hC.1 rfl (Nat.le_of_ble_eq_true rfl) rfl (fun ho3 => ?_)
    exact sAb_length_0 (h4.fd rfl) ⟨_, rfl, rfl, rfl⟩
  refine sSb_length_0 hd (Nat.le_of_ble_eq_true rfl) h4.is inner ?_
  rintro r H1 ⟨rfl, rfl⟩ - - -
  exact sSb_length_4 ⟨_, rfl, rfl, rfl⟩
theorem c_Ab_isLatin1 (hC : zCs G) (h : zFd G H a 1 1 (.int 0)) : zC G d M_Ab_isLatin1 [.ref a] H (zRd H 1) := by
  refine zC_in [some (.ref a)] pn_Ab_isLatin1 hC.1 rfl (Nat.le_of_ble_eq_true rfl) rfl (fun ho => ?_)
  exact sAb_isLatin1_0 hC.2.1 (fun h => absurd h (by decide)) (fun _ => sAb_isLatin1_6 h (fun h => absurd rfl h) (fun _ => sAb_isLatin1_13 rfl ⟨_, rfl, rfl, rfl⟩))
theorem c_Sb_charAt (hC : zCs G) (hd : 3 ≤ d) (h : zSB G H a v m t) {i : Nat} (hi : i < t.length) : zC G d M_Sb_charAt [.ref a, .int (nI i)] H (zRd H (nI (t.getD i 0))) := by
  obtain ⟨h1, h2, h3, ⟨ml, h4⟩, ⟨g, h5, h6, h6'⟩, h7, h8, h9⟩ := h
  have hb1 := zTx_get h7 i
  refine zC_in [some (.ref a), some (.int (nI i))] pn_Sb_charAt hC.1 rfl (Nat.le_of_ble_eq_true rfl) rfl (fun ho2 => ?_)
  have inner : zC G (d - 1) M_Ab_charAt [.ref a, .int (nI i)] H (zRd H (nI (t.getD i 0))) := by
    refine zC_in [some (.ref a), some (.int (nI i)), none, none, none] pn_Ab_charAt hC.1 rfl (Nat.le_of_ble_eq_true rfl) rfl (fun ho3 => ?_)
    refine sAb_charAt_0 (h4.fd rfl) (h4.fd rfl) (h4.fd rfl) h5 (by omega) (Nat.le_of_ble_eq_true rfl) (c_Ma_min hC _ _) ?_
    rintro r H1 ⟨rfl, rfl⟩ - - -
    rw [sb_shr0, if_neg (nI_nlt h8 (by omega))]
    refine sAb_charAt_21 (by omega) (Nat.le_of_ble_eq_true rfl) (c_St_checkIndex hC (by omega) hi (by omega)) ?_
    rintro H1 rfl - - -
    refine sAb_charAt_29 (fun z => absurd rfl z) (fun _ => ?_)
    obtain ⟨b1, b2, -⟩ := sb_byte _ hb1
    have e : (((g (nI i).toNatClampNeg) &&& (255 : Int32)).toUInt32 % 65536).toInt32 = nI (t.getD i 0) := by rw [nI_clamp (by omega), h6' i hi, b1, b2]
    refine sAb_charAt_33 h5 (vp_in_nI (by omega) (by omega)) ?_ ⟨_, rfl, e, rfl⟩
    rw [e]
    exact (pk_charN (by omega)).1
  refine sSb_charAt_0 (by omega) (Nat.le_of_ble_eq_true rfl) h4.is inner ?_
  rintro r H1 ⟨rfl, rfl⟩ - - -
  exact sSb_charAt_5 (pk_charN (by omega)).1 ⟨_, rfl, rfl, rfl⟩
theorem c_AS_newLength (hC : zCs G) (hd : 1 ≤ d) {o g p : Nat} (hg : 1 ≤ o + max g p) (h1 : o ≤ 65536) (h2 : g ≤ 65536) (h3 : p ≤ 65538) : zC G d M_AS_newLength [.int (nI o), .int (nI g), .int (nI p)] H (zRd H (nI (o + max g p))) := by
  refine zC_in [some (.int (nI o)), some (.int (nI g)), some (.int (nI p)), none] pn_AS_newLength hC.1 rfl (Nat.le_of_ble_eq_true rfl) rfl (fun ho => ?_)
  refine sAS_newLength_0 hd (Nat.le_of_ble_eq_true rfl) (c_Ma_max hC _ _) ?_
  rintro r H1 ⟨rfl, rfl⟩ - - -
  have e : (if nI g < nI p then nI p else nI g) = nI (max g p) := by
    by_cases q : g < p
    · rw [if_pos (nI_lt q (by omega)), Nat.max_eq_right (by omega)]
    · rw [if_neg (nI_nlt (by omega) (by omega)), Nat.max_eq_left (by omega)]
  rw [e]
  have hm : max g p ≤ 65538 := by omega
  refine sAS_newLength_6 (fun z => ?_) (fun _ => ?_)
  · rw [nI_add] at z
    exact absurd z (nI_nle (by omega) (by omega))
  · refine sAS_newLength_13 (fun z => ?_) (fun _ => ?_)
    · rw [nI_add] at z
      exact absurd z (show ¬ nI 2147483639 < nI (o + max g p) from nI_nlt (by omega) (by decide))
    · exact sAS_newLength_19 ⟨_, rfl, nI_add _ _, rfl⟩
/-- room for k bytes more -/
theorem c_Ab_ensure (hC : zCs G) (hd : 3 ≤ d) (h : zSB G H a v m t) {k : Nat} (hk : k ≤ 32768) (hR : zRm G H 1 (2 * k)) :
    zC G d M_Ab_ensureCapacityInternal [.ref a, .int (nI k)] H (zPv fun H1 => ∃ v' m', zSB G H1 a v' m' t ∧ k ≤ m' ∧ m ≤ m' ∧ (v' = v ∨ H.size ≤ v') ∧ (m' = m ∨ m' ≤ 2 * k) ∧ zMo [a] H H1 ∧ zUs (m' - m) (2 * (m' - m)) H H1) := by
  have h0 := h
  obtain ⟨h1, h2, h3, ⟨ml, h4⟩, ⟨g, h5, h6, h6'⟩, h7, h8, h9⟩ := h
  refine zC_in [some (.ref a), some (.int (nI k)), none] pn_Ab_ensureCapacityInternal hC.1 rfl (Nat.le_of_ble_eq_true rfl) rfl (fun ho => ?_)
  refine sAb_ensureCapacityInternal_0 (h4.fd rfl) h5 (h4.fd rfl) (fun z => ?_) (fun z => ?_)
  · rw [sb_shr0] at z
    have hkm : k ≤ m := by
      rcases Nat.lt_or_ge m k with q | q
      · rw [pk_sub (by omega)] at z
        exact absurd z (nI_nle (by omega) (by omega))
      · exact q
    exact sAb_ensureCapacityInternal_38 ⟨rfl, v, m, h0, hkm, Nat.le_refl _, Or.inl rfl, Or.inl rfl, zMo.rf, zUs.rf⟩
  · rw [sb_shr0] at z
    have hkm : m < k := by
      rcases Nat.lt_or_ge m k with q | q
      · exact q
      · rcases Nat.lt_or_ge k m with q2 | q2
        · exact absurd (Int32.le_of_lt (pk_sneg (by omega) q2)) z
        · have : k = m := by omega
          subst this
          exact absurd (by rw [Int32.sub_self]; decide) z
    have inner : zC G (d - 1) M_Ab_newCapacity [.ref a, .int (nI k)] H (zRd H (nI (max k (2 * m + 2)))) := by
      refine zC_in [some (.ref a), some (.int (nI k)), none, none, none, none] pn_Ab_newCapacity hC.1 rfl (Nat.le_of_ble_eq_true rfl) rfl (fun ho => ?_)
      refine sAb_newCapacity_0 (h4.fd rfl) h5 (h4.fd rfl) (h4.fd rfl) (by omega) (Nat.le_of_ble_eq_true rfl) (P := fun r H1 => r = nI (max k (2 * m + 2)) ∧ H1 = H) ?_ ?_
      · rw [sb_shl0, sb_shl0, pk_sub (by omega), show nI m + 2 = nI (m + 2) from nI_add m 2]
        have := c_AS_newLength (H := H) hC (d := d - 1 - 1) (by omega) (o := m) (g := k - m) (p := m + 2) (by omega) (by omega) (by omega) (by omega)
        rw [show m + max (k - m) (m + 2) = max k (2 * m + 2) by omega] at this
        exact this
      · rintro r H1 ⟨rfl, rfl⟩ - - -
        refine sAb_newCapacity_32 (fun _ => ?_) (fun e => ?_)
        · exact sAb_newCapacity_51 (h4.fd rfl) ⟨_, rfl, sb_shr0 _, rfl⟩
        · exact absurd ((nI_eq (b := 2147483647) (by omega) (by decide)).mp e) (by omega)
    refine sAb_ensureCapacityInternal_17 zRf_ref (h4.fd rfl) (by omega) (Nat.le_of_ble_eq_true rfl) h4.is inner ?_
    rintro r H1 ⟨rfl, rfl⟩ - - -
    have hm2 : max k (2 * m + 2) ≤ 2 * k := by omega
    refine sAb_ensureCapacityInternal_27 zRf_ref (h4.fd rfl) (by omega) (Nat.le_of_ble_eq_true rfl) (by rw [sb_shl0]; exact c_Ar_copyOf hC (by omega) h5 h6 (show m < max k (2 * m + 2) by omega) (by omega) (hR.le 1 _ (by omega) hm2)) ?_
    rintro r H2 - ⟨rfl, hB, m2, u2⟩ ho2 - -
    refine sAb_ensureCapacityInternal_35 zRf_ref (h4.ex m2) h2 (fun H3 h4' u3 => ?_)
    have hz : H1.size ∉ [a] := fun z => by have := List.mem_singleton.mp z; have := h4.lt; omega
    refine sAb_ensureCapacityInternal_38 ⟨rfl, H1.size, max k (2 * m + 2), ⟨by have := h4.lt; omega, h2, zFr_new ho, ⟨ml, h4'⟩, ⟨_, hB.mo u3.mo hz, sb_fitC h6 sb_fit0, fun j hj => ?_⟩, h7, by omega, by omega⟩, by omega, by omega, Or.inr (Nat.le_refl _), Or.inr hm2, (m2.mono (fun q z => by cases z)).up u3 (Or.inl (List.mem_singleton.mpr rfl)), u2.tr u3.us (c2 := 0) (s2 := 0) (by omega) (by omega)⟩
    rw [sb_cpy0 (by omega)]
    exact h6' j hj
theorem getD_app_lo {t u : List Nat} {j : Nat} (h : j < t.length) : (t ++ u).getD j 0 = t.getD j 0 := by
  rw [List.getD_eq_getElem?_getD, List.getD_eq_getElem?_getD, List.getElem?_append_left h]
theorem getD_app_hi {t u : List Nat} {j : Nat} (h : t.length ≤ j) : (t ++ u).getD j 0 = u.getD (j - t.length) 0 := by
  rw [List.getD_eq_getElem?_getD, List.getD_eq_getElem?_getD, List.getElem?_append_right h]
/-- append(char) -/
theorem c_Sb_append0 (hC : zCs G) (hd : 5 ≤ d) (h : zSB G H a v m t) {c : Nat} (hc : c < 256) (hk : t.length + 1 ≤ 32768) (hR : zRm G H 1 (2 * (t.length + 1))) :
    zC G d M_Sb_append_0 [.ref a, .int (nI c)] H (zPr fun r H1 => r = .ref a ∧ ∃ v' m', zSB G H1 a v' m' (t ++ [c]) ∧ m ≤ m' ∧ (v' = v ∨ H.size ≤ v') ∧ (m' = m ∨ m' ≤ 2 * (t.length + 1)) ∧ zMo [a, v] H H1 ∧ zUs (m' - m) (2 * (m' - m)) H H1) := by
  have hl := h.lt
  refine zC_in [some (.ref a), some (.int (nI c))] pn_Sb_append_0 hC.1 rfl (Nat.le_of_ble_eq_true rfl) rfl (fun ho2 => ?_)
  have inner : zC G (d - 1) M_Ab_append_0 [.ref a, .int (nI c)] H (zPr fun r H1 => r = .ref a ∧ ∃ v' m', zSB G H1 a v' m' (t ++ [c]) ∧ m ≤ m' ∧ (v' = v ∨ H.size ≤ v') ∧ (m' = m ∨ m' ≤ 2 * (t.length + 1)) ∧ zMo [a, v] H H1 ∧ zUs (m' - m) (2 * (m' - m)) H H1) := by
    obtain ⟨g1, g2, g3, ⟨ml, g4⟩, -⟩ := id h
    refine zC_in [some (.ref a), some (.int (nI c))] pn_Ab_append_0 hC.1 rfl (Nat.le_of_ble_eq_true rfl) rfl (fun ho3 => ?_)
    refine sAb_append_0_0 (g4.fd rfl) (by omega) (Nat.le_of_ble_eq_true rfl) g4.is (by rw [nI_1]; exact c_Ab_ensure hC (by omega) h hk hR) ?_
    rintro H1 ⟨v', m', hB, k1, k2, k3, k4, m1, u1⟩ ho4 - -
    obtain ⟨h1, h2, h3, ⟨ml, h4⟩, ⟨g, h5, h6, h6'⟩, h7, h8, h9⟩ := hB
    refine sAb_append_0_10 (by omega) (Nat.le_of_ble_eq_true rfl) h4.is (c_Ab_isLatin1 hC (h4.fd rfl)) ?_
    rintro r H2 ⟨rfl, rfl⟩ - - -
    refine sAb_append_0_14 (fun z => absurd z (by decide)) (fun _ => ?_)
    refine sAb_append_0_17 (by omega) (Nat.le_of_ble_eq_true rfl) (c_L1_canEncode_0 hC hc) ?_
    rintro r H3 ⟨rfl, rfl⟩ - - -
    refine sAb_append_0_21 (fun z => absurd z (by decide)) (fun _ => ?_)
    refine sAb_append_0_24 zRf_ref (h4.fd rfl) (h4.fd rfl) h4 h2 (fun H4 h4' u4 => ?_)
    have hz : v' ∉ [a] := fun z => h1 (List.mem_singleton.mp z).symm
    refine sAb_append_0_39 (h5.mo u4.mo hz) (vp_in_nI (by omega) (by omega)) h3 (fun H5 h5' u5 => ?_)
    have hz2 : a ∉ [v'] := fun z => h1 (List.mem_singleton.mp z)
    rw [nI_1] at h4'
    have e1 : (t ++ [c]).length = t.length + 1 := by simp
    refine sAb_append_0_42 zRf_ref ⟨_, rfl, zRf_ref, rfl, v', m', ⟨h1, h2, h3, ⟨ml, by rw [e1]; exact h4'.mo u5.mo hz2⟩, ⟨upd g t.length (sb_b c), h5'.to (fun j hj => ?_), sb_fitU h6 (sb_fitB c), fun j hj => ?_⟩, fun x hx => ?_, by omega, h9⟩, k2, k3, k4, ?_, (u1.tr u4.us (c := m' - m) (s := 2 * (m' - m)) (c2 := 0) (s2 := 0) (by omega) (by omega)).tr u5.us (c2 := 0) (s2 := 0) (by omega) (by omega)⟩
    · rw [nI_clamp (by omega), z8]
      unfold updV upd
      by_cases q : j = t.length
      · rw [if_pos q, if_pos q]; rfl
      · rw [if_neg q, if_neg q]
    · by_cases q : j = t.length
      · rw [q, pk_us, getD_app_hi (Nat.le_refl _), Nat.sub_self]; rfl
      · rw [pk_un q, getD_app_lo (by omega)]
        exact h6' j (by omega)
    · rcases List.mem_append.mp hx with q | q
      · exact h7 x q
      · rw [List.mem_singleton.mp q]; exact hc
    · refine ((m1.mono (S := [a, v]) (fun q z => Or.inl (by rw [List.mem_singleton.mp z]; exact List.mem_cons_self))).up u4 (Or.inl List.mem_cons_self)).up u5 ?_
      rcases k3 with rfl | k3
      · exact Or.inl (List.mem_cons_of_mem _ (List.mem_singleton.mpr rfl))
      · exact Or.inr k3
  refine sSb_append_0_0 (by omega) (Nat.le_of_ble_eq_true rfl) h.is inner ?_
  rintro r H1 - ⟨rfl, hP⟩ - - -
  exact sSb_append_0_5 rfl zRf_ref ⟨_, rfl, zRf_ref, rfl, hP⟩
/-- setLength(n), not beyond the end -/
theorem c_Sb_setLength (hC : zCs G) (hd : 5 ≤ d) (h : zSB G H a v m t) {n : Nat} (hn : n ≤ t.length) :
    zC G d M_Sb_setLength [.ref a, .int (nI n)] H (zPv fun H1 => zSB G H1 a v m (t.take n) ∧ zMo [a] H H1 ∧ zUs 0 0 H H1) := by
  refine zC_in [some (.ref a), some (.int (nI n))] pn_Sb_setLength hC.1 rfl (Nat.le_of_ble_eq_true rfl) rfl (fun ho2 => ?_)
  have inner : zC G (d - 1) M_Ab_setLength [.ref a, .int (nI n)] H (zPv fun H1 => zSB G H1 a v m (t.take n) ∧ zMo [a] H H1 ∧ zUs 0 0 H H1) := by
    obtain ⟨h1, h2, h3, ⟨ml, h4⟩, ⟨g, h5, h6, h6'⟩, h7, h8, h9⟩ := id h
    refine zC_in [some (.ref a), some (.int (nI n))] pn_Ab_setLength hC.1 rfl (Nat.le_of_ble_eq_true rfl) rfl (fun ho3 => ?_)
    refine sAb_setLength_0 (fun _ => ?_) (fun z => absurd (nI_pos' (by omega)) z)
    have ens : zC G (d - 1 - 1) M_Ab_ensureCapacityInternal [.ref a, .int (nI n)] H (zPv fun H1 => H1 = H) := by
      refine zC_in [some (.ref a), some (.int (nI n)), none] pn_Ab_ensureCapacityInternal hC.1 rfl (Nat.le_of_ble_eq_true rfl) rfl (fun ho => ?_)
      refine sAb_ensureCapacityInternal_0 (h4.fd rfl) h5 (h4.fd rfl) (fun z => sAb_ensureCapacityInternal_38 ⟨rfl, rfl⟩) (fun z => absurd ?_ z)
      rw [sb_shr0]
      rcases Nat.lt_or_ge n m with q2 | q2
      · exact Int32.le_of_lt (pk_sneg (by omega) q2)
      · have : n = m := by omega
        subst this
        rw [Int32.sub_self]; decide
    refine sAb_setLength_13 (by omega) (Nat.le_of_ble_eq_true rfl) h4.is ens ?_
    rintro H1 rfl - - -
    refine sAb_setLength_18 (h4.fd rfl) (fun _ => ?_) (fun z => absurd (nI_le hn (by omega)) z)
    have e1 : (t.take n).length = n := by rw [List.length_take]; omega
    have e2 : ∀ j, j < n → g j = sb_b ((t.take n).getD j 0) := fun j hj => by
      have := take_drop_getD t 0 n j hj
      rw [List.drop_zero, Nat.zero_add] at this
      rw [this]; exact h6' j (by omega)
    have fin : ∀ (H2 : Heap) (b : Value), zObj G H2 a 1 [.ref v, .int 0, b, .int (nI t.length)] → (∃ ml, b = .int ml) → zMo [a] H1 H2 → zUs 0 0 H1 H2 → zArr G H2 v .byte m (fun j => .int (g j)) → zW G (d - 1) M_Ab_setLength 76 [some (.ref a), some (.int (nI n))] [] H2 (zPv fun H3 => zSB G H3 a v m (t.take n) ∧ zMo [a] H1 H3 ∧ zUs 0 0 H1 H3) := by
      rintro H2 b hb ⟨ml2, rfl⟩ m2 u2 hA
      refine sAb_setLength_76 hb h2 (fun H3 h3' u3 => ?_)
      refine sAb_setLength_81 ⟨rfl, ⟨h1, h2, h3, ⟨ml2, by rw [e1]; exact h3'⟩, ⟨g, hA.mo u3.mo (fun z => h1 (List.mem_singleton.mp z).symm), h6, fun j hj => e2 j (by omega)⟩, fun c hc => h7 c (List.mem_of_mem_take hc), by omega, h9⟩, m2.up u3 (Or.inl (List.mem_singleton.mpr rfl)), u2.tr u3.us (c2 := 0) (s2 := 0) (by omega) (by omega)⟩
    refine sAb_setLength_63 (h4.fd rfl) (fun _ => ?_) (fun _ => ?_)
    · exact fin H1 _ h4 ⟨_, rfl⟩ zMo.rf zUs.rf h5
    · refine sAb_setLength_71 h4 h2 rfl rfl (fun H2 h2' u2 => ?_)
      exact fin H2 _ h2' ⟨_, rfl⟩ u2.mo u2.us (h5.mo u2.mo (fun z => h1 (List.mem_singleton.mp z).symm))
  refine sSb_setLength_0 (by omega) (Nat.le_of_ble_eq_true rfl) h.is inner ?_
  intro H1 hP _ _ _
  exact sSb_setLength_5 ⟨rfl, hP⟩
theorem c_Ab_getValue (hC : zCs G) (h : zFd G H a 1 0 (.ref v)) : zC G d M_Ab_getValue [.ref a] H (zPr fun r H1 => r = .ref v ∧ H1 = H) := by
  refine zC_in [some (.ref a)] pn_Ab_getValue hC.1 rfl (Nat.le_of_ble_eq_true rfl) rfl (fun ho => ?_)
  exact sAb_getValue_0 zRf_ref h ⟨_, rfl, zRf_ref, rfl, rfl⟩
/-- toString() -/
theorem c_Sb_toString (hC : zCs G) (hd : 6 ≤ d) (h : zSB G H a v m t) (hL : zLi G H L) (hR : zRm G H 2 (t.length + 4)) :
    zC G d M_Sb_toString [.ref a] H (zPr fun r H1 => ∃ b, r = .ref b ∧ zTx G L H1 b t ∧ zMo [] H H1 ∧ zUs 2 (t.length + 4) H H1) := by
  refine zC_in [some (.ref a)] pn_Sb_toString hC.1 rfl (Nat.le_of_ble_eq_true rfl) rfl (fun ho => ?_)
  refine sSb_toString_0 (by have := hR.1; omega) (by have := hR.2; omega) (fun H1 h1 n1 => ?_)
  have hs := h.ex n1.mo
  have hfr := zFr_new ho
  have e1 : H1.size = H.size + 1 := n1.1
  have hR1 : zRm G H1 1 t.length := hR.us n1.us 1 t.length (by omega) (by omega)
  have inner2 : zC G (d - 1 - 1) M_St_init_1 [.ref H.size, .ref a, .null] H1 (zPv fun H2 => zTx G L H2 H.size t ∧ zMo [H.size] H1 H2 ∧ zUs 1 t.length H1 H2) := by
    obtain ⟨g1, g2, g3, ⟨ml, g4⟩, ⟨g, g5, g6, g6'⟩, g7, g8, g9⟩ := id hs
    refine zC_in [some (.ref H.size), some (.ref a), some .null, none, none] pn_St_init_1 hC.1 rfl (Nat.le_of_ble_eq_true rfl) rfl (fun ho1 => ?_)
    refine sSt_init_1_0 (by omega) (Nat.le_of_ble_eq_true rfl) ?_
    refine sSt_init_1_4 (by omega) (Nat.le_of_ble_eq_true rfl) g4.is (c_Ab_getValue hC (g4.fd rfl)) ?_
    rintro r H2 - ⟨rfl, rfl⟩ - - -
    refine sSt_init_1_8 zRf_ref zRf_ref ?_
    refine zw_callO (x := ⟨"java/lang/AbstractStringBuilder", "length", "()I"⟩) (owner := "java/lang/AbstractStringBuilder") (idx := 549) (M2 := M_Sb_length) (n := 0) [] [] dSt_init_1_10 (by omega) zc_Sb_length (ci := 1) rfl (zt6 158 rfl) (zt2 200 rfl) (zt6 151 rfl) (zt2 34 rfl) (zt2 33 rfl) (zt2 29 rfl) ⟨by decide, by decide⟩ (by decide +kernel) g4.is rfl rfl (Nat.le_of_ble_eq_true rfl) (c_Sb_length hC (by omega) hs) ?_
    rintro vv H3 ⟨r, rfl, rfl, rfl⟩ - - -
    refine sSt_init_1_13 (by omega) (Nat.le_of_ble_eq_true rfl) g4.is (c_Ab_isLatin1 hC (g4.fd rfl)) ?_
    rintro r H4 ⟨rfl, rfl⟩ - - -
    refine sSt_init_1_19 (fun z => absurd z (by decide)) (fun _ => ?_)
    refine sSt_init_1_22 h1 hfr rfl rfl (fun H5 h5 u5 => ?_)
    have hv : v ∉ [H.size] := fun z => by have := List.mem_singleton.mp z; have := h.lt; omega
    refine sSt_init_1_27 zRf_ref zRf_ref (by omega) (Nat.le_of_ble_eq_true rfl) (c_Ar_copyOfRange hC (by omega) (i := 0) (k := t.length) (g5.mo u5.mo hv) g6 (Nat.zero_le _) g8 g9 (Or.inl g3) (by rw [Nat.sub_zero]; exact hR1.us (c1 := 0) (s1 := 0) u5.us 1 t.length (by omega) (by omega))) ?_
    rintro r H6 - ⟨rfl, h6, m6, u6⟩ ho6 - -
    rw [Nat.sub_zero] at h6 u6
    refine sSt_init_1_35 zRf_ref (h5.ex m6) hfr (fun H7 h7 u7 => ?_)
    have e5 : H5.size = H4.size := u5.1
    have hz : H5.size ∉ [H.size] := fun z => by have := List.mem_singleton.mp z; omega
    refine sSt_init_1_38 ⟨rfl, ⟨H5.size, hL.new (Nat.le_refl _), hL.new (by omega), h7.is, h7.fd rfl, h7.fd rfl, ?_, g7, by omega⟩, ((u5.mo).ex m6).up u7 (Or.inl (List.mem_singleton.mpr rfl)), (u5.us.tr u6 (c1 := 0) (s1 := 0) (c := 1) (s := t.length) (by omega) (by omega)).tr u7.us (c2 := 0) (s2 := 0) (by omega) (by omega)⟩
    refine (h6.mo u7.mo hz).to (fun j hj => ?_)
    rw [Nat.zero_add, g6' j hj]
  have inner : zC G (d - 1) M_St_init_0 [.ref H.size, .ref a] H1 (zPv fun H2 => zTx G L H2 H.size t ∧ zMo [H.size] H1 H2 ∧ zUs 1 t.length H1 H2) := by
    refine zC_in [some (.ref H.size), some (.ref a)] pn_St_init_0 hC.1 rfl (Nat.le_of_ble_eq_true rfl) rfl (fun ho1 => ?_)
    refine sSt_init_0_0 zRf_ref (by omega) (Nat.le_of_ble_eq_true rfl) inner2 ?_
    intro H2 hP _ _ _
    exact sSt_init_0_6 ⟨rfl, hP⟩
  refine sSb_toString_3 zRf_ref (by omega) (Nat.le_of_ble_eq_true rfl) inner ?_
  rintro H2 ⟨k1, k2, k3⟩ - - -
  refine sSb_toString_8 zRf_ref ⟨_, rfl, zRf_ref, _, rfl, k1, n1.mo.tr k2 (fun q z => by cases z) (fun q z => Or.inr (by rw [List.mem_singleton.mp z]; exact Nat.le_refl _)), n1.us.tr k3 (by omega) (by omega)⟩
/-- append(String) -/
theorem c_Sb_append1 (hC : zCs G) (hd : 5 ≤ d) (h : zSB G H a v m t) {s : Nat} (hs : zTx G [a, v] H s u) (hk : t.length + u.length ≤ 32768) (hR : zRm G H 1 (2 * (t.length + u.length))) :
    zC G d M_Sb_append_1 [.ref a, .ref s] H (zPr fun r H1 => r = .ref a ∧ ∃ v' m', zSB G H1 a v' m' (t ++ u) ∧ m ≤ m' ∧ (v' = v ∨ H.size ≤ v') ∧ (m' = m ∨ m' ≤ 2 * (t.length + u.length)) ∧ zMo [a, v] H H1 ∧ zUs (m' - m) (2 * (m' - m)) H H1) := by
  refine zC_in [some (.ref a), some (.ref s)] pn_Sb_append_1 hC.1 rfl (Nat.le_of_ble_eq_true rfl) rfl (fun ho2 => ?_)
  have inner : zC G (d - 1) M_Ab_append_1 [.ref a, .ref s] H (zPr fun r H1 => r = .ref a ∧ ∃ v' m', zSB G H1 a v' m' (t ++ u) ∧ m ≤ m' ∧ (v' = v ∨ H.size ≤ v') ∧ (m' = m ∨ m' ≤ 2 * (t.length + u.length)) ∧ zMo [a, v] H H1 ∧ zUs (m' - m) (2 * (m' - m)) H H1) := by
    obtain ⟨g1, g2, g3, ⟨ml, g4⟩, -⟩ := id h
    refine zC_in [some (.ref a), some (.ref s), none] pn_Ab_append_1 hC.1 rfl (Nat.le_of_ble_eq_true rfl) rfl (fun ho3 => ?_)
    refine sAb_append_1_0 zRf_ref (fun _ _ => ?_) (fun z => by cases z)
    refine sAb_append_1_9 (by omega) (Nat.le_of_ble_eq_true rfl) hs.is (c_St_length hC (by omega) hs) ?_
    rintro r H1 ⟨rfl, rfl⟩ - - -
    refine sAb_append_1_13 (g4.fd rfl) (by omega) (Nat.le_of_ble_eq_true rfl) g4.is (by rw [nI_add]; exact c_Ab_ensure hC (by omega) h hk hR) ?_
    rintro H2 ⟨v', m', hB, k1, k2, k3, k4, m1, u1⟩ ho4 - -
    have hB0 := hB
    obtain ⟨h1, h2, h3, ⟨ml, h4⟩, ⟨g, h5, h6, h6'⟩, h7, h8, h9⟩ := hB
    have hs2 : zTx G [a, v'] H2 s u := (hs.li (L2 := [a, v']) (fun q z => by
      rcases List.mem_cons.mp z with rfl | z
      · exact Or.inl List.mem_cons_self
      · rw [List.mem_singleton.mp z]
        rcases k3 with rfl | k3
        · exact Or.inl (List.mem_cons_of_mem _ (List.mem_singleton.mpr rfl))
        · exact Or.inr k3)).mo m1 (fun q z => Or.inl (by rw [List.mem_singleton.mp z]; exact List.mem_cons_self))
    obtain ⟨w, f1, f2, f3, f4, f5, f6, f7, f8⟩ := hs2
    have hput : zC G (d - 1 - 1) M_Ab_putStringAt [.ref a, .int (nI t.length), .ref s] H2 (zPv fun H3 => zArr G H3 v' .byte m' (fun j => .int (va_cpy (fun i => sb_b (u.getD i 0)) g 0 t.length u.length j)) ∧ zUp v' H2 H3) := by
      refine zC_in [some (.ref a), some (.int (nI t.length)), some (.ref s)] pn_Ab_putStringAt hC.1 rfl (Nat.le_of_ble_eq_true rfl) rfl (fun ho5 => ?_)
      have hinf : zC G (d - 1 - 1 - 1) M_Ab_inflateIfNeededFor [.ref a, .ref s] H2 (zPv fun H3 => H3 = H2) := by
        refine zC_in [some (.ref a), some (.ref s)] pn_Ab_inflateIfNeededFor hC.1 rfl (Nat.le_of_ble_eq_true rfl) rfl (fun ho5 => ?_)
        refine sAb_inflateIfNeededFor_0 hC.2.1 (fun h => absurd h (by decide)) (fun _ => ?_)
        refine sAb_inflateIfNeededFor_6 (h4.fd rfl) (by omega) (Nat.le_of_ble_eq_true rfl) f3 (c_St_coder hC f5) ?_
        rintro r H3 ⟨rfl, rfl⟩ - - -
        exact sAb_inflateIfNeededFor_14 (fun _ => sAb_inflateIfNeededFor_21 ⟨rfl, rfl⟩) (fun z => absurd rfl z)
      refine sAb_putStringAt_0 zRf_ref (by omega) (Nat.le_of_ble_eq_true rfl) h4.is hinf ?_
      rintro H3 rfl - - -
      have hgb : zC G (d - 1 - 1 - 1) M_St_getBytes [.ref s, .ref v', .int (nI t.length), .int 0] H3 (zPv fun H4 => zArr G H4 v' .byte m' (fun j => .int (va_cpy (fun i => sb_b (u.getD i 0)) g 0 t.length u.length j)) ∧ zUp v' H3 H4) := by
        refine zC_in [some (.ref s), some (.ref v'), some (.int (nI t.length)), some (.int 0)] pn_St_getBytes hC.1 rfl (Nat.le_of_ble_eq_true rfl) rfl (fun ho5 => ?_)
        refine sSt_getBytes_0 (by omega) (Nat.le_of_ble_eq_true rfl) f3 (c_St_coder hC f5) ?_
        rintro r H4 ⟨rfl, rfl⟩ - - -
        refine sSt_getBytes_4 (fun z => absurd rfl z) (fun _ => ?_)
        refine sSt_getBytes_8 zRf_ref zRf_ref f4 f4 f6 ?_
        rw [sb_shl0]
        have ec : (nI u.length).toNatClampNeg = u.length := nI_clamp (by omega)
        have et : (nI t.length).toNatClampNeg = t.length := nI_clamp (by omega)
        refine zw_copy dSt_getBytes_22 (by omega) zcp_St_212 zcp_nat zcp_stat zcp_init f6 h5 h3 (by decide) (nI_pos (by omega)) (nI_pos (by omega)) (by rw [ec, sb_cl0]; omega) (by rw [ec, et]; omega) (fun i hi => zCpB (sb_fitB _)) (Nat.le_of_ble_eq_true rfl) (fun H5 hB5 hu => ?_)
        refine sSt_getBytes_25 ⟨rfl, hB5.to (fun j hj => ?_), hu⟩
        rw [ec, et, sb_cl0]
        exact zCpyI _ g 0 t.length u.length j
      refine sAb_putStringAt_5 zRf_ref (h4.fd rfl) (h4.fd rfl) (by omega) (Nat.le_of_ble_eq_true rfl) f3 hgb ?_
      intro H4 hP _ _ _
      exact sAb_putStringAt_18 ⟨rfl, hP⟩
    refine sAb_append_1_24 zRf_ref (h4.fd rfl) (by omega) (Nat.le_of_ble_eq_true rfl) h4.is hput ?_
    rintro H3 ⟨hA3, up3⟩ - - -
    have hz2 : a ∉ [v'] := fun z => h1 (List.mem_singleton.mp z)
    have h4' := h4.mo up3.mo hz2
    refine sAb_append_1_33 (h4'.fd rfl) h4' h2 (fun H4 h4'' up4 => ?_)
    rw [nI_add] at h4''
    have e1 : (t ++ u).length = t.length + u.length := List.length_append
    refine sAb_append_1_43 zRf_ref ⟨_, rfl, zRf_ref, rfl, v', m', ⟨h1, h2, h3, ⟨ml, by rw [e1]; exact h4''⟩, ⟨_, hA3.mo up4.mo (fun z => h1 (List.mem_singleton.mp z).symm), sb_fitC (sb_fitT u) h6, fun j hj => ?_⟩, fun x hx => ?_, by omega, h9⟩, k2, k3, k4, ?_, (u1.tr up3.us (c := m' - m) (s := 2 * (m' - m)) (c2 := 0) (s2 := 0) (by omega) (by omega)).tr up4.us (c2 := 0) (s2 := 0) (by omega) (by omega)⟩
    · by_cases q : j < t.length
      · rw [pk_cpy_out (Or.inl q), getD_app_lo q]
        exact h6' j q
      · rw [pk_cpy_in (by omega) (by omega), getD_app_hi (by omega), Nat.zero_add]
    · rcases List.mem_append.mp hx with q | q
      · exact h7 x q
      · exact f7 x q
    · refine ((m1.mono (S := [a, v]) (fun q z => Or.inl (by rw [List.mem_singleton.mp z]; exact List.mem_cons_self))).up up3 ?_).up up4 (Or.inl List.mem_cons_self)
      rcases k3 with rfl | k3
      · exact Or.inl (List.mem_cons_of_mem _ (List.mem_singleton.mpr rfl))
      · exact Or.inr k3
  refine sSb_append_1_0 zRf_ref (by omega) (Nat.le_of_ble_eq_true rfl) h.is inner ?_
  rintro r H1 - ⟨rfl, hP⟩ - - -
  exact sSb_append_1_5 rfl zRf_ref ⟨_, rfl, zRf_ref, rfl, hP⟩
end JB
end
section
/-- what an array of a list shows -/
def zAf (xs : List Nat) (j : Nat) : Value := va_rf xs[j]?
theorem zAf_rf (xs : List Nat) (j : Nat) : zRf (zAf xs j) := zRf_rf _
theorem zAf_at {xs : List Nat} {j : Nat} (h : j < xs.length) : zAf xs j = .ref (xs.getD j 0) := by
  unfold zAf
  rw [List.getElem?_eq_getElem h, List.getD_eq_getElem?_getD, List.getElem?_eq_getElem h]
  rfl
theorem zAf_no {xs : List Nat} {j : Nat} (h : xs.length ≤ j) : zAf xs j = .null := by
  unfold zAf
  rw [List.getElem?_eq_none h]
  rfl
def zDv (G : zG) (e : Nat) : Prop := va_Z "java/util/ArrayList" "DEFAULTCAPACITY_EMPTY_ELEMENTDATA" "[Ljava/lang/Object;" (.ref e) (zFr G) (zS G) (zS G).heap
/-- what else the start gives: the lists' first array, the mirror of Object[] -/
def zCu (G : zG) : Prop := zCs G ∧ (∃ k : Nat, zDv G k ∧ k < (zS G).heap.size ∧ zArr G (zS G).heap k (.object "java/lang/Object") 0 (fun _ => .null)) ∧ ∃ mi : Nat, va_Mi "[Ljava/lang/Object;" mi (zS G)
/-- a class whose objects may lie in a list -/
def zEl (ci : Nat) : Prop := ∃ (C : String) (T : u_T) (N : Nat), classes[ci]? = some (C, T, N) ∧ Cond.castable C "java/lang/Object" ∈ lw_tbl
/-- an ArrayList at a, its array at e (m places), with objects of the class ci -/
def zAL (G : zG) (H : Heap) (a e m ci : Nat) (xs : List Nat) : Prop := a ≠ e ∧ zFr G a ∧ (∃ mc : Int32, zObj G H a 5 [.ref e, .int (nI xs.length), .int mc]) ∧ zArr G H e (.object "java/lang/Object") m (zAf xs) ∧ ((m = 0 ∧ zDv G e) ∨ (10 ≤ m ∧ zFr G e)) ∧ (∀ x ∈ xs, zIs G H x ci) ∧ xs.length ≤ m ∧ m ≤ 1000
theorem zAL.mo {G : zG} {S : List Nat} {H H1 : Heap} {a e m ci : Nat} {xs : List Nat} (h : zAL G H a e m ci xs) (q : zMo S H H1) (ha : a ∉ S) (he : e ∉ S) (hx : ∀ x ∈ xs, x ∉ S) : zAL G H1 a e m ci xs := by
  obtain ⟨h1, h2, ⟨mc, h3⟩, h4, h5, h6, h7⟩ := h
  exact ⟨h1, h2, ⟨mc, h3.mo q ha⟩, h4.mo q he, h5, fun x z => (h6 x z).mo q (hx x z), h7⟩
theorem zAL.lt {G : zG} {H : Heap} {a e m ci : Nat} {xs : List Nat} (h : zAL G H a e m ci xs) : a < H.size ∧ e < H.size := by
  obtain ⟨h1, h2, ⟨mc, h3⟩, h4, h5⟩ := h
  exact ⟨h3.lt, h4.lt⟩
theorem zAL.is {G : zG} {H : Heap} {a e m ci : Nat} {xs : List Nat} (h : zAL G H a e m ci xs) : zIs G H a 5 := by
  obtain ⟨h1, h2, ⟨mc, h3⟩, h4, h5⟩ := h
  exact h3.is
section JL
variable {G : zG} {d : Nat} {H : Heap} {a e m ci b : Nat} {xs : List Nat}
theorem c_Al_init (hC : zCu G) (hd : 3 ≤ d) {b0 b2 : Value} (ho : zObj G H a 5 [b0, .int 0, b2]) (ha : zFr G a) : zC G d M_Al_init [.ref a] H (zPv fun H1 => (∃ k, zAL G H1 a k 0 ci []) ∧ zMo [a] H H1 ∧ zUs 0 0 H H1) := by
  obtain ⟨k, hk, hkl, hka⟩ := hC.2.1
  refine zC_in [some (.ref a)] pn_Al_init hC.1.1 rfl (Nat.le_of_ble_eq_true rfl) rfl (fun ho2 => ?_)
  have i2 : zC G (d - 1 - 1) M_AC_init [.ref a] H (zPv fun H1 => H1 = H) := by
    refine zC_in [some (.ref a)] pn_AC_init hC.1.1 rfl (Nat.le_of_ble_eq_true rfl) rfl (fun ho2 => ?_)
    exact sAC_init_0 (by omega) (Nat.le_of_ble_eq_true rfl) (sAC_init_4 ⟨rfl, rfl⟩)
  have i1 : zC G (d - 1) M_AL_init [.ref a] H (zPv fun H1 => zObj G H1 a 5 [b0, .int 0, .int 0] ∧ zUp a H H1) := by
    refine zC_in [some (.ref a)] pn_AL_init hC.1.1 rfl (Nat.le_of_ble_eq_true rfl) rfl (fun ho2 => ?_)
    refine sAL_init_0 (by omega) (Nat.le_of_ble_eq_true rfl) i2 ?_
    rintro H1 rfl - - -
    refine sAL_init_4 ho ha (fun H2 h2 u2 => ?_)
    exact sAL_init_9 ⟨rfl, h2, u2⟩
  refine sAl_init_0 (by omega) (Nat.le_of_ble_eq_true rfl) i1 ?_
  rintro H1 ⟨h1, u1⟩ ho1 - -
  refine sAl_init_4 zRf_ref hk h1 ha (fun H2 h2 u2 => ?_)
  have hne : a ≠ k := fun z => by subst z; exact absurd ha (Nat.not_le.mpr hkl)
  have hka2 : zArr G H2 k (.object "java/lang/Object") 0 (zAf []) := by
    have e1 : H2[k]? = (zS G).heap[k]? := by
      rw [u2.2.2 k (Ne.symm hne), u1.2.2 k (Ne.symm hne)]
      exact ho2.2.1 k hkl
    exact (hka.kept e1).to (fun j hj => absurd hj (Nat.not_lt_zero j))
  exact sAl_init_11 ⟨rfl, ⟨k, hne, ha, ⟨_, h2⟩, hka2, Or.inl ⟨rfl, hk⟩, (fun x hx => by cases hx), Nat.le_refl _, by decide⟩, u1.mo.up u2 (Or.inl (List.mem_singleton.mpr rfl)), u1.us.tr u2.us (c1 := 0) (s1 := 0) (c2 := 0) (s2 := 0) (by omega) (by omega)⟩
theorem c_Al_size (hC : zCs G) (h : zAL G H a e m ci xs) : zC G d M_Al_size [.ref a] H (zRd H (nI xs.length)) := by
  obtain ⟨h1, h2, ⟨mc, h3⟩, h4, h5⟩ := h
  refine zC_in [some (.ref a)] pn_Al_size hC.1 rfl (Nat.le_of_ble_eq_true rfl) rfl (fun ho2 => ?_)
  exact sAl_size_0 (h3.fd rfl) ⟨_, rfl, rfl, rfl⟩
theorem c_Ob_checkIndex (hC : zCs G) (hd : 1 ≤ d) {i n : Nat} (hi : i < n) (hn : n < 2 ^ 31) : zC G d M_Ob_checkIndex [.int (nI i), .int (nI n)] H (zRd H (nI i)) := by
  refine zC_in [some (.int (nI i)), some (.int (nI n))] pn_Ob_checkIndex hC.1 rfl (Nat.le_of_ble_eq_true rfl) rfl (fun ho => ?_)
  refine sOb_checkIndex_0 hd (Nat.le_of_ble_eq_true rfl) (c_Pc_checkIndex hC zRf_null hi hn) ?_
  rintro r H1 ⟨rfl, rfl⟩ - - -
  exact sOb_checkIndex_6 ⟨_, rfl, rfl, rfl⟩
theorem c_Al_elementData (hC : zCs G) (h : zAL G H a e m ci xs) {i : Nat} (hi : i < xs.length) : zC G d M_Al_elementData [.ref a, .int (nI i)] H (zPr fun r H1 => r = .ref (xs.getD i 0) ∧ H1 = H) := by
  obtain ⟨h1, h2, ⟨mc, h3⟩, h4, h5, h6, h7, h8⟩ := h
  refine zC_in [some (.ref a), some (.int (nI i))] pn_Al_elementData hC.1 rfl (Nat.le_of_ble_eq_true rfl) rfl (fun ho2 => ?_)
  exact sAl_elementData_0 zRf_ref (h3.fd rfl) rfl h4 (vp_in_nI (by omega) (by omega)) (by rw [nI_clamp (by omega)]; exact zAf_at hi) ⟨_, rfl, zRf_ref, rfl, rfl⟩
theorem c_Al_get (hC : zCs G) (hd : 2 ≤ d) (h : zAL G H a e m ci xs) {i : Nat} (hi : i < xs.length) : zC G d M_Al_get [.ref a, .int (nI i)] H (zPr fun r H1 => r = .ref (xs.getD i 0) ∧ H1 = H) := by
  have h0 := h
  obtain ⟨h1, h2, ⟨mc, h3⟩, h4, h5, h6, h7, h8⟩ := h
  refine zC_in [some (.ref a), some (.int (nI i))] pn_Al_get hC.1 rfl (Nat.le_of_ble_eq_true rfl) rfl (fun ho2 => ?_)
  refine sAl_get_0 (h3.fd rfl) (by omega) (Nat.le_of_ble_eq_true rfl) (c_Ob_checkIndex hC (by omega) hi (by omega)) ?_
  rintro r H1 ⟨rfl, rfl⟩ - - -
  refine sAl_get_8 rfl (by omega) (Nat.le_of_ble_eq_true rfl) h3.is (c_Al_elementData hC h0 hi) ?_
  rintro r H1 - ⟨rfl, rfl⟩ - - -
  exact sAl_get_14 zRf_ref ⟨_, rfl, zRf_ref, rfl, rfl⟩
theorem getD_mem {xs : List Nat} {i : Nat} (h : i < xs.length) : xs.getD i 0 ∈ xs := by
  rw [List.getD_eq_getElem?_getD, List.getElem?_eq_getElem h]
  exact List.getElem_mem h
theorem c_Al_set (hC : zCs G) (hd : 2 ≤ d) (h : zAL G H a e m ci xs) {i : Nat} (hi : i < xs.length) (hb : zIs G H b ci) (hE : zEl ci) (hx : ∀ x ∈ xs, x ≠ e) (hbe : b ≠ e) : zC G d M_Al_set [.ref a, .int (nI i), .ref b] H (zPr fun _ H1 => zAL G H1 a e m ci (xs.set i b) ∧ zMo [e] H H1 ∧ zUs 0 0 H H1) := by
  have h0 := h
  obtain ⟨h1, h2, ⟨mc, h3⟩, h4, h5, h6, h7, h8⟩ := h
  have he : zFr G e := by
    rcases h5 with h5 | h5
    · omega
    · exact h5.2
  obtain ⟨C, T, N, hE1, hE2⟩ := hE
  refine zC_in [some (.ref a), some (.int (nI i)), some (.ref b), none] pn_Al_set hC.1 rfl (Nat.le_of_ble_eq_true rfl) rfl (fun ho2 => ?_)
  refine sAl_set_0 (h3.fd rfl) (by omega) (Nat.le_of_ble_eq_true rfl) (c_Ob_checkIndex hC (by omega) hi (by omega)) ?_
  rintro r H1 ⟨rfl, rfl⟩ - - -
  refine sAl_set_8 rfl (by omega) (Nat.le_of_ble_eq_true rfl) h3.is (c_Al_elementData hC h0 hi) ?_
  rintro r H1 - ⟨rfl, rfl⟩ - - -
  refine sAl_set_14 zRf_ref zRf_ref zRf_ref (h3.fd rfl) ?_
  refine zw_aast dAl_set_21 h4 (vp_in_nI (by omega) (by omega)) he hb hE1 hE2 (fun H2 h2' u2 => ?_)
  have na : a ∉ [e] := fun z => h1 (List.mem_singleton.mp z)
  refine sAl_set_22 zRf_ref ⟨_, rfl, zRf_ref, ⟨h1, h2, ⟨mc, by rw [List.length_set]; exact h3.mo u2.mo na⟩, h2'.to (fun j hj => ?_), h5, fun x hx2 => ?_, by rw [List.length_set]; exact h7, h8⟩, u2.mo, u2.us⟩
  · rw [nI_clamp (by omega)]
    unfold updV zAf
    rw [List.getElem?_set]
    by_cases q : j = i
    · rw [if_pos q, if_pos q.symm, if_pos hi]; rfl
    · rw [if_neg q, if_neg (Ne.symm q)]
  · rcases List.mem_or_eq_of_mem_set hx2 with q | rfl
    · exact (h6 x q).mo u2.mo (fun z => hx x q (List.mem_singleton.mp z))
    · exact hb.mo u2.mo (fun z => hbe (List.mem_singleton.mp z))
theorem c_Ar_copyOf_1 (hC : zCu G) (hd : 2 ≤ d) {k : Nat} (hA : zArr G H e (.object "java/lang/Object") m (zAf xs)) (he : zFr G e) (hmk : m < k) (hk : k ≤ 65536) (hx : ∀ x ∈ xs, zIs G H x ci) (hE : zEl ci) (hlen : xs.length ≤ m) (hR : zRm G H 1 k) : zC G d M_Ar_copyOf_1 [.ref e, .int (nI k)] H (zPr fun r H1 => r = .ref H.size ∧ zArr G H1 H.size (.object "java/lang/Object") k (zAf xs) ∧ zMo [] H H1 ∧ zUs 1 k H H1) := by
  obtain ⟨mi, hmi⟩ := hC.2.2
  obtain ⟨C, T, N, hE1, hE2⟩ := hE
  refine zC_in [some (.ref e), some (.int (nI k))] pn_Ar_copyOf_1 hC.1.1 rfl (Nat.le_of_ble_eq_true rfl) rfl (fun ho2 => ?_)
  have inner : zC G (d - 1) M_Ar_copyOf_2 [.ref e, .int (nI k), .ref mi] H (zPr fun r H1 => r = .ref H.size ∧ zArr G H1 H.size (.object "java/lang/Object") k (zAf xs) ∧ zMo [] H H1 ∧ zUs 1 k H H1) := by
    refine zC_in [some (.ref e), some (.int (nI k)), some (.ref mi), none] pn_Ar_copyOf_2 hC.1.1 rfl (Nat.le_of_ble_eq_true rfl) rfl (fun ho2 => ?_)
    refine sAr_copyOf_2_0 zRf_ref ?_
    refine zw_ldcM dAr_copyOf_2_1 zcx_Ar_110 hmi ?_
    refine zw_acmp_ne (rx := some mi) (ry := some mi) 13 dAr_copyOf_2_3 (by decide) (fun z => absurd rfl z) (fun _ => ?_)
    refine sAr_copyOf_2_6 ?_
    refine zw_anew (N := k) dAr_copyOf_2_7 zcx_Ar_2 zao_O (nI_pos (by omega)) (nI_clamp (by omega)) (by omega) hR.1 hR.2 (fun H1 hB hN => ?_)
    have hA1 := hA.ex hN.mo
    refine sAr_copyOf_2_10 zRf_ref hA1 (by omega) (Nat.le_of_ble_eq_true rfl) (c_Ma_min hC.1 _ _) ?_
    rintro r H2 ⟨rfl, rfl⟩ ho2 - -
    rw [if_neg (nI_nlt (by omega) (by omega))]
    have ec : (nI m).toNatClampNeg = m := nI_clamp (by omega)
    refine zw_copy dAr_copyOf_2_35 (by omega) zcp_Ar_150 zcp_nat zcp_stat zcp_init hA1 hB (zFr_new (by assumption)) (by decide) (by decide) (nI_pos (by omega)) (by rw [ec, sb_cl0]; omega) (by rw [ec, sb_cl0]; omega) (fun i hi => ?_) (Nat.le_of_ble_eq_true rfl) (fun H3 hB3 hu => ?_)
    · refine Or.inr ⟨rfl, ?_⟩
      by_cases q : (0 : Int32).toNatClampNeg + i < xs.length
      · exact Or.inr ⟨_, ci, N, C, T, zAf_at q, (hx _ (getD_mem q)).ex hN.mo, hE1, hE2⟩
      · exact Or.inl (zAf_no (by omega))
    · refine sAr_copyOf_2_38 zRf_ref ⟨_, rfl, zRf_ref, rfl, hB3.to (fun j hj => ?_), hN.mo.up hu (Or.inr (Nat.le_refl _)), hN.us.tr hu.us (c2 := 0) (s2 := 0) (by omega) (by omega)⟩
      rw [ec, sb_cl0]
      by_cases q : j < m
      · rw [pk_cpy_in (Nat.zero_le _) (by omega), Nat.zero_add, Nat.sub_zero]
      · rw [pk_cpy_out (Or.inr (by omega))]
        exact (zAf_no (by omega)).symm
  refine sAr_copyOf_1_0 zRf_ref ?_
  refine zw_getCO dAr_copyOf_1_3 (by omega) zgc_Ar_86 zgc_1 zgc_2 zgc_3 zgc_4 hmi hA he (Nat.le_of_ble_eq_true rfl) ?_
  refine sAr_copyOf_1_6 zRf_ref zRf_ref (by omega) (Nat.le_of_ble_eq_true rfl) inner ?_
  intro r H1 hr hP _ _ _
  exact sAr_copyOf_1_9 hr ⟨_, rfl, hr, hP⟩
/-- grow(): a larger array -/
theorem c_Al_grow (hC : zCu G) (hd : 4 ≤ d) (h : zAL G H a e m ci xs) (hE : zEl ci) (hm : xs.length = m) (hm2 : m ≤ 400) (hx : ∀ x ∈ xs, x ≠ a) (hR : zRm G H 1 (10 + 2 * m)) :
    zC G d M_Al_grow_0 [.ref a] H (zPr fun r H1 => r = .ref H.size ∧ ∃ m', zAL G H1 a H.size m' ci xs ∧ m < m' ∧ m' ≤ 10 + 2 * m ∧ zMo [a] H H1 ∧ zUs (m' - m) (4 * (m' - m)) H H1) := by
  obtain ⟨h1, h2, ⟨mc, h3⟩, h4, h5, h6, h7, h8⟩ := h
  have hlt := h3.lt
  refine zC_in [some (.ref a)] pn_Al_grow_0 hC.1.1 rfl (Nat.le_of_ble_eq_true rfl) rfl (fun ho2 => ?_)
  have fin : ∀ (H1 H2 : Heap) (m' : Nat), zMo [] H H1 → zUs 1 m' H H1 → zArr G H1 H.size (.object "java/lang/Object") m' (zAf xs) → m < m' → 10 ≤ m' → m' ≤ 10 + 2 * m → m' ≤ 4 * (m' - m) → zObj G H2 a 5 [.ref H.size, .int (nI xs.length), .int mc] → zUp a H1 H2 → ∃ m', zAL G H2 a H.size m' ci xs ∧ m < m' ∧ m' ≤ 10 + 2 * m ∧ zMo [a] H H2 ∧ zUs (m' - m) (4 * (m' - m)) H H2 := by
    intro H1 H2 m' mo1 us1 hA1 hlt1 h10 hle hpot ho3 up
    have m2 : zMo [a] H H2 := (mo1.mono (fun q z => by cases z)).up up (Or.inl (List.mem_singleton.mpr rfl))
    refine ⟨m', ⟨by omega, h2, ⟨mc, ho3⟩, hA1.mo up.mo (fun z => by have := List.mem_singleton.mp z; omega), Or.inr ⟨h10, zFr_new ho2⟩, fun x z => (h6 x z).mo m2 (fun w => hx x z (List.mem_singleton.mp w)), by omega, by omega⟩, hlt1, hle, m2, ?_⟩
    exact us1.tr up.us (c2 := 0) (s2 := 0) (by omega) (by omega)
  have inner : zC G (d - 1) M_Al_grow_1 [.ref a, .int (nI (xs.length + 1))] H (zPr fun r H1 => r = .ref H.size ∧ ∃ m', zAL G H1 a H.size m' ci xs ∧ m < m' ∧ m' ≤ 10 + 2 * m ∧ zMo [a] H H1 ∧ zUs (m' - m) (4 * (m' - m)) H H1) := by
    refine zC_in [some (.ref a), some (.int (nI (xs.length + 1))), none, none] pn_Al_grow_1 hC.1.1 rfl (Nat.le_of_ble_eq_true rfl) rfl (fun ho3 => ?_)
    refine sAl_grow_1_0 (h3.fd rfl) h4 (fun z => ?_) (fun z => ?_)
    · have hm0 : 0 < m := (nI_ltI (a := 0) (by decide) (by omega)).mp z
      have hb : 10 ≤ m ∧ zFr G e := by
        rcases h5 with q | q
        · omega
        · exact q
      refine sAl_grow_1_20 (by omega) (Nat.le_of_ble_eq_true rfl) (P := fun r H1 => r = nI (m + max 1 (m / 2)) ∧ H1 = H) ?_ ?_
      · rw [pk_sub (by omega), pk_shrN (by omega) _ 1 (by decide), hm]
        have := c_AS_newLength (H := H) hC.1 (d := d - 1 - 1) (by omega) (o := m) (g := 1) (p := m / 2) (by omega) (by omega) (by omega) (by omega)
        rw [show m + 1 - m = 1 by omega]
        exact this
      · rintro r H1 ⟨rfl, rfl⟩ - - -
        have e1 : max 1 (m / 2) = m / 2 := by omega
        rw [e1]
        refine sAl_grow_1_30 zRf_ref (h3.fd rfl) (by omega) (Nat.le_of_ble_eq_true rfl) (c_Ar_copyOf_1 hC (by omega) h4 hb.2 (by omega) (by omega) h6 hE h7 (hR.le 1 _ (by omega) (by omega))) ?_
        rintro r H2 - ⟨rfl, hA2, mo2, us2⟩ - - -
        refine sAl_grow_1_40 zRf_ref (h3.ex mo2) h2 (fun H3 h3' u3 => ?_)
        exact sAl_grow_1_44 zRf_ref ⟨_, rfl, zRf_ref, rfl, fin H2 H3 _ mo2 us2 hA2 (by omega) (by omega) (by omega) (by omega) h3' u3⟩
    · have hm0 : m = 0 := by
        rcases Nat.eq_zero_or_pos m with q | q
        · exact q
        · exact absurd (show nI 0 < nI m from nI_lt q (by omega)) z
      subst hm0
      have hb : zDv G e := by
        rcases h5 with q | q
        · exact q.2
        · omega
      refine sAl_grow_1_10 zRf_ref zRf_ref (h3.fd rfl) hb ?_
      refine zw_acmp_eq (rx := some e) (ry := some e) 45 dAl_grow_1_17 (by decide) (fun _ => ?_) (fun z => absurd rfl z)
      refine sAl_grow_1_45 zRf_ref (by omega) (Nat.le_of_ble_eq_true rfl) (c_Ma_max hC.1 _ _) ?_
      rintro r H1 ⟨rfl, rfl⟩ - - -
      rw [hm, if_neg (show ¬ (10 : Int32) < nI (0 + 1) by decide)]
      refine zw_anew (N := 10) dAl_grow_1_52 zcx_Al_7 zao_O (by decide) (by decide) (by decide) hR.1 (by have := hR.2; omega) (fun H2 hB hN => ?_)
      refine sAl_grow_1_55 zRf_ref (h3.ex hN.mo) h2 (fun H3 h3' u3 => ?_)
      refine sAl_grow_1_59 zRf_ref ⟨_, rfl, zRf_ref, rfl, fin H2 H3 10 hN.mo hN.us (hB.to (fun j hj => (zAf_no (by omega)).symm)) (by omega) (by omega) (by omega) (by omega) h3' u3⟩
  refine sAl_grow_0_0 (h3.fd rfl) (by omega) (Nat.le_of_ble_eq_true rfl) h3.is (by rw [nI_1]; exact inner) ?_
  intro r H1 hr hP _ _ _
  exact sAl_grow_0_10 hr ⟨_, rfl, hr, hP⟩
/-- add(b) -/
theorem c_Al_add (hC : zCu G) (hd : 6 ≤ d) (h : zAL G H a e m ci xs) (hE : zEl ci) (hb : zIs G H b ci) (hm2 : xs.length ≤ 300) (hx : ∀ x ∈ xs, x ≠ a ∧ x ≠ e) (hba : b ≠ a) (hbe : b ≠ e) (hR : zRm G H 1 (10 + 2 * xs.length)) :
    zC G d M_Al_add_0 [.ref a, .ref b] H (zPi fun _ H1 => ∃ e' m', zAL G H1 a e' m' ci (xs ++ [b]) ∧ (e' = e ∨ H.size ≤ e') ∧ m ≤ m' ∧ (m' = m ∨ m' ≤ 10 + 2 * xs.length) ∧ zMo [a, e] H H1 ∧ zUs (m' - m) (4 * (m' - m)) H H1) := by
  obtain ⟨h1, h2, ⟨mc, h3⟩, h4, h5, h6, h7, h8⟩ := h
  have hlt := h3.lt
  have hblt := hb.lt
  refine zC_in [some (.ref a), some (.ref b)] pn_Al_add_0 hC.1.1 rfl (Nat.le_of_ble_eq_true rfl) rfl (fun ho2 => ?_)
  refine sAl_add_0_0 (h3.fd rfl) h3 h2 (fun H1 h3' u1 => ?_)
  have ne : e ∉ [a] := fun z => h1 (List.mem_singleton.mp z).symm
  have hb1 := hb.mo u1.mo (fun z => hba (List.mem_singleton.mp z))
  have hAL1 : zAL G H1 a e m ci xs := ⟨h1, h2, ⟨_, h3'⟩, h4.mo u1.mo ne, h5, fun x z => (h6 x z).mo u1.mo (fun w => (hx x z).1 (List.mem_singleton.mp w)), h7, h8⟩
  have e1 : H1.size = H.size := u1.1
  obtain ⟨C, T, N, hE1, hE2⟩ := id hE
  /- the store, and the size -/
  have fin : ∀ (H2 : Heap) (e' m' : Nat), zAL G H2 a e' m' ci xs → xs.length < m' → zIs G H2 b ci → zMo [a] H H2 → zUs (m' - m) (4 * (m' - m)) H H2 → (e' = e ∨ H.size ≤ e') → m ≤ m' → (m' = m ∨ m' ≤ 10 + 2 * xs.length) → (∀ x ∈ xs, x ≠ e') → b ≠ e' → ∀ o, zW G (d - 1) M_Al_add_1 14 [some (.ref a), some (.ref b), o, some (.int (nI xs.length))] (.ref b :: .int (nI xs.length) :: .ref e' :: []) H2 (zPv fun H3 => ∃ e' m', zAL G H3 a e' m' ci (xs ++ [b]) ∧ (e' = e ∨ H.size ≤ e') ∧ m ≤ m' ∧ (m' = m ∨ m' ≤ 10 + 2 * xs.length) ∧ zMo [a, e] H H3 ∧ zUs (m' - m) (4 * (m' - m)) H H3) := by
    intro H2 e' m' hA2 hlm hb2 mo2 us2 k1 k2 k3 k4 k5 o
    obtain ⟨g1, g2, ⟨mc2, g3⟩, g4, g5, g6, g7, g8⟩ := hA2
    have he' : zFr G e' := by
      rcases g5 with q | q
      · omega
      · exact q.2
    refine zw_aast dAl_add_1_14 g4 (vp_in_nI (by omega) (by omega)) he' hb2 hE1 hE2 (fun H3 h3A u3 => ?_)
    have na : a ∉ [e'] := fun z => g1 (List.mem_singleton.mp z)
    refine sAl_add_1_15 (g3.mo u3.mo na) h2 (fun H4 h4O u4 => ?_)
    have ne' : e' ∉ [a] := fun z => g1 (List.mem_singleton.mp z).symm
    have el : (xs ++ [b]).length = xs.length + 1 := by simp
    rw [nI_1] at h4O
    refine sAl_add_1_22 ⟨rfl, e', m', ⟨g1, g2, ⟨mc2, by rw [el]; exact h4O⟩, (h3A.mo u4.mo ne').to (fun j hj => ?_), g5, fun x hx2 => ?_, by omega, g8⟩, k1, k2, k3, ?_, (us2.tr u3.us (c := m' - m) (s := 4 * (m' - m)) (c2 := 0) (s2 := 0) (by omega) (by omega)).tr u4.us (c2 := 0) (s2 := 0) (by omega) (by omega)⟩
    · rw [nI_clamp (by omega)]
      unfold updV zAf
      by_cases q : j = xs.length
      · rw [if_pos q, q, List.getElem?_append_right (Nat.le_refl _), Nat.sub_self]; rfl
      · rw [if_neg q]
        by_cases q2 : j < xs.length
        · rw [List.getElem?_append_left q2]
        · rw [List.getElem?_eq_none (by omega), List.getElem?_eq_none (by omega)]
    · have hz : ∀ y, zIs G H2 y ci → y ≠ e' → y ≠ a → zIs G H4 y ci := fun y p1 p2 p3 => (p1.mo u3.mo (fun z => p2 (List.mem_singleton.mp z))).mo u4.mo (fun z => p3 (List.mem_singleton.mp z))
      rcases List.mem_append.mp hx2 with q | q
      · exact hz x (g6 x q) (k4 x q) (hx x q).1
      · rw [List.mem_singleton.mp q]
        exact hz b hb2 k5 hba
    · refine ((mo2.mono (S := [a, e]) (fun q z => Or.inl (by rw [List.mem_singleton.mp z]; exact List.mem_cons_self))).up u3 ?_).up u4 (Or.inl List.mem_cons_self)
      rcases k1 with rfl | k1
      · exact Or.inl (List.mem_cons_of_mem _ (List.mem_singleton.mpr rfl))
      · exact Or.inr k1
  have inner : zC G (d - 1) M_Al_add_1 [.ref a, .ref b, .ref e, .int (nI xs.length)] H1 (zPv fun H3 => ∃ e' m', zAL G H3 a e' m' ci (xs ++ [b]) ∧ (e' = e ∨ H.size ≤ e') ∧ m ≤ m' ∧ (m' = m ∨ m' ≤ 10 + 2 * xs.length) ∧ zMo [a, e] H H3 ∧ zUs (m' - m) (4 * (m' - m)) H H3) := by
    refine zC_in [some (.ref a), some (.ref b), some (.ref e), some (.int (nI xs.length))] pn_Al_add_1 hC.1.1 rfl (Nat.le_of_ble_eq_true rfl) rfl (fun ho3 => ?_)
    refine sAl_add_1_0 (h4.mo u1.mo ne) (fun z => ?_) (fun z => ?_)
    · refine sAl_add_1_11 zRf_ref zRf_ref ?_
      refine fin H1 e m hAL1 ?_ hb1 u1.mo u1.us (Or.inl rfl) (Nat.le_refl _) (Or.inl rfl) (fun x z => (hx x z).2) hbe _
      rcases Nat.lt_or_ge xs.length m with q | q
      · exact q
      · exact absurd (by rw [show xs.length = m by omega]) z
    · have hm : xs.length = m := (nI_eq (by omega) (by omega)).mp z
      refine sAl_add_1_6 (by omega) (Nat.le_of_ble_eq_true rfl) hAL1.is (c_Al_grow hC (by omega) hAL1 hE hm (by omega) (fun x z => (hx x z).1) (hR.us (c1 := 0) (s1 := 0) u1.us 1 _ (by omega) (by omega))) ?_
      rintro r H2 - ⟨rfl, m', g1, g2, g3, g4, g5⟩ ho4 - -
      refine sAl_add_1_10 zRf_ref zRf_ref ?_
      refine fin H2 H1.size m' g1 (by omega) (hb1.mo g4 (fun z => hba (List.mem_singleton.mp z))) (u1.mo.tr g4 (fun q z => Or.inl z) (fun q z => Or.inl z)) (u1.us.tr g5 (c1 := 0) (s1 := 0) (by omega) (by omega)) (Or.inr (by omega)) (by omega) (Or.inr (by omega)) (fun x z => ?_) (by omega) _
      have := (h6 x z).lt
      omega
  refine sAl_add_0_10 zRf_ref zRf_ref (h3'.fd rfl) (h3'.fd rfl) (by omega) (Nat.le_of_ble_eq_true rfl) h3'.is inner ?_
  intro H2 hP _ _ _
  exact sAl_add_0_23 rfl ⟨_, rfl, hP⟩
/-- remove(i) -/
theorem c_Al_remove (hC : zCu G) (hd : 2 ≤ d) (h : zAL G H a e m ci xs) (hE : zEl ci) {i : Nat} (hi : i < xs.length) (hx : ∀ x ∈ xs, x ≠ a ∧ x ≠ e) :
    zC G d M_Al_remove [.ref a, .int (nI i)] H (zPr fun _ H1 => zAL G H1 a e m ci (xs.eraseIdx i) ∧ zMo [a, e] H H1 ∧ zUs 0 0 H H1) := by
  obtain ⟨h1, h2, ⟨mc, h3⟩, h4, h5, h6, h7, h8⟩ := h
  have he : zFr G e := by
    rcases h5 with q | q
    · omega
    · exact q.2
  obtain ⟨C, T, N, hE1, hE2⟩ := id hE
  have hlen : (xs.eraseIdx i).length = xs.length - 1 := List.length_eraseIdx_of_lt hi
  refine zC_in [some (.ref a), some (.int (nI i)), none, none] pn_Al_remove hC.1.1 rfl (Nat.le_of_ble_eq_true rfl) rfl (fun ho2 => ?_)
  refine sAl_remove_0 (h3.fd rfl) (by omega) (Nat.le_of_ble_eq_true rfl) (c_Ob_checkIndex hC.1 (by omega) hi (by omega)) ?_
  rintro r H1 ⟨rfl, rfl⟩ - - -
  have inner : zC G (d - 1) M_Al_fastRemove [.ref a, .ref e, .int (nI i)] H1 (zPv fun H2 => zAL G H2 a e m ci (xs.eraseIdx i) ∧ zMo [a, e] H1 H2 ∧ zUs 0 0 H1 H2) := by
    refine zC_in [some (.ref a), some (.ref e), some (.int (nI i)), none] pn_Al_fastRemove hC.1.1 rfl (Nat.le_of_ble_eq_true rfl) rfl (fun ho3 => ?_)
    refine sAl_fastRemove_0 (h3.fd rfl) h3 h2 (fun H2 h3' u2 => ?_)
    have ne : e ∉ [a] := fun z => h1 (List.mem_singleton.mp z).symm
    have na : a ∉ [e] := fun z => h1 (List.mem_singleton.mp z)
    have h4' := h4.mo u2.mo ne
    have e1 : nI xs.length - 1 = nI (xs.length - 1) := pk_sub (b := 1) (by omega)
    have ia : a ∈ [a, e] := List.mem_cons_self
    have ie : e ∈ [a, e] := List.mem_cons_of_mem _ (List.mem_singleton.mpr rfl)
    have fin : ∀ (H3 : Heap) (f : Nat → Value), zObj G H3 a 5 [.ref e, .int (nI xs.length), .int (mc + 1)] → zArr G H3 e (.object "java/lang/Object") m f → zMo [a, e] H1 H3 → zUs 0 0 H1 H3 → (∀ j, j < m → j ≠ xs.length - 1 → f j = zAf (xs.eraseIdx i) j) → zW G (d - 1) M_Al_fastRemove 34 [some (.ref a), some (.ref e), some (.int (nI i)), some (.int (nI (xs.length - 1)))] [] H3 (zPv fun H2 => zAL G H2 a e m ci (xs.eraseIdx i) ∧ zMo [a, e] H1 H2 ∧ zUs 0 0 H1 H2) := by
      intro H3 f k1 k2 k3 k4 k5
      refine sAl_fastRemove_34 zRf_ref k1 h2 (fun H4 h4O u4 => ?_)
      refine sAl_fastRemove_41 ?_
      refine zw_aastN dAl_fastRemove_42 (k2.mo u4.mo ne) (vp_in_nI (by omega) (by omega)) he (fun H5 h5A u5 => ?_)
      have mo5 : zMo [a, e] H1 H5 := (k3.up u4 (Or.inl ia)).up u5 (Or.inl ie)
      refine sAl_fastRemove_43 ⟨rfl, ⟨h1, h2, ⟨mc + 1, by rw [hlen]; exact h4O.mo u5.mo na⟩, h5A.to (fun j hj => ?_), h5, fun x hx2 => ?_, by omega, h8⟩, mo5, (k4.tr u4.us (c := 0) (s := 0) (c2 := 0) (s2 := 0) (by omega) (by omega)).tr u5.us (c2 := 0) (s2 := 0) (by omega) (by omega)⟩
      · rw [nI_clamp (by omega)]
        unfold updV
        by_cases q : j = xs.length - 1
        · rw [if_pos q]
          exact (zAf_no (by omega)).symm
        · rw [if_neg q]
          exact k5 j hj q
      · have hx3 := List.mem_of_mem_eraseIdx hx2
        exact (h6 x hx3).mo mo5 (fun z => by
          rcases List.mem_cons.mp z with q | q
          · exact (hx x hx3).1 q
          · exact (hx x hx3).2 (List.mem_singleton.mp q))
    refine sAl_fastRemove_10 (h3'.fd rfl) (fun z => ?_) (fun z => ?_)
    · rw [e1] at z ⊢
      have hi2 : i = xs.length - 1 := by
        have := (nI_leI (by omega) (by omega)).mp z
        omega
      refine fin H2 _ h3' h4' (u2.mo.mono (fun q w => Or.inl (by rw [List.mem_singleton.mp w]; exact ia))) u2.us (fun j hj hne => ?_)
      unfold zAf
      rw [List.getElem?_eraseIdx]
      by_cases q : j < i
      · rw [if_pos q]
      · rw [if_neg q, List.getElem?_eq_none (by omega), List.getElem?_eq_none (by omega)]
    · rw [e1] at z ⊢
      have hi2 : i < xs.length - 1 := by
        rcases Nat.lt_or_ge i (xs.length - 1) with q | q
        · exact q
        · exact absurd (nI_le q (by omega)) z
      refine sAl_fastRemove_22 zRf_ref ?_
      rw [pk_sub (by omega), nI_1]
      have c1 : (nI (xs.length - 1 - i)).toNatClampNeg = xs.length - 1 - i := nI_clamp (by omega)
      have c2 : (nI (i + 1)).toNatClampNeg = i + 1 := nI_clamp (by omega)
      have c3 : (nI i).toNatClampNeg = i := nI_clamp (by omega)
      refine zw_copy dAl_fastRemove_31 (by omega) zcp_Al_112 zcp_nat zcp_stat zcp_init h4' h4' he (nI_pos (by omega)) (nI_pos (by omega)) (nI_pos (by omega)) (by rw [c1, c2]; omega) (by rw [c1, c3]; omega) (fun j hj => ?_) (Nat.le_of_ble_eq_true rfl) (fun H3 hB3 u3 => ?_)
      · refine Or.inr ⟨rfl, Or.inr ⟨_, ci, N, C, T, zAf_at (by rw [c1] at hj; rw [c2]; omega), ?_, hE1, hE2⟩⟩
        have hmem : xs.getD ((nI (i + 1)).toNatClampNeg + j) 0 ∈ xs := getD_mem (by rw [c1] at hj; rw [c2]; omega)
        exact (h6 _ hmem).mo u2.mo (fun z => (hx _ hmem).1 (List.mem_singleton.mp z))
      · refine fin H3 _ (h3'.mo u3.mo na) hB3 ((u2.mo.mono (fun q w => Or.inl (by rw [List.mem_singleton.mp w]; exact ia))).up u3 (Or.inl ie)) (u2.us.tr u3.us (c1 := 0) (s1 := 0) (c2 := 0) (s2 := 0) (by omega) (by omega)) (fun j hj hne => ?_)
        rw [c1, c2, c3]
        by_cases q : j < i
        · rw [pk_cpy_out (Or.inl q)]
          unfold zAf
          rw [List.getElem?_eraseIdx, if_pos q]
        · by_cases q2 : j < xs.length - 1
          · rw [pk_cpy_in (by omega) (by omega)]
            unfold zAf
            rw [List.getElem?_eraseIdx, if_neg q, show i + 1 + (j - i) = j + 1 by omega]
          · rw [pk_cpy_out (Or.inr (by omega)), zAf_no (by omega), zAf_no (by omega)]
  refine sAl_remove_8 rfl (zAf_rf xs i) (h3.fd rfl) rfl h4 (vp_in_nI (by omega) (by omega)) (by rw [nI_clamp (by omega)]) (by omega) (Nat.le_of_ble_eq_true rfl) h3.is inner ?_
  intro H2 hP _ _ _
  exact sAl_remove_24 (zAf_rf xs i) ⟨_, rfl, zAf_rf xs i, hP⟩
end JL
end
