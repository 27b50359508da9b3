-- ===== PART A: goes FIRST, ahead of the names: the tables' words, and 'selects' of the private methods out of them =====
/-- a private method of a class that the tables say can be made, by its rows of tables_1 -/
def lw_okq (q : MethodName × Nat) : Prop := (q.1.cls ≠ "java/lang/invoke/MethodHandle" ∧ q.1.cls ≠ "java/lang/invoke/VarHandle") ∧ Cond.instantiable q.1.cls q.2 ∈ tables_1 ∧ Cond.privateMethod q.1 ∈ tables_1 ∧ Cond.instanceMethod q.1 ∈ tables_1
theorem lw_p0 : lw_okq (⟨"WeighedInBooks", "refuse", "(I)I"⟩, 12) := ⟨⟨by decide +kernel, by decide +kernel⟩, List.mem_of_getElem? (i := 15) (by decide +kernel), List.mem_of_getElem? (i := 263) (by decide +kernel), List.mem_of_getElem? (i := 264) (by decide +kernel)⟩
theorem lw_p1 : lw_okq (⟨"WeighedInBooks", "areTwo", "(II)Z"⟩, 12) := ⟨⟨by decide +kernel, by decide +kernel⟩, List.mem_of_getElem? (i := 15) (by decide +kernel), List.mem_of_getElem? (i := 534) (by decide +kernel), List.mem_of_getElem? (i := 535) (by decide +kernel)⟩
theorem lw_p2 : lw_okq (⟨"WeighedInBooks", "isNeither", "(I)Z"⟩, 12) := ⟨⟨by decide +kernel, by decide +kernel⟩, List.mem_of_getElem? (i := 15) (by decide +kernel), List.mem_of_getElem? (i := 565) (by decide +kernel), List.mem_of_getElem? (i := 566) (by decide +kernel)⟩
theorem lw_p3 : lw_okq (⟨"WeighedInBooks", "orderPan", "(II)I"⟩, 12) := ⟨⟨by decide +kernel, by decide +kernel⟩, List.mem_of_getElem? (i := 15) (by decide +kernel), List.mem_of_getElem? (i := 628) (by decide +kernel), List.mem_of_getElem? (i := 629) (by decide +kernel)⟩
theorem lw_p4 : lw_okq (⟨"WeighedInBooks", "isHeavier", "(IIII)Z"⟩, 12) := ⟨⟨by decide +kernel, by decide +kernel⟩, List.mem_of_getElem? (i := 15) (by decide +kernel), List.mem_of_getElem? (i := 633) (by decide +kernel), List.mem_of_getElem? (i := 634) (by decide +kernel)⟩
theorem lw_p5 : lw_okq (⟨"WeighedInBooksModel", "no", "(I)I"⟩, 44) := ⟨⟨by decide +kernel, by decide +kernel⟩, List.mem_of_getElem? (i := 872) (by decide +kernel), List.mem_of_getElem? (i := 1018) (by decide +kernel), List.mem_of_getElem? (i := 1019) (by decide +kernel)⟩
theorem lw_p6 : lw_okq (⟨"WeighedInBooksModel", "statement", "()Z"⟩, 44) := ⟨⟨by decide +kernel, by decide +kernel⟩, List.mem_of_getElem? (i := 872) (by decide +kernel), List.mem_of_getElem? (i := 1026) (by decide +kernel), List.mem_of_getElem? (i := 1027) (by decide +kernel)⟩
theorem lw_p7 : lw_okq (⟨"WeighedInBooksModel", "sign", "()I"⟩, 44) := ⟨⟨by decide +kernel, by decide +kernel⟩, List.mem_of_getElem? (i := 872) (by decide +kernel), List.mem_of_getElem? (i := 1030) (by decide +kernel), List.mem_of_getElem? (i := 1031) (by decide +kernel)⟩
theorem lw_p8 : lw_okq (⟨"WeighedInBooksModel", "readsAll", "(I)Z"⟩, 44) := ⟨⟨by decide +kernel, by decide +kernel⟩, List.mem_of_getElem? (i := 872) (by decide +kernel), List.mem_of_getElem? (i := 1034) (by decide +kernel), List.mem_of_getElem? (i := 1035) (by decide +kernel)⟩
theorem lw_p9 : lw_okq (⟨"WeighedInBooksModel", "readsDigits", "(I)Z"⟩, 44) := ⟨⟨by decide +kernel, by decide +kernel⟩, List.mem_of_getElem? (i := 872) (by decide +kernel), List.mem_of_getElem? (i := 1038) (by decide +kernel), List.mem_of_getElem? (i := 1039) (by decide +kernel)⟩
theorem lw_p10 : lw_okq (⟨"WeighedInBooksModel", "number", "(I)I"⟩, 44) := ⟨⟨by decide +kernel, by decide +kernel⟩, List.mem_of_getElem? (i := 872) (by decide +kernel), List.mem_of_getElem? (i := 1042) (by decide +kernel), List.mem_of_getElem? (i := 1043) (by decide +kernel)⟩
theorem lw_p11 : lw_okq (⟨"WeighedInBooksModel", "readsTitle", "()Z"⟩, 44) := ⟨⟨by decide +kernel, by decide +kernel⟩, List.mem_of_getElem? (i := 872) (by decide +kernel), List.mem_of_getElem? (i := 1049) (by decide +kernel), List.mem_of_getElem? (i := 1050) (by decide +kernel)⟩
theorem lw_p12 : lw_okq (⟨"WeighedInBooksModel", "readsSteps", "()Z"⟩, 44) := ⟨⟨by decide +kernel, by decide +kernel⟩, List.mem_of_getElem? (i := 872) (by decide +kernel), List.mem_of_getElem? (i := 1053) (by decide +kernel), List.mem_of_getElem? (i := 1054) (by decide +kernel)⟩
theorem lw_p13 : lw_okq (⟨"WeighedInBooksModel", "passesAll", "(IZ)V"⟩, 44) := ⟨⟨by decide +kernel, by decide +kernel⟩, List.mem_of_getElem? (i := 872) (by decide +kernel), List.mem_of_getElem? (i := 1060) (by decide +kernel), List.mem_of_getElem? (i := 1061) (by decide +kernel)⟩
theorem lw_p14 : lw_okq (⟨"WeighedInBooksModel", "passes", "([I)V"⟩, 44) := ⟨⟨by decide +kernel, by decide +kernel⟩, List.mem_of_getElem? (i := 872) (by decide +kernel), List.mem_of_getElem? (i := 1064) (by decide +kernel), List.mem_of_getElem? (i := 1065) (by decide +kernel)⟩
theorem lw_p15 : lw_okq (⟨"WeighedInBooksModel", "passOne", "(I)I"⟩, 44) := ⟨⟨by decide +kernel, by decide +kernel⟩, List.mem_of_getElem? (i := 872) (by decide +kernel), List.mem_of_getElem? (i := 1068) (by decide +kernel), List.mem_of_getElem? (i := 1069) (by decide +kernel)⟩
def lw_privs_1 : List (MethodName × Nat) := [(⟨"WeighedInBooks", "refuse", "(I)I"⟩, 12), (⟨"WeighedInBooks", "areTwo", "(II)Z"⟩, 12), (⟨"WeighedInBooks", "isNeither", "(I)Z"⟩, 12), (⟨"WeighedInBooks", "orderPan", "(II)I"⟩, 12), (⟨"WeighedInBooks", "isHeavier", "(IIII)Z"⟩, 12), (⟨"WeighedInBooksModel", "no", "(I)I"⟩, 44), (⟨"WeighedInBooksModel", "statement", "()Z"⟩, 44), (⟨"WeighedInBooksModel", "sign", "()I"⟩, 44), (⟨"WeighedInBooksModel", "readsAll", "(I)Z"⟩, 44), (⟨"WeighedInBooksModel", "readsDigits", "(I)Z"⟩, 44), (⟨"WeighedInBooksModel", "number", "(I)I"⟩, 44), (⟨"WeighedInBooksModel", "readsTitle", "()Z"⟩, 44), (⟨"WeighedInBooksModel", "readsSteps", "()Z"⟩, 44), (⟨"WeighedInBooksModel", "passesAll", "(IZ)V"⟩, 44), (⟨"WeighedInBooksModel", "passes", "([I)V"⟩, 44), (⟨"WeighedInBooksModel", "passOne", "(I)I"⟩, 44)]
theorem lw_r1 : ∀ q ∈ lw_privs_1, lw_okq q := List.forall_mem_cons.mpr ⟨lw_p0, List.forall_mem_cons.mpr ⟨lw_p1, List.forall_mem_cons.mpr ⟨lw_p2, List.forall_mem_cons.mpr ⟨lw_p3, List.forall_mem_cons.mpr ⟨lw_p4, List.forall_mem_cons.mpr ⟨lw_p5, List.forall_mem_cons.mpr ⟨lw_p6, List.forall_mem_cons.mpr ⟨lw_p7, List.forall_mem_cons.mpr ⟨lw_p8, List.forall_mem_cons.mpr ⟨lw_p9, List.forall_mem_cons.mpr ⟨lw_p10, List.forall_mem_cons.mpr ⟨lw_p11, List.forall_mem_cons.mpr ⟨lw_p12, List.forall_mem_cons.mpr ⟨lw_p13, List.forall_mem_cons.mpr ⟨lw_p14, List.forall_mem_cons.mpr ⟨lw_p15, fun _ h => absurd h List.not_mem_nil⟩⟩⟩⟩⟩⟩⟩⟩⟩⟩⟩⟩⟩⟩⟩⟩
theorem lw_p16 : lw_okq (⟨"WeighedInBooksModel", "comesTold", "(I)Z"⟩, 44) := ⟨⟨by decide +kernel, by decide +kernel⟩, List.mem_of_getElem? (i := 872) (by decide +kernel), List.mem_of_getElem? (i := 1072) (by decide +kernel), List.mem_of_getElem? (i := 1073) (by decide +kernel)⟩
theorem lw_p17 : lw_okq (⟨"WeighedInBooksModel", "comesPerson", "(I)Z"⟩, 44) := ⟨⟨by decide +kernel, by decide +kernel⟩, List.mem_of_getElem? (i := 872) (by decide +kernel), List.mem_of_getElem? (i := 1076) (by decide +kernel), List.mem_of_getElem? (i := 1077) (by decide +kernel)⟩
theorem lw_p18 : lw_okq (⟨"WeighedInBooksModel", "isMore", "(III)V"⟩, 44) := ⟨⟨by decide +kernel, by decide +kernel⟩, List.mem_of_getElem? (i := 872) (by decide +kernel), List.mem_of_getElem? (i := 1080) (by decide +kernel), List.mem_of_getElem? (i := 1081) (by decide +kernel)⟩
theorem lw_p19 : lw_okq (⟨"WeighedInBooksModel", "comesBook", "(II)Z"⟩, 44) := ⟨⟨by decide +kernel, by decide +kernel⟩, List.mem_of_getElem? (i := 872) (by decide +kernel), List.mem_of_getElem? (i := 1084) (by decide +kernel), List.mem_of_getElem? (i := 1085) (by decide +kernel)⟩
theorem lw_p20 : lw_okq (⟨"WeighedInBooksModel", "isPlace", "(I)Z"⟩, 44) := ⟨⟨by decide +kernel, by decide +kernel⟩, List.mem_of_getElem? (i := 872) (by decide +kernel), List.mem_of_getElem? (i := 1088) (by decide +kernel), List.mem_of_getElem? (i := 1089) (by decide +kernel)⟩
theorem lw_p21 : lw_okq (⟨"WeighedInBooksModel", "isPerson", "(I)Z"⟩, 44) := ⟨⟨by decide +kernel, by decide +kernel⟩, List.mem_of_getElem? (i := 872) (by decide +kernel), List.mem_of_getElem? (i := 1092) (by decide +kernel), List.mem_of_getElem? (i := 1093) (by decide +kernel)⟩
theorem lw_p22 : lw_okq (⟨"WeighedInBooksModel", "titledBy", "(I)I"⟩, 44) := ⟨⟨by decide +kernel, by decide +kernel⟩, List.mem_of_getElem? (i := 872) (by decide +kernel), List.mem_of_getElem? (i := 1096) (by decide +kernel), List.mem_of_getElem? (i := 1097) (by decide +kernel)⟩
theorem lw_p23 : lw_okq (⟨"WeighedInBooksModel", "isTitled", "(III)Z"⟩, 44) := ⟨⟨by decide +kernel, by decide +kernel⟩, List.mem_of_getElem? (i := 872) (by decide +kernel), List.mem_of_getElem? (i := 1100) (by decide +kernel), List.mem_of_getElem? (i := 1101) (by decide +kernel)⟩
theorem lw_p24 : lw_okq (⟨"WeighedInBooksModel", "isBrought", "(III)V"⟩, 44) := ⟨⟨by decide +kernel, by decide +kernel⟩, List.mem_of_getElem? (i := 872) (by decide +kernel), List.mem_of_getElem? (i := 1104) (by decide +kernel), List.mem_of_getElem? (i := 1105) (by decide +kernel)⟩
theorem lw_p25 : lw_okq (⟨"WeighedInBooksModel", "isTitledMore", "(I)V"⟩, 44) := ⟨⟨by decide +kernel, by decide +kernel⟩, List.mem_of_getElem? (i := 872) (by decide +kernel), List.mem_of_getElem? (i := 1108) (by decide +kernel), List.mem_of_getElem? (i := 1109) (by decide +kernel)⟩
theorem lw_p26 : lw_okq (⟨"WeighedInBooksModel", "comesReading", "(II)Z"⟩, 44) := ⟨⟨by decide +kernel, by decide +kernel⟩, List.mem_of_getElem? (i := 872) (by decide +kernel), List.mem_of_getElem? (i := 1112) (by decide +kernel), List.mem_of_getElem? (i := 1113) (by decide +kernel)⟩
theorem lw_p27 : lw_okq (⟨"WeighedInBooksModel", "comesHolding", "(II)Z"⟩, 44) := ⟨⟨by decide +kernel, by decide +kernel⟩, List.mem_of_getElem? (i := 872) (by decide +kernel), List.mem_of_getElem? (i := 1116) (by decide +kernel), List.mem_of_getElem? (i := 1117) (by decide +kernel)⟩
theorem lw_p28 : lw_okq (⟨"WeighedInBooksModel", "comesLaw", "(I)Z"⟩, 44) := ⟨⟨by decide +kernel, by decide +kernel⟩, List.mem_of_getElem? (i := 872) (by decide +kernel), List.mem_of_getElem? (i := 1120) (by decide +kernel), List.mem_of_getElem? (i := 1121) (by decide +kernel)⟩
theorem lw_p29 : lw_okq (⟨"WeighedInBooksModel", "comesWeeks", "(I)Z"⟩, 44) := ⟨⟨by decide +kernel, by decide +kernel⟩, List.mem_of_getElem? (i := 872) (by decide +kernel), List.mem_of_getElem? (i := 1124) (by decide +kernel), List.mem_of_getElem? (i := 1125) (by decide +kernel)⟩
theorem lw_p30 : lw_okq (⟨"WeighedInBooksModel", "goes", "(I)V"⟩, 44) := ⟨⟨by decide +kernel, by decide +kernel⟩, List.mem_of_getElem? (i := 872) (by decide +kernel), List.mem_of_getElem? (i := 1128) (by decide +kernel), List.mem_of_getElem? (i := 1129) (by decide +kernel)⟩
theorem lw_p31 : lw_okq (⟨"WeighedInBooksModel", "goesWeek", "()V"⟩, 44) := ⟨⟨by decide +kernel, by decide +kernel⟩, List.mem_of_getElem? (i := 872) (by decide +kernel), List.mem_of_getElem? (i := 1132) (by decide +kernel), List.mem_of_getElem? (i := 1133) (by decide +kernel)⟩
def lw_privs_2 : List (MethodName × Nat) := [(⟨"WeighedInBooksModel", "comesTold", "(I)Z"⟩, 44), (⟨"WeighedInBooksModel", "comesPerson", "(I)Z"⟩, 44), (⟨"WeighedInBooksModel", "isMore", "(III)V"⟩, 44), (⟨"WeighedInBooksModel", "comesBook", "(II)Z"⟩, 44), (⟨"WeighedInBooksModel", "isPlace", "(I)Z"⟩, 44), (⟨"WeighedInBooksModel", "isPerson", "(I)Z"⟩, 44), (⟨"WeighedInBooksModel", "titledBy", "(I)I"⟩, 44), (⟨"WeighedInBooksModel", "isTitled", "(III)Z"⟩, 44), (⟨"WeighedInBooksModel", "isBrought", "(III)V"⟩, 44), (⟨"WeighedInBooksModel", "isTitledMore", "(I)V"⟩, 44), (⟨"WeighedInBooksModel", "comesReading", "(II)Z"⟩, 44), (⟨"WeighedInBooksModel", "comesHolding", "(II)Z"⟩, 44), (⟨"WeighedInBooksModel", "comesLaw", "(I)Z"⟩, 44), (⟨"WeighedInBooksModel", "comesWeeks", "(I)Z"⟩, 44), (⟨"WeighedInBooksModel", "goes", "(I)V"⟩, 44), (⟨"WeighedInBooksModel", "goesWeek", "()V"⟩, 44)]
theorem lw_r2 : ∀ q ∈ lw_privs_2, lw_okq q := List.forall_mem_cons.mpr ⟨lw_p16, List.forall_mem_cons.mpr ⟨lw_p17, List.forall_mem_cons.mpr ⟨lw_p18, List.forall_mem_cons.mpr ⟨lw_p19, List.forall_mem_cons.mpr ⟨lw_p20, List.forall_mem_cons.mpr ⟨lw_p21, List.forall_mem_cons.mpr ⟨lw_p22, List.forall_mem_cons.mpr ⟨lw_p23, List.forall_mem_cons.mpr ⟨lw_p24, List.forall_mem_cons.mpr ⟨lw_p25, List.forall_mem_cons.mpr ⟨lw_p26, List.forall_mem_cons.mpr ⟨lw_p27, List.forall_mem_cons.mpr ⟨lw_p28, List.forall_mem_cons.mpr ⟨lw_p29, List.forall_mem_cons.mpr ⟨lw_p30, List.forall_mem_cons.mpr ⟨lw_p31, fun _ h => absurd h List.not_mem_nil⟩⟩⟩⟩⟩⟩⟩⟩⟩⟩⟩⟩⟩⟩⟩⟩
theorem lw_p32 : lw_okq (⟨"WeighedInBooksModel", "goesPerson", "(I)V"⟩, 44) := ⟨⟨by decide +kernel, by decide +kernel⟩, List.mem_of_getElem? (i := 872) (by decide +kernel), List.mem_of_getElem? (i := 1136) (by decide +kernel), List.mem_of_getElem? (i := 1137) (by decide +kernel)⟩
theorem lw_p33 : lw_okq (⟨"WeighedInBooksModel", "toRead", "(I)I"⟩, 44) := ⟨⟨by decide +kernel, by decide +kernel⟩, List.mem_of_getElem? (i := 872) (by decide +kernel), List.mem_of_getElem? (i := 1140) (by decide +kernel), List.mem_of_getElem? (i := 1141) (by decide +kernel)⟩
theorem lw_p34 : lw_okq (⟨"WeighedInBooksModel", "compares", "(II)I"⟩, 44) := ⟨⟨by decide +kernel, by decide +kernel⟩, List.mem_of_getElem? (i := 872) (by decide +kernel), List.mem_of_getElem? (i := 1147) (by decide +kernel), List.mem_of_getElem? (i := 1148) (by decide +kernel)⟩
theorem lw_p35 : lw_okq (⟨"WeighedInBooksModel", "manyRead", "(I)I"⟩, 44) := ⟨⟨by decide +kernel, by decide +kernel⟩, List.mem_of_getElem? (i := 872) (by decide +kernel), List.mem_of_getElem? (i := 1167) (by decide +kernel), List.mem_of_getElem? (i := 1168) (by decide +kernel)⟩
theorem lw_p36 : lw_okq (⟨"WeighedInBooksModel", "isBook", "(I)Z"⟩, 44) := ⟨⟨by decide +kernel, by decide +kernel⟩, List.mem_of_getElem? (i := 872) (by decide +kernel), List.mem_of_getElem? (i := 1178) (by decide +kernel), List.mem_of_getElem? (i := 1179) (by decide +kernel)⟩
theorem lw_p37 : lw_okq (⟨"WeighedInBooksModel", "weighs", "(I)I"⟩, 44) := ⟨⟨by decide +kernel, by decide +kernel⟩, List.mem_of_getElem? (i := 872) (by decide +kernel), List.mem_of_getElem? (i := 1182) (by decide +kernel), List.mem_of_getElem? (i := 1183) (by decide +kernel)⟩
theorem lw_p38 : lw_okq (⟨"WeighedInBooksModel", "asNovel", "(I)I"⟩, 44) := ⟨⟨by decide +kernel, by decide +kernel⟩, List.mem_of_getElem? (i := 872) (by decide +kernel), List.mem_of_getElem? (i := 1189) (by decide +kernel), List.mem_of_getElem? (i := 1190) (by decide +kernel)⟩
theorem lw_p39 : lw_okq (⟨"WeighedInBooksModel", "price", "(I)I"⟩, 44) := ⟨⟨by decide +kernel, by decide +kernel⟩, List.mem_of_getElem? (i := 872) (by decide +kernel), List.mem_of_getElem? (i := 1193) (by decide +kernel), List.mem_of_getElem? (i := 1194) (by decide +kernel)⟩
theorem lw_p40 : lw_okq (⟨"WeighedInBooksModel", "isLetterTitle", "(I)Z"⟩, 44) := ⟨⟨by decide +kernel, by decide +kernel⟩, List.mem_of_getElem? (i := 872) (by decide +kernel), List.mem_of_getElem? (i := 1209) (by decide +kernel), List.mem_of_getElem? (i := 1210) (by decide +kernel)⟩
theorem lw_p41 : lw_okq (⟨"WeighedInBooksModel", "remembers", "()V"⟩, 44) := ⟨⟨by decide +kernel, by decide +kernel⟩, List.mem_of_getElem? (i := 872) (by decide +kernel), List.mem_of_getElem? (i := 1217) (by decide +kernel), List.mem_of_getElem? (i := 1218) (by decide +kernel)⟩
theorem lw_p42 : lw_okq (⟨"WeighedInBooksModel", "areTwo", "(II)Z"⟩, 44) := ⟨⟨by decide +kernel, by decide +kernel⟩, List.mem_of_getElem? (i := 872) (by decide +kernel), List.mem_of_getElem? (i := 1249) (by decide +kernel), List.mem_of_getElem? (i := 1250) (by decide +kernel)⟩
theorem lw_p43 : lw_okq (⟨"WeighedInBooksModel", "overNow", "(II)I"⟩, 44) := ⟨⟨by decide +kernel, by decide +kernel⟩, List.mem_of_getElem? (i := 872) (by decide +kernel), List.mem_of_getElem? (i := 1253) (by decide +kernel), List.mem_of_getElem? (i := 1254) (by decide +kernel)⟩
theorem lw_p44 : lw_okq (⟨"WeighedInBooksModel", "overWith", "(III)I"⟩, 44) := ⟨⟨by decide +kernel, by decide +kernel⟩, List.mem_of_getElem? (i := 872) (by decide +kernel), List.mem_of_getElem? (i := 1257) (by decide +kernel), List.mem_of_getElem? (i := 1258) (by decide +kernel)⟩
theorem lw_p45 : lw_okq (⟨"WeighedInBooksModel", "isHeld", "(III)Z"⟩, 44) := ⟨⟨by decide +kernel, by decide +kernel⟩, List.mem_of_getElem? (i := 872) (by decide +kernel), List.mem_of_getElem? (i := 1261) (by decide +kernel), List.mem_of_getElem? (i := 1262) (by decide +kernel)⟩
theorem lw_p46 : lw_okq (⟨"WeighedInBooksModel", "comesTo", "(III)I"⟩, 44) := ⟨⟨by decide +kernel, by decide +kernel⟩, List.mem_of_getElem? (i := 872) (by decide +kernel), List.mem_of_getElem? (i := 1265) (by decide +kernel), List.mem_of_getElem? (i := 1266) (by decide +kernel)⟩
theorem lw_p47 : lw_okq (⟨"WeighedInBooksModel", "byStep", "(III)I"⟩, 44) := ⟨⟨by decide +kernel, by decide +kernel⟩, List.mem_of_getElem? (i := 872) (by decide +kernel), List.mem_of_getElem? (i := 1269) (by decide +kernel), List.mem_of_getElem? (i := 1270) (by decide +kernel)⟩
def lw_privs_3 : List (MethodName × Nat) := [(⟨"WeighedInBooksModel", "goesPerson", "(I)V"⟩, 44), (⟨"WeighedInBooksModel", "toRead", "(I)I"⟩, 44), (⟨"WeighedInBooksModel", "compares", "(II)I"⟩, 44), (⟨"WeighedInBooksModel", "manyRead", "(I)I"⟩, 44), (⟨"WeighedInBooksModel", "isBook", "(I)Z"⟩, 44), (⟨"WeighedInBooksModel", "weighs", "(I)I"⟩, 44), (⟨"WeighedInBooksModel", "asNovel", "(I)I"⟩, 44), (⟨"WeighedInBooksModel", "price", "(I)I"⟩, 44), (⟨"WeighedInBooksModel", "isLetterTitle", "(I)Z"⟩, 44), (⟨"WeighedInBooksModel", "remembers", "()V"⟩, 44), (⟨"WeighedInBooksModel", "areTwo", "(II)Z"⟩, 44), (⟨"WeighedInBooksModel", "overNow", "(II)I"⟩, 44), (⟨"WeighedInBooksModel", "overWith", "(III)I"⟩, 44), (⟨"WeighedInBooksModel", "isHeld", "(III)Z"⟩, 44), (⟨"WeighedInBooksModel", "comesTo", "(III)I"⟩, 44), (⟨"WeighedInBooksModel", "byStep", "(III)I"⟩, 44)]
theorem lw_r3 : ∀ q ∈ lw_privs_3, lw_okq q := List.forall_mem_cons.mpr ⟨lw_p32, List.forall_mem_cons.mpr ⟨lw_p33, List.forall_mem_cons.mpr ⟨lw_p34, List.forall_mem_cons.mpr ⟨lw_p35, List.forall_mem_cons.mpr ⟨lw_p36, List.forall_mem_cons.mpr ⟨lw_p37, List.forall_mem_cons.mpr ⟨lw_p38, List.forall_mem_cons.mpr ⟨lw_p39, List.forall_mem_cons.mpr ⟨lw_p40, List.forall_mem_cons.mpr ⟨lw_p41, List.forall_mem_cons.mpr ⟨lw_p42, List.forall_mem_cons.mpr ⟨lw_p43, List.forall_mem_cons.mpr ⟨lw_p44, List.forall_mem_cons.mpr ⟨lw_p45, List.forall_mem_cons.mpr ⟨lw_p46, List.forall_mem_cons.mpr ⟨lw_p47, fun _ h => absurd h List.not_mem_nil⟩⟩⟩⟩⟩⟩⟩⟩⟩⟩⟩⟩⟩⟩⟩⟩
theorem lw_p48 : lw_okq (⟨"WeighedInBooksModel", "lower", "(I)I"⟩, 44) := ⟨⟨by decide +kernel, by decide +kernel⟩, List.mem_of_getElem? (i := 872) (by decide +kernel), List.mem_of_getElem? (i := 1273) (by decide +kernel), List.mem_of_getElem? (i := 1274) (by decide +kernel)⟩
theorem lw_p49 : lw_okq (⟨"WeighedInBooksModel", "minds", "()V"⟩, 44) := ⟨⟨by decide +kernel, by decide +kernel⟩, List.mem_of_getElem? (i := 872) (by decide +kernel), List.mem_of_getElem? (i := 1286) (by decide +kernel), List.mem_of_getElem? (i := 1287) (by decide +kernel)⟩
theorem lw_p50 : lw_okq (⟨"WeighedInBooksModel", "forgets", "()V"⟩, 44) := ⟨⟨by decide +kernel, by decide +kernel⟩, List.mem_of_getElem? (i := 872) (by decide +kernel), List.mem_of_getElem? (i := 1290) (by decide +kernel), List.mem_of_getElem? (i := 1291) (by decide +kernel)⟩
theorem lw_p51 : lw_okq (⟨"WeighedInBooksModel", "whenFrom", "(II)I"⟩, 44) := ⟨⟨by decide +kernel, by decide +kernel⟩, List.mem_of_getElem? (i := 872) (by decide +kernel), List.mem_of_getElem? (i := 1302) (by decide +kernel), List.mem_of_getElem? (i := 1303) (by decide +kernel)⟩
theorem lw_p52 : lw_okq (⟨"WeighedInBooksModel", "comesDown", "(II)Z"⟩, 44) := ⟨⟨by decide +kernel, by decide +kernel⟩, List.mem_of_getElem? (i := 872) (by decide +kernel), List.mem_of_getElem? (i := 1306) (by decide +kernel), List.mem_of_getElem? (i := 1307) (by decide +kernel)⟩
theorem lw_p53 : lw_okq (⟨"WeighedInBooksModel", "marksDown", "()V"⟩, 44) := ⟨⟨by decide +kernel, by decide +kernel⟩, List.mem_of_getElem? (i := 872) (by decide +kernel), List.mem_of_getElem? (i := 1314) (by decide +kernel), List.mem_of_getElem? (i := 1315) (by decide +kernel)⟩
theorem lw_p54 : lw_okq (⟨"WeighedInBooksModel", "firstDown", "()I"⟩, 44) := ⟨⟨by decide +kernel, by decide +kernel⟩, List.mem_of_getElem? (i := 872) (by decide +kernel), List.mem_of_getElem? (i := 1318) (by decide +kernel), List.mem_of_getElem? (i := 1319) (by decide +kernel)⟩
theorem lw_p55 : lw_okq (⟨"WeighedInBooksModel", "ownedBy", "(I)I"⟩, 44) := ⟨⟨by decide +kernel, by decide +kernel⟩, List.mem_of_getElem? (i := 872) (by decide +kernel), List.mem_of_getElem? (i := 1326) (by decide +kernel), List.mem_of_getElem? (i := 1327) (by decide +kernel)⟩
theorem lw_p56 : lw_okq (⟨"WeighedInBooksModel", "isBetter", "(II)Z"⟩, 44) := ⟨⟨by decide +kernel, by decide +kernel⟩, List.mem_of_getElem? (i := 872) (by decide +kernel), List.mem_of_getElem? (i := 1330) (by decide +kernel), List.mem_of_getElem? (i := 1331) (by decide +kernel)⟩
theorem lw_p57 : lw_okq (⟨"WeighedInBooksModel", "pricesOf", "(I)I"⟩, 44) := ⟨⟨by decide +kernel, by decide +kernel⟩, List.mem_of_getElem? (i := 872) (by decide +kernel), List.mem_of_getElem? (i := 1334) (by decide +kernel), List.mem_of_getElem? (i := 1335) (by decide +kernel)⟩
theorem lw_p58 : lw_okq (⟨"WeighedInBooksModel", "findMost", "()V"⟩, 44) := ⟨⟨by decide +kernel, by decide +kernel⟩, List.mem_of_getElem? (i := 872) (by decide +kernel), List.mem_of_getElem? (i := 1350) (by decide +kernel), List.mem_of_getElem? (i := 1351) (by decide +kernel)⟩
theorem lw_p59 : lw_okq (⟨"WeighedInBooksModel", "findPartners", "()V"⟩, 44) := ⟨⟨by decide +kernel, by decide +kernel⟩, List.mem_of_getElem? (i := 872) (by decide +kernel), List.mem_of_getElem? (i := 1357) (by decide +kernel), List.mem_of_getElem? (i := 1358) (by decide +kernel)⟩
theorem lw_p60 : lw_okq (⟨"WeighedInBooksModel", "partnerFor", "(III)I"⟩, 44) := ⟨⟨by decide +kernel, by decide +kernel⟩, List.mem_of_getElem? (i := 872) (by decide +kernel), List.mem_of_getElem? (i := 1361) (by decide +kernel), List.mem_of_getElem? (i := 1362) (by decide +kernel)⟩
theorem lw_p61 : lw_okq (⟨"WeighedInBooksModel", "heavierThan", "(III)I"⟩, 44) := ⟨⟨by decide +kernel, by decide +kernel⟩, List.mem_of_getElem? (i := 872) (by decide +kernel), List.mem_of_getElem? (i := 1369) (by decide +kernel), List.mem_of_getElem? (i := 1370) (by decide +kernel)⟩
theorem lw_p62 : lw_okq (⟨"WeighedInBooksModel", "isHeavier", "(IIII)Z"⟩, 44) := ⟨⟨by decide +kernel, by decide +kernel⟩, List.mem_of_getElem? (i := 872) (by decide +kernel), List.mem_of_getElem? (i := 1373) (by decide +kernel), List.mem_of_getElem? (i := 1374) (by decide +kernel)⟩
theorem lw_p63 : lw_okq (⟨"WeighedInBooksModel", "wasSo", "(II)Z"⟩, 44) := ⟨⟨by decide +kernel, by decide +kernel⟩, List.mem_of_getElem? (i := 872) (by decide +kernel), List.mem_of_getElem? (i := 1381) (by decide +kernel), List.mem_of_getElem? (i := 1382) (by decide +kernel)⟩
def lw_privs_4 : List (MethodName × Nat) := [(⟨"WeighedInBooksModel", "lower", "(I)I"⟩, 44), (⟨"WeighedInBooksModel", "minds", "()V"⟩, 44), (⟨"WeighedInBooksModel", "forgets", "()V"⟩, 44), (⟨"WeighedInBooksModel", "whenFrom", "(II)I"⟩, 44), (⟨"WeighedInBooksModel", "comesDown", "(II)Z"⟩, 44), (⟨"WeighedInBooksModel", "marksDown", "()V"⟩, 44), (⟨"WeighedInBooksModel", "firstDown", "()I"⟩, 44), (⟨"WeighedInBooksModel", "ownedBy", "(I)I"⟩, 44), (⟨"WeighedInBooksModel", "isBetter", "(II)Z"⟩, 44), (⟨"WeighedInBooksModel", "pricesOf", "(I)I"⟩, 44), (⟨"WeighedInBooksModel", "findMost", "()V"⟩, 44), (⟨"WeighedInBooksModel", "findPartners", "()V"⟩, 44), (⟨"WeighedInBooksModel", "partnerFor", "(III)I"⟩, 44), (⟨"WeighedInBooksModel", "heavierThan", "(III)I"⟩, 44), (⟨"WeighedInBooksModel", "isHeavier", "(IIII)Z"⟩, 44), (⟨"WeighedInBooksModel", "wasSo", "(II)Z"⟩, 44)]
theorem lw_r4 : ∀ q ∈ lw_privs_4, lw_okq q := List.forall_mem_cons.mpr ⟨lw_p48, List.forall_mem_cons.mpr ⟨lw_p49, List.forall_mem_cons.mpr ⟨lw_p50, List.forall_mem_cons.mpr ⟨lw_p51, List.forall_mem_cons.mpr ⟨lw_p52, List.forall_mem_cons.mpr ⟨lw_p53, List.forall_mem_cons.mpr ⟨lw_p54, List.forall_mem_cons.mpr ⟨lw_p55, List.forall_mem_cons.mpr ⟨lw_p56, List.forall_mem_cons.mpr ⟨lw_p57, List.forall_mem_cons.mpr ⟨lw_p58, List.forall_mem_cons.mpr ⟨lw_p59, List.forall_mem_cons.mpr ⟨lw_p60, List.forall_mem_cons.mpr ⟨lw_p61, List.forall_mem_cons.mpr ⟨lw_p62, List.forall_mem_cons.mpr ⟨lw_p63, fun _ h => absurd h List.not_mem_nil⟩⟩⟩⟩⟩⟩⟩⟩⟩⟩⟩⟩⟩⟩⟩⟩
theorem lw_p64 : lw_okq (⟨"WeighedInBooksModel", "findEnds", "(III)V"⟩, 44) := ⟨⟨by decide +kernel, by decide +kernel⟩, List.mem_of_getElem? (i := 872) (by decide +kernel), List.mem_of_getElem? (i := 1389) (by decide +kernel), List.mem_of_getElem? (i := 1390) (by decide +kernel)⟩
theorem lw_p65 : lw_okq (⟨"WeighedInBooksModel", "gives", "(I)V"⟩, 44) := ⟨⟨by decide +kernel, by decide +kernel⟩, List.mem_of_getElem? (i := 872) (by decide +kernel), List.mem_of_getElem? (i := 1393) (by decide +kernel), List.mem_of_getElem? (i := 1394) (by decide +kernel)⟩
theorem lw_p66 : lw_okq (⟨"WeighedInBooksModel", "lowestOf", "(I)J"⟩, 44) := ⟨⟨by decide +kernel, by decide +kernel⟩, List.mem_of_getElem? (i := 872) (by decide +kernel), List.mem_of_getElem? (i := 1401) (by decide +kernel), List.mem_of_getElem? (i := 1402) (by decide +kernel)⟩
theorem lw_p67 : lw_okq (⟨"WeighedInBooksModel", "rankOf", "(I)I"⟩, 44) := ⟨⟨by decide +kernel, by decide +kernel⟩, List.mem_of_getElem? (i := 872) (by decide +kernel), List.mem_of_getElem? (i := 1416) (by decide +kernel), List.mem_of_getElem? (i := 1417) (by decide +kernel)⟩
theorem lw_p68 : lw_okq (⟨"WeighedInBooksModel", "ofRank", "(I)I"⟩, 44) := ⟨⟨by decide +kernel, by decide +kernel⟩, List.mem_of_getElem? (i := 872) (by decide +kernel), List.mem_of_getElem? (i := 1420) (by decide +kernel), List.mem_of_getElem? (i := 1421) (by decide +kernel)⟩
theorem lw_p69 : lw_okq (⟨"WeighedInBooksModel", "kindsOn", "(I)I"⟩, 44) := ⟨⟨by decide +kernel, by decide +kernel⟩, List.mem_of_getElem? (i := 872) (by decide +kernel), List.mem_of_getElem? (i := 1432) (by decide +kernel), List.mem_of_getElem? (i := 1433) (by decide +kernel)⟩
theorem lw_p70 : lw_okq (⟨"WeighedInBooksModel", "pricesOn", "(I)I"⟩, 44) := ⟨⟨by decide +kernel, by decide +kernel⟩, List.mem_of_getElem? (i := 872) (by decide +kernel), List.mem_of_getElem? (i := 1436) (by decide +kernel), List.mem_of_getElem? (i := 1437) (by decide +kernel)⟩
theorem lw_p71 : lw_okq (⟨"WeighedInBooksModel", "mostOn", "(I)I"⟩, 44) := ⟨⟨by decide +kernel, by decide +kernel⟩, List.mem_of_getElem? (i := 872) (by decide +kernel), List.mem_of_getElem? (i := 1440) (by decide +kernel), List.mem_of_getElem? (i := 1441) (by decide +kernel)⟩
theorem lw_p72 : lw_okq (⟨"WeighedInBooksModel", "manyOn", "(II)I"⟩, 44) := ⟨⟨by decide +kernel, by decide +kernel⟩, List.mem_of_getElem? (i := 872) (by decide +kernel), List.mem_of_getElem? (i := 1444) (by decide +kernel), List.mem_of_getElem? (i := 1445) (by decide +kernel)⟩
theorem lw_p73 : lw_okq (⟨"WeighedInBooksModel", "closest", "()I"⟩, 44) := ⟨⟨by decide +kernel, by decide +kernel⟩, List.mem_of_getElem? (i := 872) (by decide +kernel), List.mem_of_getElem? (i := 1452) (by decide +kernel), List.mem_of_getElem? (i := 1453) (by decide +kernel)⟩
theorem lw_p74 : lw_okq (⟨"WeighedInBooksModel", "poor", "()I"⟩, 44) := ⟨⟨by decide +kernel, by decide +kernel⟩, List.mem_of_getElem? (i := 872) (by decide +kernel), List.mem_of_getElem? (i := 1459) (by decide +kernel), List.mem_of_getElem? (i := 1460) (by decide +kernel)⟩
theorem lw_p75 : lw_okq (⟨"WeighedInBooksModel", "unread", "()I"⟩, 44) := ⟨⟨by decide +kernel, by decide +kernel⟩, List.mem_of_getElem? (i := 872) (by decide +kernel), List.mem_of_getElem? (i := 1463) (by decide +kernel), List.mem_of_getElem? (i := 1464) (by decide +kernel)⟩
theorem lw_p76 : lw_okq (⟨"WeighedInBooksModel", "lent", "()I"⟩, 44) := ⟨⟨by decide +kernel, by decide +kernel⟩, List.mem_of_getElem? (i := 872) (by decide +kernel), List.mem_of_getElem? (i := 1467) (by decide +kernel), List.mem_of_getElem? (i := 1468) (by decide +kernel)⟩
theorem lw_p77 : lw_okq (⟨"WeighedInBooksModel", "allRead", "()I"⟩, 44) := ⟨⟨by decide +kernel, by decide +kernel⟩, List.mem_of_getElem? (i := 872) (by decide +kernel), List.mem_of_getElem? (i := 1499) (by decide +kernel), List.mem_of_getElem? (i := 1500) (by decide +kernel)⟩
theorem lw_p78 : lw_okq (⟨"WeighedInBooksModel", "draw", "(I)I"⟩, 44) := ⟨⟨by decide +kernel, by decide +kernel⟩, List.mem_of_getElem? (i := 872) (by decide +kernel), List.mem_of_getElem? (i := 1503) (by decide +kernel), List.mem_of_getElem? (i := 1504) (by decide +kernel)⟩
theorem lw_p79 : lw_okq (⟨"WeighedInBooksModel", "manyDown", "()I"⟩, 44) := ⟨⟨by decide +kernel, by decide +kernel⟩, List.mem_of_getElem? (i := 872) (by decide +kernel), List.mem_of_getElem? (i := 1510) (by decide +kernel), List.mem_of_getElem? (i := 1511) (by decide +kernel)⟩
def lw_privs_5 : List (MethodName × Nat) := [(⟨"WeighedInBooksModel", "findEnds", "(III)V"⟩, 44), (⟨"WeighedInBooksModel", "gives", "(I)V"⟩, 44), (⟨"WeighedInBooksModel", "lowestOf", "(I)J"⟩, 44), (⟨"WeighedInBooksModel", "rankOf", "(I)I"⟩, 44), (⟨"WeighedInBooksModel", "ofRank", "(I)I"⟩, 44), (⟨"WeighedInBooksModel", "kindsOn", "(I)I"⟩, 44), (⟨"WeighedInBooksModel", "pricesOn", "(I)I"⟩, 44), (⟨"WeighedInBooksModel", "mostOn", "(I)I"⟩, 44), (⟨"WeighedInBooksModel", "manyOn", "(II)I"⟩, 44), (⟨"WeighedInBooksModel", "closest", "()I"⟩, 44), (⟨"WeighedInBooksModel", "poor", "()I"⟩, 44), (⟨"WeighedInBooksModel", "unread", "()I"⟩, 44), (⟨"WeighedInBooksModel", "lent", "()I"⟩, 44), (⟨"WeighedInBooksModel", "allRead", "()I"⟩, 44), (⟨"WeighedInBooksModel", "draw", "(I)I"⟩, 44), (⟨"WeighedInBooksModel", "manyDown", "()I"⟩, 44)]
theorem lw_r5 : ∀ q ∈ lw_privs_5, lw_okq q := List.forall_mem_cons.mpr ⟨lw_p64, List.forall_mem_cons.mpr ⟨lw_p65, List.forall_mem_cons.mpr ⟨lw_p66, List.forall_mem_cons.mpr ⟨lw_p67, List.forall_mem_cons.mpr ⟨lw_p68, List.forall_mem_cons.mpr ⟨lw_p69, List.forall_mem_cons.mpr ⟨lw_p70, List.forall_mem_cons.mpr ⟨lw_p71, List.forall_mem_cons.mpr ⟨lw_p72, List.forall_mem_cons.mpr ⟨lw_p73, List.forall_mem_cons.mpr ⟨lw_p74, List.forall_mem_cons.mpr ⟨lw_p75, List.forall_mem_cons.mpr ⟨lw_p76, List.forall_mem_cons.mpr ⟨lw_p77, List.forall_mem_cons.mpr ⟨lw_p78, List.forall_mem_cons.mpr ⟨lw_p79, fun _ h => absurd h List.not_mem_nil⟩⟩⟩⟩⟩⟩⟩⟩⟩⟩⟩⟩⟩⟩⟩⟩
theorem lw_p80 : lw_okq (⟨"WeighedInBooksModel", "allWeights", "()I"⟩, 44) := ⟨⟨by decide +kernel, by decide +kernel⟩, List.mem_of_getElem? (i := 872) (by decide +kernel), List.mem_of_getElem? (i := 1518) (by decide +kernel), List.mem_of_getElem? (i := 1519) (by decide +kernel)⟩
def lw_privs_6 : List (MethodName × Nat) := [(⟨"WeighedInBooksModel", "allWeights", "()I"⟩, 44)]
theorem lw_r6 : ∀ q ∈ lw_privs_6, lw_okq q := List.forall_mem_cons.mpr ⟨lw_p80, fun _ h => absurd h List.not_mem_nil⟩
def lw_privs : List (MethodName × Nat) := lw_privs_1 ++ (lw_privs_2 ++ (lw_privs_3 ++ (lw_privs_4 ++ (lw_privs_5 ++ (lw_privs_6)))))
def lw_tbl : List Cond := k2_sels lw_privs ++ tables_1
theorem lw_privs_ok : ∀ q ∈ lw_privs, lw_okq q := by
  show ∀ q ∈ lw_privs_1 ++ (lw_privs_2 ++ (lw_privs_3 ++ (lw_privs_4 ++ (lw_privs_5 ++ (lw_privs_6))))), lw_okq q
  exact List.forall_mem_append.mpr ⟨lw_r1, List.forall_mem_append.mpr ⟨lw_r2, List.forall_mem_append.mpr ⟨lw_r3, List.forall_mem_append.mpr ⟨lw_r4, List.forall_mem_append.mpr ⟨lw_r5, lw_r6⟩⟩⟩⟩⟩

def RX0 : String := "WeighedInBooks$Bargain"
def TX0 : u_T := fun k => match k with
  | 0 => ("WeighedInBooks$Bargain", "price", "[I", true)
  | 1 => ("WeighedInBooks$Bargain", "heavy", "[I", true)
  | 2 => ("WeighedInBooks$Bargain", "set", "I", false)
  | _ => ("WeighedInBooks$Bargain", "prices", "I", false)
def tyX0 : Nat → FieldType := fun k => match k with
  | 0 => .array .int
  | 1 => .array .int
  | 2 => .int
  | _ => .int
abbrev wsX00 : List Cond := u_ws RX0 TX0 4
theorem nmX0 : ∀ a, a < 4 → ∀ b, b < 4 → a ≠ b → (TX0 a).2.1 ≠ (TX0 b).2.1 := by decide +kernel
theorem tyX0_ok : ∀ k, k < 4 → parseFieldDescriptor (TX0 k).2.2.1 = some (tyX0 k) := by decide +kernel
abbrev cX0_init : ByteArray := prog_2_method_1_code
def yX0_init : MethodName := ⟨RX0, "<init>", "()V"⟩
abbrev cX0_seek : ByteArray := prog_2_method_2_code
def yX0_seek : MethodName := ⟨RX0, "seek", "(LWeighedInBooks$Town;II)V"⟩
abbrev cX0_offer : ByteArray := prog_2_method_3_code
def yX0_offer : MethodName := ⟨RX0, "offer", "(LWeighedInBooks$Town;II)I"⟩
abbrev cX0_sumOf : ByteArray := prog_2_method_4_code
def yX0_sumOf : MethodName := ⟨RX0, "sumOf", "([III)I"⟩
abbrev cX0_takeIfBetter : ByteArray := prog_2_method_5_code
def yX0_takeIfBetter : MethodName := ⟨RX0, "takeIfBetter", "(II)V"⟩
def RX1 : String := "WeighedInBooks$Couples"
def TX1 : u_T := fun k => match k with
  | 0 => ("WeighedInBooks$Couples", "down", "[I", true)
  | 1 => ("WeighedInBooks$Couples", "most", "[I", true)
  | 2 => ("WeighedInBooks$Couples", "partner", "[I", true)
  | _ => ("WeighedInBooks$Couples", "many", "I", false)
def tyX1 : Nat → FieldType := fun k => match k with
  | 0 => .array .int
  | 1 => .array .int
  | 2 => .array .int
  | _ => .int
abbrev wsX10 : List Cond := u_ws RX1 TX1 4
theorem nmX1 : ∀ a, a < 4 → ∀ b, b < 4 → a ≠ b → (TX1 a).2.1 ≠ (TX1 b).2.1 := by decide +kernel
theorem tyX1_ok : ∀ k, k < 4 → parseFieldDescriptor (TX1 k).2.2.1 = some (tyX1 k) := by decide +kernel
abbrev cX1_init : ByteArray := prog_3_method_1_code
def yX1_init : MethodName := ⟨RX1, "<init>", "()V"⟩
abbrev cX1_choose : ByteArray := prog_3_method_2_code
def yX1_choose : MethodName := ⟨RX1, "choose", "(LWeighedInBooks$Town;)V"⟩
abbrev cX1_weighAll : ByteArray := prog_3_method_3_code
def yX1_weighAll : MethodName := ⟨RX1, "weighAll", "(LWeighedInBooks$Town;)V"⟩
abbrev cX1_mostAmong : ByteArray := prog_3_method_4_code
def yX1_mostAmong : MethodName := ⟨RX1, "mostAmong", "(II)I"⟩
abbrev cX1_firstOf : ByteArray := prog_3_method_5_code
def yX1_firstOf : MethodName := ⟨RX1, "firstOf", "(II)I"⟩
abbrev cX1_pair : ByteArray := prog_3_method_6_code
def yX1_pair : MethodName := ⟨RX1, "pair", "(II)V"⟩
abbrev cX1_firstPartner : ByteArray := prog_3_method_7_code
def yX1_firstPartner : MethodName := ⟨RX1, "firstPartner", "(III)I"⟩
def RX2 : String := "WeighedInBooks$Foresight"
def TX2 : u_T := fun k => match k with
  | 0 => ("WeighedInBooks$Foresight", "mind", "LWeighedInBooks$Town;", true)
  | 1 => ("WeighedInBooks$Foresight", "onesGain", "[I", true)
  | 2 => ("WeighedInBooks$Foresight", "othersGain", "[I", true)
  | 3 => ("WeighedInBooks$Foresight", "loan", "I", false)
  | 4 => ("WeighedInBooks$Foresight", "loanWeeks", "I", false)
  | 5 => ("WeighedInBooks$Foresight", "springReadings", "I", false)
  | _ => ("WeighedInBooks$Foresight", "springTwos", "I", false)
def tyX2 : Nat → FieldType := fun k => match k with
  | 0 => .object "WeighedInBooks$Town"
  | 1 => .array .int
  | 2 => .array .int
  | 3 => .int
  | 4 => .int
  | 5 => .int
  | _ => .int
abbrev wsX20 : List Cond := u_ws RX2 TX2 7
theorem nmX2 : ∀ a, a < 7 → ∀ b, b < 7 → a ≠ b → (TX2 a).2.1 ≠ (TX2 b).2.1 := by decide +kernel
theorem tyX2_ok : ∀ k, k < 7 → parseFieldDescriptor (TX2 k).2.2.1 = some (tyX2 k) := by decide +kernel
abbrev cX2_init : ByteArray := prog_4_method_1_code
def yX2_init : MethodName := ⟨RX2, "<init>", "()V"⟩
abbrev cX2_think : ByteArray := prog_4_method_2_code
def yX2_think : MethodName := ⟨RX2, "think", "(LWeighedInBooks$Town;)V"⟩
abbrev cX2_after : ByteArray := prog_4_method_3_code
def yX2_after : MethodName := ⟨RX2, "after", "(LWeighedInBooks$Town;I)LWeighedInBooks$Town;"⟩
abbrev cX2_whenDown : ByteArray := prog_4_method_4_code
def yX2_whenDown : MethodName := ⟨RX2, "whenDown", "(LWeighedInBooks$Town;II)I"⟩
abbrev cX2_weeksTillDown : ByteArray := prog_4_method_5_code
def yX2_weeksTillDown : MethodName := ⟨RX2, "weeksTillDown", "(III)I"⟩
abbrev cX2_firstDown : ByteArray := prog_4_method_6_code
def yX2_firstDown : MethodName := ⟨RX2, "firstDown", "(LWeighedInBooks$Town;)I"⟩
abbrev cX2_firstFreshlyDown : ByteArray := prog_4_method_7_code
def yX2_firstFreshlyDown : MethodName := ⟨RX2, "firstFreshlyDown", "(LWeighedInBooks$Town;)I"⟩
abbrev cX2_seekLoan : ByteArray := prog_4_method_8_code
def yX2_seekLoan : MethodName := ⟨RX2, "seekLoan", "(LWeighedInBooks$Town;II)V"⟩
abbrev cX2_bestTaught : ByteArray := prog_4_method_9_code
def yX2_bestTaught : MethodName := ⟨RX2, "bestTaught", "(LWeighedInBooks$Town;IIII)I"⟩
abbrev cX2_bitsBy : ByteArray := prog_4_method_10_code
def yX2_bitsBy : MethodName := ⟨RX2, "bitsBy", "([IIIIIZ)I"⟩
abbrev cX2_steadyPair : ByteArray := prog_4_method_11_code
def yX2_steadyPair : MethodName := ⟨RX2, "steadyPair", "(LWeighedInBooks$Town;III)I"⟩
abbrev cX2_weighChoice : ByteArray := prog_4_method_12_code
def yX2_weighChoice : MethodName := ⟨RX2, "weighChoice", "(LWeighedInBooks$Town;IIII)V"⟩
abbrev cX2_dampCases : ByteArray := prog_4_method_13_code
def yX2_dampCases : MethodName := ⟨RX2, "dampCases", "(LWeighedInBooks$Town;IIII)J"⟩
abbrev cX2_drawSprings : ByteArray := prog_4_method_14_code
def yX2_drawSprings : MethodName := ⟨RX2, "drawSprings", "(LWeighedInBooks$Town;II)V"⟩
abbrev cX2_keeperDrawn : ByteArray := prog_4_method_15_code
def yX2_keeperDrawn : MethodName := ⟨RX2, "keeperDrawn", "(I)I"⟩
def RX3 : String := "WeighedInBooks$Fractions"
def TX3 : u_T := fun k => match k with
  | _ => ("", "", "", false)
def tyX3 : Nat → FieldType := fun k => match k with
  | _ => .int
abbrev wsX30 : List Cond := u_ws RX3 TX3 0
theorem nmX3 : ∀ a, a < 0 → ∀ b, b < 0 → a ≠ b → (TX3 a).2.1 ≠ (TX3 b).2.1 := by decide +kernel
theorem tyX3_ok : ∀ k, k < 0 → parseFieldDescriptor (TX3 k).2.2.1 = some (tyX3 k) := by decide +kernel
abbrev cX3_part : ByteArray := prog_5_method_2_code
def yX3_part : MethodName := ⟨RX3, "part", "(JJI)J"⟩
abbrev cX3_sharedDivisor : ByteArray := prog_5_method_3_code
def yX3_sharedDivisor : MethodName := ⟨RX3, "sharedDivisor", "(JJ)J"⟩
abbrev cX3_power : ByteArray := prog_5_method_4_code
def yX3_power : MethodName := ⟨RX3, "power", "(JI)J"⟩
def RX4 : String := "WeighedInBooks$Past"
def TX4 : u_T := fun k => match k with
  | 0 => ("WeighedInBooks$Past", "kept", "[LWeighedInBooks$Town;", true)
  | 1 => ("WeighedInBooks$Past", "latest", "I", false)
  | _ => ("WeighedInBooks$Past", "many", "I", false)
def tyX4 : Nat → FieldType := fun k => match k with
  | 0 => .array (.object "WeighedInBooks$Town")
  | 1 => .int
  | _ => .int
abbrev wsX40 : List Cond := u_ws RX4 TX4 3
theorem nmX4 : ∀ a, a < 3 → ∀ b, b < 3 → a ≠ b → (TX4 a).2.1 ≠ (TX4 b).2.1 := by decide +kernel
theorem tyX4_ok : ∀ k, k < 3 → parseFieldDescriptor (TX4 k).2.2.1 = some (tyX4 k) := by decide +kernel
abbrev cX4_init : ByteArray := prog_6_method_1_code
def yX4_init : MethodName := ⟨RX4, "<init>", "()V"⟩
abbrev cX4_keep : ByteArray := prog_6_method_2_code
def yX4_keep : MethodName := ⟨RX4, "keep", "(LWeighedInBooks$Town;)V"⟩
abbrev cX4_giveBack : ByteArray := prog_6_method_3_code
def yX4_giveBack : MethodName := ⟨RX4, "giveBack", "(LWeighedInBooks$Town;)V"⟩
abbrev cX4_forget : ByteArray := prog_6_method_4_code
def yX4_forget : MethodName := ⟨RX4, "forget", "()V"⟩
def RX5 : String := "WeighedInBooks$Statements"
def TX5 : u_T := fun k => match k with
  | 0 => ("WeighedInBooks$Statements", "letter", "[I", true)
  | 1 => ("WeighedInBooks$Statements", "letters", "I", false)
  | 2 => ("WeighedInBooks$Statements", "place", "I", false)
  | _ => ("WeighedInBooks$Statements", "draft", "LWeighedInBooks$Town;", true)
def tyX5 : Nat → FieldType := fun k => match k with
  | 0 => .array .int
  | 1 => .int
  | 2 => .int
  | _ => .object "WeighedInBooks$Town"
abbrev wsX50 : List Cond := u_ws RX5 TX5 4
theorem nmX5 : ∀ a, a < 4 → ∀ b, b < 4 → a ≠ b → (TX5 a).2.1 ≠ (TX5 b).2.1 := by decide +kernel
theorem tyX5_ok : ∀ k, k < 4 → parseFieldDescriptor (TX5 k).2.2.1 = some (tyX5 k) := by decide +kernel
abbrev cX5_init : ByteArray := prog_7_method_1_code
def yX5_init : MethodName := ⟨RX5, "<init>", "()V"⟩
abbrev cX5_addLetter : ByteArray := prog_7_method_2_code
def yX5_addLetter : MethodName := ⟨RX5, "addLetter", "(I)I"⟩
abbrev cX5_tellTo : ByteArray := prog_7_method_3_code
def yX5_tellTo : MethodName := ⟨RX5, "tellTo", "(LWeighedInBooks$Town;)I"⟩
abbrev cX5_canBeRead : ByteArray := prog_7_method_4_code
def yX5_canBeRead : MethodName := ⟨RX5, "canBeRead", "()Z"⟩
abbrev cX5_passStatement : ByteArray := prog_7_method_5_code
def yX5_passStatement : MethodName := ⟨RX5, "passStatement", "()Z"⟩
abbrev cX5_passBody : ByteArray := prog_7_method_6_code
def yX5_passBody : MethodName := ⟨RX5, "passBody", "(I)Z"⟩
abbrev cX5_passSteps : ByteArray := prog_7_method_7_code
def yX5_passSteps : MethodName := ⟨RX5, "passSteps", "()Z"⟩
abbrev cX5_passTitle : ByteArray := prog_7_method_8_code
def yX5_passTitle : MethodName := ⟨RX5, "passTitle", "()Z"⟩
abbrev cX5_passDigits : ByteArray := prog_7_method_9_code
def yX5_passDigits : MethodName := ⟨RX5, "passDigits", "(I)Z"⟩
abbrev cX5_passLetter : ByteArray := prog_7_method_10_code
def yX5_passLetter : MethodName := ⟨RX5, "passLetter", "(I)Z"⟩
abbrev cX5_here : ByteArray := prog_7_method_11_code
def yX5_here : MethodName := ⟨RX5, "here", "()I"⟩
abbrev cX5_stepHere : ByteArray := prog_7_method_12_code
def yX5_stepHere : MethodName := ⟨RX5, "stepHere", "()I"⟩
abbrev cX5_isTitleLetter : ByteArray := prog_7_method_13_code
def yX5_isTitleLetter : MethodName := ⟨RX5, "isTitleLetter", "(I)Z"⟩
abbrev cX5_takeBody : ByteArray := prog_7_method_14_code
def yX5_takeBody : MethodName := ⟨RX5, "takeBody", "(I)Z"⟩
abbrev cX5_takePerson : ByteArray := prog_7_method_15_code
def yX5_takePerson : MethodName := ⟨RX5, "takePerson", "()Z"⟩
abbrev cX5_takeBook : ByteArray := prog_7_method_16_code
def yX5_takeBook : MethodName := ⟨RX5, "takeBook", "()Z"⟩
abbrev cX5_takeReading : ByteArray := prog_7_method_17_code
def yX5_takeReading : MethodName := ⟨RX5, "takeReading", "()Z"⟩
abbrev cX5_takeHolder : ByteArray := prog_7_method_18_code
def yX5_takeHolder : MethodName := ⟨RX5, "takeHolder", "()Z"⟩
abbrev cX5_takeLaw : ByteArray := prog_7_method_19_code
def yX5_takeLaw : MethodName := ⟨RX5, "takeLaw", "()Z"⟩
abbrev cX5_takeWeeks : ByteArray := prog_7_method_20_code
def yX5_takeWeeks : MethodName := ⟨RX5, "takeWeeks", "()Z"⟩
abbrev cX5_takeNumber : ByteArray := prog_7_method_21_code
def yX5_takeNumber : MethodName := ⟨RX5, "takeNumber", "(I)I"⟩
abbrev cX5_takeTitle : ByteArray := prog_7_method_22_code
def yX5_takeTitle : MethodName := ⟨RX5, "takeTitle", "()I"⟩
def RX6 : String := "WeighedInBooks$Titles"
def TX6 : u_T := fun k => match k with
  | _ => ("", "", "", false)
def tyX6 : Nat → FieldType := fun k => match k with
  | _ => .int
abbrev wsX60 : List Cond := u_ws RX6 TX6 0
theorem nmX6 : ∀ a, a < 0 → ∀ b, b < 0 → a ≠ b → (TX6 a).2.1 ≠ (TX6 b).2.1 := by decide +kernel
theorem tyX6_ok : ∀ k, k < 0 → parseFieldDescriptor (TX6 k).2.2.1 = some (tyX6 k) := by decide +kernel
abbrev cX6_ofLetter : ByteArray := prog_8_method_2_code
def yX6_ofLetter : MethodName := ⟨RX6, "ofLetter", "(I)I"⟩
abbrev cX6_longer : ByteArray := prog_8_method_3_code
def yX6_longer : MethodName := ⟨RX6, "longer", "(III)I"⟩
abbrev cX6_letterAt : ByteArray := prog_8_method_4_code
def yX6_letterAt : MethodName := ⟨RX6, "letterAt", "(II)I"⟩
abbrev cX6_lengthOf : ByteArray := prog_8_method_5_code
def yX6_lengthOf : MethodName := ⟨RX6, "lengthOf", "(I)I"⟩
def RX7 : String := "WeighedInBooks$Town"
def TX7 : u_T := fun k => match k with
  | 0 => ("WeighedInBooks$Town", "people", "I", false)
  | 1 => ("WeighedInBooks$Town", "weight", "[I", true)
  | 2 => ("WeighedInBooks$Town", "appetite", "[I", true)
  | 3 => ("WeighedInBooks$Town", "purse", "[I", true)
  | 4 => ("WeighedInBooks$Town", "books", "I", false)
  | 5 => ("WeighedInBooks$Town", "kind", "[I", true)
  | 6 => ("WeighedInBooks$Town", "figure", "[I", true)
  | 7 => ("WeighedInBooks$Town", "owner", "[I", true)
  | 8 => ("WeighedInBooks$Town", "holder", "[I", true)
  | 9 => ("WeighedInBooks$Town", "readers", "[I", true)
  | 10 => ("WeighedInBooks$Town", "title", "[I", true)
  | 11 => ("WeighedInBooks$Town", "week", "I", false)
  | 12 => ("WeighedInBooks$Town", "steps", "I", false)
  | 13 => ("WeighedInBooks$Town", "step", "[I", true)
  | _ => ("WeighedInBooks$Town", "stepNumber", "[I", true)
def tyX7 : Nat → FieldType := fun k => match k with
  | 0 => .int
  | 1 => .array .int
  | 2 => .array .int
  | 3 => .array .int
  | 4 => .int
  | 5 => .array .int
  | 6 => .array .int
  | 7 => .array .int
  | 8 => .array .int
  | 9 => .array .int
  | 10 => .array .int
  | 11 => .int
  | 12 => .int
  | 13 => .array .int
  | _ => .array .int
abbrev wsX70 : List Cond := u_ws RX7 TX7 15
theorem nmX7 : ∀ a, a < 15 → ∀ b, b < 15 → a ≠ b → (TX7 a).2.1 ≠ (TX7 b).2.1 := by decide +kernel
theorem tyX7_ok : ∀ k, k < 15 → parseFieldDescriptor (TX7 k).2.2.1 = some (tyX7 k) := by decide +kernel
abbrev cX7_init : ByteArray := prog_9_method_1_code
def yX7_init : MethodName := ⟨RX7, "<init>", "()V"⟩
abbrev cX7_copyFrom : ByteArray := prog_9_method_2_code
def yX7_copyFrom : MethodName := ⟨RX7, "copyFrom", "(LWeighedInBooks$Town;)V"⟩
abbrev cX7_hasPerson : ByteArray := prog_9_method_3_code
def yX7_hasPerson : MethodName := ⟨RX7, "hasPerson", "(I)Z"⟩
abbrev cX7_hasKeeper : ByteArray := prog_9_method_4_code
def yX7_hasKeeper : MethodName := ⟨RX7, "hasKeeper", "(I)Z"⟩
abbrev cX7_hasBook : ByteArray := prog_9_method_5_code
def yX7_hasBook : MethodName := ⟨RX7, "hasBook", "(I)Z"⟩
abbrev cX7_addPerson : ByteArray := prog_9_method_6_code
def yX7_addPerson : MethodName := ⟨RX7, "addPerson", "(III)I"⟩
abbrev cX7_addBook : ByteArray := prog_9_method_7_code
def yX7_addBook : MethodName := ⟨RX7, "addBook", "(IIII)I"⟩
abbrev cX7_addStep : ByteArray := prog_9_method_8_code
def yX7_addStep : MethodName := ⟨RX7, "addStep", "(II)V"⟩
abbrev cX7_weighs : ByteArray := prog_9_method_9_code
def yX7_weighs : MethodName := ⟨RX7, "weighs", "(I)I"⟩
abbrev cX7_priceOf : ByteArray := prog_9_method_10_code
def yX7_priceOf : MethodName := ⟨RX7, "priceOf", "(I)I"⟩
abbrev cX7_hasRead : ByteArray := prog_9_method_11_code
def yX7_hasRead : MethodName := ⟨RX7, "hasRead", "(II)I"⟩
abbrev cX7_isOnPan : ByteArray := prog_9_method_12_code
def yX7_isOnPan : MethodName := ⟨RX7, "isOnPan", "(III)Z"⟩
abbrev cX7_comesTo : ByteArray := prog_9_method_13_code
def yX7_comesTo : MethodName := ⟨RX7, "comesTo", "(III)I"⟩
abbrev cX7_stepped : ByteArray := prog_9_method_14_code
def yX7_stepped : MethodName := ⟨RX7, "stepped", "(III)I"⟩
abbrev cX7_overOf : ByteArray := prog_9_method_15_code
def yX7_overOf : MethodName := ⟨RX7, "overOf", "(II)I"⟩
abbrev cX7_comesDown : ByteArray := prog_9_method_16_code
def yX7_comesDown : MethodName := ⟨RX7, "comesDown", "(II)Z"⟩
abbrev cX7_twosDown : ByteArray := prog_9_method_17_code
def yX7_twosDown : MethodName := ⟨RX7, "twosDown", "()I"⟩
abbrev cX7_closestTwo : ByteArray := prog_9_method_18_code
def yX7_closestTwo : MethodName := ⟨RX7, "closestTwo", "()I"⟩
abbrev cX7_weeksPass : ByteArray := prog_9_method_19_code
def yX7_weeksPass : MethodName := ⟨RX7, "weeksPass", "(I)V"⟩
abbrev cX7_weekPasses : ByteArray := prog_9_method_20_code
def yX7_weekPasses : MethodName := ⟨RX7, "weekPasses", "(Z)V"⟩
abbrev cX7_readNext : ByteArray := prog_9_method_21_code
def yX7_readNext : MethodName := ⟨RX7, "readNext", "(I)V"⟩
abbrev cX7_givesBack : ByteArray := prog_9_method_22_code
def yX7_givesBack : MethodName := ⟨RX7, "givesBack", "(I)V"⟩
abbrev cX7_bookWithTitle : ByteArray := prog_9_method_23_code
def yX7_bookWithTitle : MethodName := ⟨RX7, "bookWithTitle", "(I)I"⟩
abbrev cX7_rankOf : ByteArray := prog_9_method_24_code
def yX7_rankOf : MethodName := ⟨RX7, "rankOf", "(I)I"⟩
abbrev cX7_firstTitleFrom : ByteArray := prog_9_method_25_code
def yX7_firstTitleFrom : MethodName := ⟨RX7, "firstTitleFrom", "(I)I"⟩
abbrev cX7_readings : ByteArray := prog_9_method_26_code
def yX7_readings : MethodName := ⟨RX7, "readings", "()I"⟩
abbrev cX7_readingsOf : ByteArray := prog_9_method_27_code
def yX7_readingsOf : MethodName := ⟨RX7, "readingsOf", "(I)I"⟩
abbrev cX7_booksReadBy : ByteArray := prog_9_method_28_code
def yX7_booksReadBy : MethodName := ⟨RX7, "booksReadBy", "(I)I"⟩
abbrev cX7_unreadBooks : ByteArray := prog_9_method_29_code
def yX7_unreadBooks : MethodName := ⟨RX7, "unreadBooks", "()I"⟩
abbrev cX7_lentBooks : ByteArray := prog_9_method_30_code
def yX7_lentBooks : MethodName := ⟨RX7, "lentBooks", "()I"⟩
abbrev cX7_booksWith : ByteArray := prog_9_method_31_code
def yX7_booksWith : MethodName := ⟨RX7, "booksWith", "([II)I"⟩
abbrev cX7_kindsHeldBy : ByteArray := prog_9_method_32_code
def yX7_kindsHeldBy : MethodName := ⟨RX7, "kindsHeldBy", "(I)I"⟩
abbrev cX7_pricesHeldBy : ByteArray := prog_9_method_33_code
def yX7_pricesHeldBy : MethodName := ⟨RX7, "pricesHeldBy", "(I)I"⟩
abbrev cX7_mostHeldKind : ByteArray := prog_9_method_34_code
def yX7_mostHeldKind : MethodName := ⟨RX7, "mostHeldKind", "(I)I"⟩
abbrev cX7_weightOfAll : ByteArray := prog_9_method_35_code
def yX7_weightOfAll : MethodName := ⟨RX7, "weightOfAll", "()I"⟩
abbrev cX7_poorPeople : ByteArray := prog_9_method_36_code
def yX7_poorPeople : MethodName := ⟨RX7, "poorPeople", "()I"⟩
abbrev cX7_leastTownPrice : ByteArray := prog_9_method_37_code
def yX7_leastTownPrice : MethodName := ⟨RX7, "leastTownPrice", "()I"⟩
def RX8 : String := "WeighedInBooks"
def TX8 : u_T := fun k => match k with
  | 0 => ("WeighedInBooks", "now", "LWeighedInBooks$Town;", true)
  | 1 => ("WeighedInBooks", "past", "LWeighedInBooks$Past;", true)
  | 2 => ("WeighedInBooks", "imaged", "LWeighedInBooks$Town;", true)
  | 3 => ("WeighedInBooks", "hasImage", "Z", false)
  | 4 => ("WeighedInBooks", "told", "LWeighedInBooks$Statements;", true)
  | 5 => ("WeighedInBooks", "foresight", "LWeighedInBooks$Foresight;", true)
  | 6 => ("WeighedInBooks", "bargain", "LWeighedInBooks$Bargain;", true)
  | 7 => ("WeighedInBooks", "matched", "LWeighedInBooks$Couples;", true)
  | 8 => ("WeighedInBooks", "ordered", "[I", true)
  | 9 => ("WeighedInBooks", "toldRow", "[I", true)
  | 10 => ("WeighedInBooks", "inRow", "I", false)
  | _ => ("WeighedInBooks", "refused", "[I", true)
def tyX8 : Nat → FieldType := fun k => match k with
  | 0 => .object "WeighedInBooks$Town"
  | 1 => .object "WeighedInBooks$Past"
  | 2 => .object "WeighedInBooks$Town"
  | 3 => .boolean
  | 4 => .object "WeighedInBooks$Statements"
  | 5 => .object "WeighedInBooks$Foresight"
  | 6 => .object "WeighedInBooks$Bargain"
  | 7 => .object "WeighedInBooks$Couples"
  | 8 => .array .int
  | 9 => .array .int
  | 10 => .int
  | _ => .array .int
abbrev wsX80 : List Cond := u_ws RX8 TX8 12
theorem nmX8 : ∀ a, a < 12 → ∀ b, b < 12 → a ≠ b → (TX8 a).2.1 ≠ (TX8 b).2.1 := by decide +kernel
theorem tyX8_ok : ∀ k, k < 12 → parseFieldDescriptor (TX8 k).2.2.1 = some (tyX8 k) := by decide +kernel
abbrev cX8_init : ByteArray := prog_1_method_1_code
def yX8_init : MethodName := ⟨RX8, "<init>", "()V"⟩
abbrev cX8_feed : ByteArray := prog_1_method_2_code
def yX8_feed : MethodName := ⟨RX8, "feed", "(I)I"⟩
abbrev cX8_town : ByteArray := prog_1_method_3_code
def yX8_town : MethodName := ⟨RX8, "town", "()I"⟩
abbrev cX8_comes : ByteArray := prog_1_method_4_code
def yX8_comes : MethodName := ⟨RX8, "comes", "(III)I"⟩
abbrev cX8_brings : ByteArray := prog_1_method_5_code
def yX8_brings : MethodName := ⟨RX8, "brings", "(IIII)I"⟩
abbrev cX8_person : ByteArray := prog_1_method_6_code
def yX8_person : MethodName := ⟨RX8, "person", "(II)I"⟩
abbrev cX8_book : ByteArray := prog_1_method_7_code
def yX8_book : MethodName := ⟨RX8, "book", "(II)I"⟩
abbrev cX8_title : ByteArray := prog_1_method_8_code
def yX8_title : MethodName := ⟨RX8, "title", "(II)I"⟩
abbrev cX8_eats : ByteArray := prog_1_method_9_code
def yX8_eats : MethodName := ⟨RX8, "eats", "(II)I"⟩
abbrev cX8_reads : ByteArray := prog_1_method_10_code
def yX8_reads : MethodName := ⟨RX8, "reads", "(II)I"⟩
abbrev cX8_lends : ByteArray := prog_1_method_11_code
def yX8_lends : MethodName := ⟨RX8, "lends", "(II)I"⟩
abbrev cX8_buys : ByteArray := prog_1_method_12_code
def yX8_buys : MethodName := ⟨RX8, "buys", "(II)I"⟩
abbrev cX8_step : ByteArray := prog_1_method_13_code
def yX8_step : MethodName := ⟨RX8, "step", "(II)I"⟩
abbrev cX8_clearLaw : ByteArray := prog_1_method_14_code
def yX8_clearLaw : MethodName := ⟨RX8, "clearLaw", "()I"⟩
abbrev cX8_weeks : ByteArray := prog_1_method_15_code
def yX8_weeks : MethodName := ⟨RX8, "weeks", "(I)I"⟩
abbrev cX8_back : ByteArray := prog_1_method_16_code
def yX8_back : MethodName := ⟨RX8, "back", "()I"⟩
abbrev cX8_over : ByteArray := prog_1_method_17_code
def yX8_over : MethodName := ⟨RX8, "over", "(II)I"⟩
abbrev cX8_pan : ByteArray := prog_1_method_18_code
def yX8_pan : MethodName := ⟨RX8, "pan", "(III)I"⟩
abbrev cX8_buy : ByteArray := prog_1_method_19_code
def yX8_buy : MethodName := ⟨RX8, "buy", "(III)I"⟩
abbrev cX8_couples : ByteArray := prog_1_method_20_code
def yX8_couples : MethodName := ⟨RX8, "couples", "(I)I"⟩
abbrev cX8_heaviest : ByteArray := prog_1_method_21_code
def yX8_heaviest : MethodName := ⟨RX8, "heaviest", "(III)I"⟩
abbrev cX8_overThen : ByteArray := prog_1_method_22_code
def yX8_overThen : MethodName := ⟨RX8, "overThen", "(III)I"⟩
abbrev cX8_then : ByteArray := prog_1_method_23_code
def yX8_then : MethodName := ⟨RX8, "then", "(III)I"⟩
abbrev cX8_when : ByteArray := prog_1_method_24_code
def yX8_when : MethodName := ⟨RX8, "when", "(II)I"⟩
abbrev cX8_first : ByteArray := prog_1_method_25_code
def yX8_first : MethodName := ⟨RX8, "first", "()I"⟩
abbrev cX8_borrow : ByteArray := prog_1_method_26_code
def yX8_borrow : MethodName := ⟨RX8, "borrow", "(III)I"⟩
abbrev cX8_taught : ByteArray := prog_1_method_27_code
def yX8_taught : MethodName := ⟨RX8, "taught", "(IIII)I"⟩
abbrev cX8_whatKind : ByteArray := prog_1_method_28_code
def yX8_whatKind : MethodName := ⟨RX8, "whatKind", "(IIII)I"⟩
abbrev cX8_two : ByteArray := prog_1_method_29_code
def yX8_two : MethodName := ⟨RX8, "two", "(III)I"⟩
abbrev cX8_damp : ByteArray := prog_1_method_30_code
def yX8_damp : MethodName := ⟨RX8, "damp", "(IIIII)J"⟩
abbrev cX8_lots : ByteArray := prog_1_method_31_code
def yX8_lots : MethodName := ⟨RX8, "lots", "(III)I"⟩
abbrev cX8_titles : ByteArray := prog_1_method_32_code
def yX8_titles : MethodName := ⟨RX8, "titles", "(II)I"⟩
abbrev cX8_from : ByteArray := prog_1_method_33_code
def yX8_from : MethodName := ⟨RX8, "from", "(I)I"⟩
abbrev cX8_shelf : ByteArray := prog_1_method_34_code
def yX8_shelf : MethodName := ⟨RX8, "shelf", "(II)I"⟩
abbrev cX8_sight : ByteArray := prog_1_method_35_code
def yX8_sight : MethodName := ⟨RX8, "sight", "(I)I"⟩
abbrev cX8_share : ByteArray := prog_1_method_36_code
def yX8_share : MethodName := ⟨RX8, "share", "(II)J"⟩
abbrev cX8_byHeart : ByteArray := prog_1_method_37_code
def yX8_byHeart : MethodName := ⟨RX8, "byHeart", "(II)I"⟩
abbrev cX8_kinds : ByteArray := prog_1_method_38_code
def yX8_kinds : MethodName := ⟨RX8, "kinds", "(I)I"⟩
abbrev cX8_row : ByteArray := prog_1_method_39_code
def yX8_row : MethodName := ⟨RX8, "row", "(I)I"⟩
abbrev cX8_judge : ByteArray := prog_1_method_40_code
def yX8_judge : MethodName := ⟨RX8, "judge", "()I"⟩
abbrev cX8_clear : ByteArray := prog_1_method_41_code
def yX8_clear : MethodName := ⟨RX8, "clear", "()I"⟩
abbrev cX8_image : ByteArray := prog_1_method_42_code
def yX8_image : MethodName := ⟨RX8, "image", "()I"⟩
abbrev cX8_restore : ByteArray := prog_1_method_43_code
def yX8_restore : MethodName := ⟨RX8, "restore", "()I"⟩
abbrev cX8_count : ByteArray := prog_1_method_44_code
def yX8_count : MethodName := ⟨RX8, "count", "(I)I"⟩
abbrev cX8_refuse : ByteArray := prog_1_method_45_code
def yX8_refuse : MethodName := ⟨RX8, "refuse", "(I)I"⟩
abbrev cX8_isNeither : ByteArray := prog_1_method_46_code
def yX8_isNeither : MethodName := ⟨RX8, "isNeither", "(I)Z"⟩
abbrev cX8_areTwo : ByteArray := prog_1_method_47_code
def yX8_areTwo : MethodName := ⟨RX8, "areTwo", "(II)Z"⟩
abbrev cX8_orderPan : ByteArray := prog_1_method_48_code
def yX8_orderPan : MethodName := ⟨RX8, "orderPan", "(II)I"⟩
abbrev cX8_isHeavier : ByteArray := prog_1_method_49_code
def yX8_isHeavier : MethodName := ⟨RX8, "isHeavier", "(IIII)Z"⟩
def RX9 : String := "WeighedInBooksModel"
def TX9 : u_T := fun k => match k with
  | 0 => ("WeighedInBooksModel", "refused", "[I", true)
  | 1 => ("WeighedInBooksModel", "weight", "[I", true)
  | 2 => ("WeighedInBooksModel", "appetite", "[I", true)
  | 3 => ("WeighedInBooksModel", "purse", "[I", true)
  | 4 => ("WeighedInBooksModel", "kind", "[I", true)
  | 5 => ("WeighedInBooksModel", "figure", "[I", true)
  | 6 => ("WeighedInBooksModel", "owner", "[I", true)
  | 7 => ("WeighedInBooksModel", "holder", "[I", true)
  | 8 => ("WeighedInBooksModel", "readBy", "[I", true)
  | 9 => ("WeighedInBooksModel", "titleMany", "[I", true)
  | 10 => ("WeighedInBooksModel", "title", "[I", true)
  | 11 => ("WeighedInBooksModel", "stepKind", "[I", true)
  | 12 => ("WeighedInBooksModel", "stepN", "[I", true)
  | 13 => ("WeighedInBooksModel", "people", "I", false)
  | 14 => ("WeighedInBooksModel", "books", "I", false)
  | 15 => ("WeighedInBooksModel", "week", "I", false)
  | 16 => ("WeighedInBooksModel", "steps", "I", false)
  | 17 => ("WeighedInBooksModel", "isDamp", "Z", false)
  | 18 => ("WeighedInBooksModel", "tape", "[I", true)
  | 19 => ("WeighedInBooksModel", "sort", "[I", true)
  | 20 => ("WeighedInBooksModel", "sortAt", "[I", true)
  | 21 => ("WeighedInBooksModel", "told", "[I", true)
  | 22 => ("WeighedInBooksModel", "saidAt", "[I", true)
  | 23 => ("WeighedInBooksModel", "saidMany", "[I", true)
  | 24 => ("WeighedInBooksModel", "lawKind", "[I", true)
  | 25 => ("WeighedInBooksModel", "lawN", "[I", true)
  | 26 => ("WeighedInBooksModel", "taped", "I", false)
  | 27 => ("WeighedInBooksModel", "reading", "I", false)
  | 28 => ("WeighedInBooksModel", "statements", "I", false)
  | 29 => ("WeighedInBooksModel", "telling", "I", false)
  | 30 => ("WeighedInBooksModel", "lawTold", "I", false)
  | 31 => ("WeighedInBooksModel", "kept", "[I", true)
  | 32 => ("WeighedInBooksModel", "hasImage", "Z", false)
  | 33 => ("WeighedInBooksModel", "isKeeping", "Z", false)
  | 34 => ("WeighedInBooksModel", "cursor", "I", false)
  | 35 => ("WeighedInBooksModel", "firstBack", "I", false)
  | 36 => ("WeighedInBooksModel", "backs", "I", false)
  | 37 => ("WeighedInBooksModel", "wasDown", "[I", true)
  | 38 => ("WeighedInBooksModel", "most", "[I", true)
  | 39 => ("WeighedInBooksModel", "partner", "[I", true)
  | 40 => ("WeighedInBooksModel", "row", "[I", true)
  | 41 => ("WeighedInBooksModel", "rowMany", "I", false)
  | 42 => ("WeighedInBooksModel", "ends", "[I", true)
  | _ => ("WeighedInBooksModel", "lots", "I", false)
def tyX9 : Nat → FieldType := fun k => match k with
  | 0 => .array .int
  | 1 => .array .int
  | 2 => .array .int
  | 3 => .array .int
  | 4 => .array .int
  | 5 => .array .int
  | 6 => .array .int
  | 7 => .array .int
  | 8 => .array .int
  | 9 => .array .int
  | 10 => .array .int
  | 11 => .array .int
  | 12 => .array .int
  | 13 => .int
  | 14 => .int
  | 15 => .int
  | 16 => .int
  | 17 => .boolean
  | 18 => .array .int
  | 19 => .array .int
  | 20 => .array .int
  | 21 => .array .int
  | 22 => .array .int
  | 23 => .array .int
  | 24 => .array .int
  | 25 => .array .int
  | 26 => .int
  | 27 => .int
  | 28 => .int
  | 29 => .int
  | 30 => .int
  | 31 => .array .int
  | 32 => .boolean
  | 33 => .boolean
  | 34 => .int
  | 35 => .int
  | 36 => .int
  | 37 => .array .int
  | 38 => .array .int
  | 39 => .array .int
  | 40 => .array .int
  | 41 => .int
  | 42 => .array .int
  | _ => .int
abbrev wsX90 : List Cond := u_ws RX9 TX9 44
theorem nmX9 : ∀ a, a < 44 → ∀ b, b < 44 → a ≠ b → (TX9 a).2.1 ≠ (TX9 b).2.1 := by decide +kernel
theorem tyX9_ok : ∀ k, k < 44 → parseFieldDescriptor (TX9 k).2.2.1 = some (tyX9 k) := by decide +kernel
abbrev cX9_init : ByteArray := prog_11_method_1_code
def yX9_init : MethodName := ⟨RX9, "<init>", "()V"⟩
abbrev cX9_no : ByteArray := prog_11_method_2_code
def yX9_no : MethodName := ⟨RX9, "no", "(I)I"⟩
abbrev cX9_lower : ByteArray := prog_11_method_3_code
def yX9_lower : MethodName := ⟨RX9, "lower", "(I)I"⟩
abbrev cX9_lowestOf : ByteArray := prog_11_method_4_code
def yX9_lowestOf : MethodName := ⟨RX9, "lowestOf", "(I)J"⟩
abbrev cX9_isIn : ByteArray := prog_11_method_5_code
def yX9_isIn : MethodName := ⟨RX9, "isIn", "(III)Z"⟩
abbrev cX9_bound : ByteArray := prog_11_method_6_code
def yX9_bound : MethodName := ⟨RX9, "bound", "(III)I"⟩
abbrev cX9_has : ByteArray := prog_11_method_7_code
def yX9_has : MethodName := ⟨RX9, "has", "(II)Z"⟩
abbrev cX9_bits : ByteArray := prog_11_method_8_code
def yX9_bits : MethodName := ⟨RX9, "bits", "(I)I"⟩
abbrev cX9_isPerson : ByteArray := prog_11_method_9_code
def yX9_isPerson : MethodName := ⟨RX9, "isPerson", "(I)Z"⟩
abbrev cX9_isPlace : ByteArray := prog_11_method_10_code
def yX9_isPlace : MethodName := ⟨RX9, "isPlace", "(I)Z"⟩
abbrev cX9_isBook : ByteArray := prog_11_method_11_code
def yX9_isBook : MethodName := ⟨RX9, "isBook", "(I)Z"⟩
abbrev cX9_areTwo : ByteArray := prog_11_method_12_code
def yX9_areTwo : MethodName := ⟨RX9, "areTwo", "(II)Z"⟩
abbrev cX9_asNovel : ByteArray := prog_11_method_13_code
def yX9_asNovel : MethodName := ⟨RX9, "asNovel", "(I)I"⟩
abbrev cX9_weighs : ByteArray := prog_11_method_14_code
def yX9_weighs : MethodName := ⟨RX9, "weighs", "(I)I"⟩
abbrev cX9_price : ByteArray := prog_11_method_15_code
def yX9_price : MethodName := ⟨RX9, "price", "(I)I"⟩
abbrev cX9_byStep : ByteArray := prog_11_method_16_code
def yX9_byStep : MethodName := ⟨RX9, "byStep", "(III)I"⟩
abbrev cX9_comesTo : ByteArray := prog_11_method_17_code
def yX9_comesTo : MethodName := ⟨RX9, "comesTo", "(III)I"⟩
abbrev cX9_isHeld : ByteArray := prog_11_method_18_code
def yX9_isHeld : MethodName := ⟨RX9, "isHeld", "(III)Z"⟩
abbrev cX9_overWith : ByteArray := prog_11_method_19_code
def yX9_overWith : MethodName := ⟨RX9, "overWith", "(III)I"⟩
abbrev cX9_overNow : ByteArray := prog_11_method_20_code
def yX9_overNow : MethodName := ⟨RX9, "overNow", "(II)I"⟩
abbrev cX9_comesDown : ByteArray := prog_11_method_21_code
def yX9_comesDown : MethodName := ⟨RX9, "comesDown", "(II)Z"⟩
abbrev cX9_compares : ByteArray := prog_11_method_22_code
def yX9_compares : MethodName := ⟨RX9, "compares", "(II)I"⟩
abbrev cX9_rankOf : ByteArray := prog_11_method_23_code
def yX9_rankOf : MethodName := ⟨RX9, "rankOf", "(I)I"⟩
abbrev cX9_ofRank : ByteArray := prog_11_method_24_code
def yX9_ofRank : MethodName := ⟨RX9, "ofRank", "(I)I"⟩
abbrev cX9_toRead : ByteArray := prog_11_method_25_code
def yX9_toRead : MethodName := ⟨RX9, "toRead", "(I)I"⟩
abbrev cX9_goesPerson : ByteArray := prog_11_method_26_code
def yX9_goesPerson : MethodName := ⟨RX9, "goesPerson", "(I)V"⟩
abbrev cX9_goesWeek : ByteArray := prog_11_method_27_code
def yX9_goesWeek : MethodName := ⟨RX9, "goesWeek", "()V"⟩
abbrev cX9_goes : ByteArray := prog_11_method_28_code
def yX9_goes : MethodName := ⟨RX9, "goes", "(I)V"⟩
abbrev cX9_feed : ByteArray := prog_11_method_29_code
def yX9_feed : MethodName := ⟨RX9, "feed", "(I)I"⟩
abbrev cX9_sign : ByteArray := prog_11_method_30_code
def yX9_sign : MethodName := ⟨RX9, "sign", "()I"⟩
abbrev cX9_number : ByteArray := prog_11_method_31_code
def yX9_number : MethodName := ⟨RX9, "number", "(I)I"⟩
abbrev cX9_readsDigits : ByteArray := prog_11_method_32_code
def yX9_readsDigits : MethodName := ⟨RX9, "readsDigits", "(I)Z"⟩
abbrev cX9_readsTitle : ByteArray := prog_11_method_33_code
def yX9_readsTitle : MethodName := ⟨RX9, "readsTitle", "()Z"⟩
abbrev cX9_stepOf : ByteArray := prog_11_method_34_code
def yX9_stepOf : MethodName := ⟨RX9, "stepOf", "(I)I"⟩
abbrev cX9_readsSteps : ByteArray := prog_11_method_35_code
def yX9_readsSteps : MethodName := ⟨RX9, "readsSteps", "()Z"⟩
abbrev cX9_readsAll : ByteArray := prog_11_method_36_code
def yX9_readsAll : MethodName := ⟨RX9, "readsAll", "(I)Z"⟩
abbrev cX9_statement : ByteArray := prog_11_method_37_code
def yX9_statement : MethodName := ⟨RX9, "statement", "()Z"⟩
abbrev cX9_isTitled : ByteArray := prog_11_method_38_code
def yX9_isTitled : MethodName := ⟨RX9, "isTitled", "(III)Z"⟩
abbrev cX9_titledBy : ByteArray := prog_11_method_39_code
def yX9_titledBy : MethodName := ⟨RX9, "titledBy", "(I)I"⟩
abbrev cX9_isMore : ByteArray := prog_11_method_40_code
def yX9_isMore : MethodName := ⟨RX9, "isMore", "(III)V"⟩
abbrev cX9_isBrought : ByteArray := prog_11_method_41_code
def yX9_isBrought : MethodName := ⟨RX9, "isBrought", "(III)V"⟩
abbrev cX9_isTitledMore : ByteArray := prog_11_method_42_code
def yX9_isTitledMore : MethodName := ⟨RX9, "isTitledMore", "(I)V"⟩
abbrev cX9_comesPerson : ByteArray := prog_11_method_43_code
def yX9_comesPerson : MethodName := ⟨RX9, "comesPerson", "(I)Z"⟩
abbrev cX9_comesBook : ByteArray := prog_11_method_44_code
def yX9_comesBook : MethodName := ⟨RX9, "comesBook", "(II)Z"⟩
abbrev cX9_comesReading : ByteArray := prog_11_method_45_code
def yX9_comesReading : MethodName := ⟨RX9, "comesReading", "(II)Z"⟩
abbrev cX9_comesHolding : ByteArray := prog_11_method_46_code
def yX9_comesHolding : MethodName := ⟨RX9, "comesHolding", "(II)Z"⟩
abbrev cX9_comesLaw : ByteArray := prog_11_method_47_code
def yX9_comesLaw : MethodName := ⟨RX9, "comesLaw", "(I)Z"⟩
abbrev cX9_comesWeeks : ByteArray := prog_11_method_48_code
def yX9_comesWeeks : MethodName := ⟨RX9, "comesWeeks", "(I)Z"⟩
abbrev cX9_comesTold : ByteArray := prog_11_method_49_code
def yX9_comesTold : MethodName := ⟨RX9, "comesTold", "(I)Z"⟩
abbrev cX9_town : ByteArray := prog_11_method_50_code
def yX9_town : MethodName := ⟨RX9, "town", "()I"⟩
abbrev cX9_passes : ByteArray := prog_11_method_51_code
def yX9_passes : MethodName := ⟨RX9, "passes", "([I)V"⟩
abbrev cX9_passOne : ByteArray := prog_11_method_52_code
def yX9_passOne : MethodName := ⟨RX9, "passOne", "(I)I"⟩
abbrev cX9_passesAll : ByteArray := prog_11_method_53_code
def yX9_passesAll : MethodName := ⟨RX9, "passesAll", "(IZ)V"⟩
abbrev cX9_minds : ByteArray := prog_11_method_54_code
def yX9_minds : MethodName := ⟨RX9, "minds", "()V"⟩
abbrev cX9_forgets : ByteArray := prog_11_method_55_code
def yX9_forgets : MethodName := ⟨RX9, "forgets", "()V"⟩
abbrev cX9_remembers : ByteArray := prog_11_method_56_code
def yX9_remembers : MethodName := ⟨RX9, "remembers", "()V"⟩
abbrev cX9_back : ByteArray := prog_11_method_57_code
def yX9_back : MethodName := ⟨RX9, "back", "()I"⟩
abbrev cX9_image : ByteArray := prog_11_method_58_code
def yX9_image : MethodName := ⟨RX9, "image", "()I"⟩
abbrev cX9_restore : ByteArray := prog_11_method_59_code
def yX9_restore : MethodName := ⟨RX9, "restore", "()I"⟩
abbrev cX9_manyRead : ByteArray := prog_11_method_60_code
def yX9_manyRead : MethodName := ⟨RX9, "manyRead", "(I)I"⟩
abbrev cX9_manyIn : ByteArray := prog_11_method_61_code
def yX9_manyIn : MethodName := ⟨RX9, "manyIn", "([III)I"⟩
abbrev cX9_person : ByteArray := prog_11_method_62_code
def yX9_person : MethodName := ⟨RX9, "person", "(II)I"⟩
abbrev cX9_book : ByteArray := prog_11_method_63_code
def yX9_book : MethodName := ⟨RX9, "book", "(II)I"⟩
abbrev cX9_title : ByteArray := prog_11_method_64_code
def yX9_title : MethodName := ⟨RX9, "title", "(II)I"⟩
abbrev cX9_comes : ByteArray := prog_11_method_65_code
def yX9_comes : MethodName := ⟨RX9, "comes", "(III)I"⟩
abbrev cX9_isLetterTitle : ByteArray := prog_11_method_66_code
def yX9_isLetterTitle : MethodName := ⟨RX9, "isLetterTitle", "(I)Z"⟩
abbrev cX9_brings : ByteArray := prog_11_method_67_code
def yX9_brings : MethodName := ⟨RX9, "brings", "(IIII)I"⟩
abbrev cX9_eats : ByteArray := prog_11_method_68_code
def yX9_eats : MethodName := ⟨RX9, "eats", "(II)I"⟩
abbrev cX9_reads : ByteArray := prog_11_method_69_code
def yX9_reads : MethodName := ⟨RX9, "reads", "(II)I"⟩
abbrev cX9_lends : ByteArray := prog_11_method_70_code
def yX9_lends : MethodName := ⟨RX9, "lends", "(II)I"⟩
abbrev cX9_buys : ByteArray := prog_11_method_71_code
def yX9_buys : MethodName := ⟨RX9, "buys", "(II)I"⟩
abbrev cX9_step : ByteArray := prog_11_method_72_code
def yX9_step : MethodName := ⟨RX9, "step", "(II)I"⟩
abbrev cX9_clearLaw : ByteArray := prog_11_method_73_code
def yX9_clearLaw : MethodName := ⟨RX9, "clearLaw", "()I"⟩
abbrev cX9_weeks : ByteArray := prog_11_method_74_code
def yX9_weeks : MethodName := ⟨RX9, "weeks", "(I)I"⟩
abbrev cX9_over : ByteArray := prog_11_method_75_code
def yX9_over : MethodName := ⟨RX9, "over", "(II)I"⟩
abbrev cX9_pan : ByteArray := prog_11_method_76_code
def yX9_pan : MethodName := ⟨RX9, "pan", "(III)I"⟩
abbrev cX9_overThen : ByteArray := prog_11_method_77_code
def yX9_overThen : MethodName := ⟨RX9, "overThen", "(III)I"⟩
abbrev cX9_then : ByteArray := prog_11_method_78_code
def yX9_then : MethodName := ⟨RX9, "then", "(III)I"⟩
abbrev cX9_whenFrom : ByteArray := prog_11_method_79_code
def yX9_whenFrom : MethodName := ⟨RX9, "whenFrom", "(II)I"⟩
abbrev cX9_when : ByteArray := prog_11_method_80_code
def yX9_when : MethodName := ⟨RX9, "when", "(II)I"⟩
abbrev cX9_marksDown : ByteArray := prog_11_method_81_code
def yX9_marksDown : MethodName := ⟨RX9, "marksDown", "()V"⟩
abbrev cX9_firstDown : ByteArray := prog_11_method_82_code
def yX9_firstDown : MethodName := ⟨RX9, "firstDown", "()I"⟩
abbrev cX9_first : ByteArray := prog_11_method_83_code
def yX9_first : MethodName := ⟨RX9, "first", "()I"⟩
abbrev cX9_pricesOf : ByteArray := prog_11_method_84_code
def yX9_pricesOf : MethodName := ⟨RX9, "pricesOf", "(I)I"⟩
abbrev cX9_ownedBy : ByteArray := prog_11_method_85_code
def yX9_ownedBy : MethodName := ⟨RX9, "ownedBy", "(I)I"⟩
abbrev cX9_isBetter : ByteArray := prog_11_method_86_code
def yX9_isBetter : MethodName := ⟨RX9, "isBetter", "(II)Z"⟩
abbrev cX9_buy : ByteArray := prog_11_method_87_code
def yX9_buy : MethodName := ⟨RX9, "buy", "(III)I"⟩
abbrev cX9_borrow : ByteArray := prog_11_method_88_code
def yX9_borrow : MethodName := ⟨RX9, "borrow", "(III)I"⟩
abbrev cX9_taught : ByteArray := prog_11_method_89_code
def yX9_taught : MethodName := ⟨RX9, "taught", "(IIII)I"⟩
abbrev cX9_leastIn : ByteArray := prog_11_method_90_code
def yX9_leastIn : MethodName := ⟨RX9, "leastIn", "(I)I"⟩
abbrev cX9_findMost : ByteArray := prog_11_method_91_code
def yX9_findMost : MethodName := ⟨RX9, "findMost", "()V"⟩
abbrev cX9_partnerFor : ByteArray := prog_11_method_92_code
def yX9_partnerFor : MethodName := ⟨RX9, "partnerFor", "(III)I"⟩
abbrev cX9_findPartners : ByteArray := prog_11_method_93_code
def yX9_findPartners : MethodName := ⟨RX9, "findPartners", "()V"⟩
abbrev cX9_couples : ByteArray := prog_11_method_94_code
def yX9_couples : MethodName := ⟨RX9, "couples", "(I)I"⟩
abbrev cX9_isHeavier : ByteArray := prog_11_method_95_code
def yX9_isHeavier : MethodName := ⟨RX9, "isHeavier", "(IIII)Z"⟩
abbrev cX9_heavierThan : ByteArray := prog_11_method_96_code
def yX9_heavierThan : MethodName := ⟨RX9, "heavierThan", "(III)I"⟩
abbrev cX9_heaviest : ByteArray := prog_11_method_97_code
def yX9_heaviest : MethodName := ⟨RX9, "heaviest", "(III)I"⟩
abbrev cX9_wasSo : ByteArray := prog_11_method_98_code
def yX9_wasSo : MethodName := ⟨RX9, "wasSo", "(II)Z"⟩
abbrev cX9_whatKind : ByteArray := prog_11_method_99_code
def yX9_whatKind : MethodName := ⟨RX9, "whatKind", "(IIII)I"⟩
abbrev cX9_gives : ByteArray := prog_11_method_100_code
def yX9_gives : MethodName := ⟨RX9, "gives", "(I)V"⟩
abbrev cX9_findEnds : ByteArray := prog_11_method_101_code
def yX9_findEnds : MethodName := ⟨RX9, "findEnds", "(III)V"⟩
abbrev cX9_two : ByteArray := prog_11_method_102_code
def yX9_two : MethodName := ⟨RX9, "two", "(III)I"⟩
abbrev cX9_divisor : ByteArray := prog_11_method_103_code
def yX9_divisor : MethodName := ⟨RX9, "divisor", "(JJ)J"⟩
abbrev cX9_partOf : ByteArray := prog_11_method_104_code
def yX9_partOf : MethodName := ⟨RX9, "partOf", "(JJI)J"⟩
abbrev cX9_damp : ByteArray := prog_11_method_105_code
def yX9_damp : MethodName := ⟨RX9, "damp", "(IIIII)J"⟩
abbrev cX9_titles : ByteArray := prog_11_method_106_code
def yX9_titles : MethodName := ⟨RX9, "titles", "(II)I"⟩
abbrev cX9_from : ByteArray := prog_11_method_107_code
def yX9_from : MethodName := ⟨RX9, "from", "(I)I"⟩
abbrev cX9_kindsOn : ByteArray := prog_11_method_108_code
def yX9_kindsOn : MethodName := ⟨RX9, "kindsOn", "(I)I"⟩
abbrev cX9_manyOn : ByteArray := prog_11_method_109_code
def yX9_manyOn : MethodName := ⟨RX9, "manyOn", "(II)I"⟩
abbrev cX9_mostOn : ByteArray := prog_11_method_110_code
def yX9_mostOn : MethodName := ⟨RX9, "mostOn", "(I)I"⟩
abbrev cX9_pricesOn : ByteArray := prog_11_method_111_code
def yX9_pricesOn : MethodName := ⟨RX9, "pricesOn", "(I)I"⟩
abbrev cX9_shelf : ByteArray := prog_11_method_112_code
def yX9_shelf : MethodName := ⟨RX9, "shelf", "(II)I"⟩
abbrev cX9_sizeOf : ByteArray := prog_11_method_113_code
def yX9_sizeOf : MethodName := ⟨RX9, "sizeOf", "(I)I"⟩
abbrev cX9_closest : ByteArray := prog_11_method_114_code
def yX9_closest : MethodName := ⟨RX9, "closest", "()I"⟩
abbrev cX9_poor : ByteArray := prog_11_method_115_code
def yX9_poor : MethodName := ⟨RX9, "poor", "()I"⟩
abbrev cX9_unread : ByteArray := prog_11_method_116_code
def yX9_unread : MethodName := ⟨RX9, "unread", "()I"⟩
abbrev cX9_lent : ByteArray := prog_11_method_117_code
def yX9_lent : MethodName := ⟨RX9, "lent", "()I"⟩
abbrev cX9_sight : ByteArray := prog_11_method_118_code
def yX9_sight : MethodName := ⟨RX9, "sight", "(I)I"⟩
abbrev cX9_share : ByteArray := prog_11_method_119_code
def yX9_share : MethodName := ⟨RX9, "share", "(II)J"⟩
abbrev cX9_byHeart : ByteArray := prog_11_method_120_code
def yX9_byHeart : MethodName := ⟨RX9, "byHeart", "(II)I"⟩
abbrev cX9_kinds : ByteArray := prog_11_method_121_code
def yX9_kinds : MethodName := ⟨RX9, "kinds", "(I)I"⟩
abbrev cX9_row : ByteArray := prog_11_method_122_code
def yX9_row : MethodName := ⟨RX9, "row", "(I)I"⟩
abbrev cX9_judge : ByteArray := prog_11_method_123_code
def yX9_judge : MethodName := ⟨RX9, "judge", "()I"⟩
abbrev cX9_clear : ByteArray := prog_11_method_124_code
def yX9_clear : MethodName := ⟨RX9, "clear", "()I"⟩
abbrev cX9_draw : ByteArray := prog_11_method_125_code
def yX9_draw : MethodName := ⟨RX9, "draw", "(I)I"⟩
abbrev cX9_allRead : ByteArray := prog_11_method_126_code
def yX9_allRead : MethodName := ⟨RX9, "allRead", "()I"⟩
abbrev cX9_manyDown : ByteArray := prog_11_method_127_code
def yX9_manyDown : MethodName := ⟨RX9, "manyDown", "()I"⟩
abbrev cX9_lots : ByteArray := prog_11_method_128_code
def yX9_lots : MethodName := ⟨RX9, "lots", "(III)I"⟩
abbrev cX9_count : ByteArray := prog_11_method_129_code
def yX9_count : MethodName := ⟨RX9, "count", "(I)I"⟩
abbrev cX9_allWeights : ByteArray := prog_11_method_130_code
def yX9_allWeights : MethodName := ⟨RX9, "allWeights", "()I"⟩
def RJ6 : String := "java/lang/Integer"
abbrev cJ6_bitCount_0f7a4 : ByteArray := prog_12_method_49_code
def yJ6_bitCount_0f7a4 : MethodName := ⟨RJ6, "bitCount", "(I)I"⟩
def RL : String := "WeighedInBooksLaw"
abbrev cL_law : ByteArray := code
def yL_law : MethodName := ⟨RL, "law", "([I)Z"⟩
def jm_off : Nat := 81
