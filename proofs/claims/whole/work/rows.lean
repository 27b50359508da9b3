section
-- ===== PART A: goes FIRST, ahead of the names: the tables' words, and 'selects' of the private methods out of them =====
/-- a private method of a class that the tables say can be made, by its rows of tables_1 -/
def lw_okq (q : MethodName × Nat) : Prop := (q.1.cls ≠ "java/lang/invoke/MethodHandle" ∧ q.1.cls ≠ "java/lang/invoke/VarHandle") ∧ Cond.instantiable q.1.cls q.2 ∈ tables_1 ∧ Cond.privateMethod q.1 ∈ tables_1 ∧ Cond.instanceMethod q.1 ∈ tables_1
theorem lw_p0 : lw_okq (⟨"WeighedInBooks", "refuse", "(I)I"⟩, 12) := ⟨⟨by decide +kernel, by decide +kernel⟩, List.mem_of_getElem? (i := 15) (by decide +kernel), List.mem_of_getElem? (i := 263) (by decide +kernel), List.mem_of_getElem? (i := 264) (by decide +kernel)⟩
theorem lw_p1 : lw_okq (⟨"WeighedInBooks", "areTwo", "(II)Z"⟩, 12) := ⟨⟨by decide +kernel, by decide +kernel⟩, List.mem_of_getElem? (i := 15) (by decide +kernel), List.mem_of_getElem? (i := 534) (by decide +kernel), List.mem_of_getElem? (i := 535) (by decide +kernel)⟩
theorem lw_p2 : lw_okq (⟨"WeighedInBooks", "isNeither", "(I)Z"⟩, 12) := ⟨⟨by decide +kernel, by decide +kernel⟩, List.mem_of_getElem? (i := 15) (by decide +kernel), List.mem_of_getElem? (i := 565) (by decide +kernel), List.mem_of_getElem? (i := 566) (by decide +kernel)⟩
theorem lw_p3 : lw_okq (⟨"WeighedInBooks", "orderPan", "(II)I"⟩, 12) := ⟨⟨by decide +kernel, by decide +kernel⟩, List.mem_of_getElem? (i := 15) (by decide +kernel), List.mem_of_getElem? (i := 628) (by decide +kernel), List.mem_of_getElem? (i := 629) (by decide +kernel)⟩
theorem lw_p4 : lw_okq (⟨"WeighedInBooks", "isHeavier", "(IIII)Z"⟩, 12) := ⟨⟨by decide +kernel, by decide +kernel⟩, List.mem_of_getElem? (i := 15) (by decide +kernel), List.mem_of_getElem? (i := 633) (by decide +kernel), List.mem_of_getElem? (i := 634) (by decide +kernel)⟩
theorem lw_p5 : lw_okq (⟨"WeighedInBooksModel", "no", "(I)I"⟩, 44) := ⟨⟨by decide +kernel, by decide +kernel⟩, List.mem_of_getElem? (i := 872) (by decide +kernel), List.mem_of_getElem? (i := 1018) (by decide +kernel), List.mem_of_getElem? (i := 1019) (by decide +kernel)⟩
theorem lw_p6 : lw_okq (⟨"WeighedInBooksModel", "statement", "()Z"⟩, 44) := ⟨⟨by decide +kernel, by decide +kernel⟩, List.mem_of_getElem? (i := 872) (by decide +kernel), List.mem_of_getElem? (i := 1026) (by decide +kernel), List.mem_of_getElem? (i := 1027) (by decide +kernel)⟩
theorem lw_p7 : lw_okq (⟨"WeighedInBooksModel", "sign", "()I"⟩, 44) := ⟨⟨by decide +kernel, by decide +kernel⟩, List.mem_of_getElem? (i := 872) (by decide +kernel), List.mem_of_getElem? (i := 1030) (by decide +kernel), List.mem_of_getElem? (i := 1031) (by decide +kernel)⟩
theorem lw_p8 : lw_okq (⟨"WeighedInBooksModel", "readsAll", "(I)Z"⟩, 44) := ⟨⟨by decide +kernel, by decide +kernel⟩, List.mem_of_getElem? (i := 872) (by decide +kernel), List.mem_of_getElem? (i := 1034) (by decide +kernel), List.mem_of_getElem? (i := 1035) (by decide +kernel)⟩
theorem lw_p9 : lw_okq (⟨"WeighedInBooksModel", "readsDigits", "(I)Z"⟩, 44) := ⟨⟨by decide +kernel, by decide +kernel⟩, List.mem_of_getElem? (i := 872) (by decide +kernel), List.mem_of_getElem? (i := 1038) (by decide +kernel), List.mem_of_getElem? (i := 1039) (by decide +kernel)⟩
theorem lw_p10 : lw_okq (⟨"WeighedInBooksModel", "number", "(I)I"⟩, 44) := ⟨⟨by decide +kernel, by decide +kernel⟩, List.mem_of_getElem? (i := 872) (by decide +kernel), List.mem_of_getElem? (i := 1042) (by decide +kernel), List.mem_of_getElem? (i := 1043) (by decide +kernel)⟩
theorem lw_p11 : lw_okq (⟨"WeighedInBooksModel", "readsTitle", "()Z"⟩, 44) := ⟨⟨by decide +kernel, by decide +kernel⟩, List.mem_of_getElem? (i := 872) (by decide +kernel), List.mem_of_getElem? (i := 1049) (by decide +kernel), List.mem_of_getElem? (i := 1050) (by decide +kernel)⟩
theorem lw_p12 : lw_okq (⟨"WeighedInBooksModel", "readsSteps", "()Z"⟩, 44) := ⟨⟨by decide +kernel, by decide +kernel⟩, List.mem_of_getElem? (i := 872) (by decide +kernel), List.mem_of_getElem? (i := 1053) (by decide +kernel), List.mem_of_getElem? (i := 1054) (by decide +kernel)⟩
theorem lw_p13 : lw_okq (⟨"WeighedInBooksModel", "passesAll", "(IZ)V"⟩, 44) := ⟨⟨by decide +kernel, by decide +kernel⟩, List.mem_of_getElem? (i := 872) (by decide +kernel), List.mem_of_getElem? (i := 1060) (by decide +kernel), List.mem_of_getElem? (i := 1061) (by decide +kernel)⟩
theorem lw_p14 : lw_okq (⟨"WeighedInBooksModel", "passes", "([I)V"⟩, 44) := ⟨⟨by decide +kernel, by decide +kernel⟩, List.mem_of_getElem? (i := 872) (by decide +kernel), List.mem_of_getElem? (i := 1064) (by decide +kernel), List.mem_of_getElem? (i := 1065) (by decide +kernel)⟩
theorem lw_p15 : lw_okq (⟨"WeighedInBooksModel", "passOne", "(I)I"⟩, 44) := ⟨⟨by decide +kernel, by decide +kernel⟩, List.mem_of_getElem? (i := 872) (by decide +kernel), List.mem_of_getElem? (i := 1068) (by decide +kernel), List.mem_of_getElem? (i := 1069) (by decide +kernel)⟩
def lw_privs_1 : List (MethodName × Nat) := [(⟨"WeighedInBooks", "refuse", "(I)I"⟩, 12), (⟨"WeighedInBooks", "areTwo", "(II)Z"⟩, 12), (⟨"WeighedInBooks", "isNeither", "(I)Z"⟩, 12), (⟨"WeighedInBooks", "orderPan", "(II)I"⟩, 12), (⟨"WeighedInBooks", "isHeavier", "(IIII)Z"⟩, 12), (⟨"WeighedInBooksModel", "no", "(I)I"⟩, 44), (⟨"WeighedInBooksModel", "statement", "()Z"⟩, 44), (⟨"WeighedInBooksModel", "sign", "()I"⟩, 44), (⟨"WeighedInBooksModel", "readsAll", "(I)Z"⟩, 44), (⟨"WeighedInBooksModel", "readsDigits", "(I)Z"⟩, 44), (⟨"WeighedInBooksModel", "number", "(I)I"⟩, 44), (⟨"WeighedInBooksModel", "readsTitle", "()Z"⟩, 44), (⟨"WeighedInBooksModel", "readsSteps", "()Z"⟩, 44), (⟨"WeighedInBooksModel", "passesAll", "(IZ)V"⟩, 44), (⟨"WeighedInBooksModel", "passes", "([I)V"⟩, 44), (⟨"WeighedInBooksModel", "passOne", "(I)I"⟩, 44)]
theorem lw_r1 : ∀ q ∈ lw_privs_1, lw_okq q := List.forall_mem_cons.mpr ⟨lw_p0, List.forall_mem_cons.mpr ⟨lw_p1, List.forall_mem_cons.mpr ⟨lw_p2, List.forall_mem_cons.mpr ⟨lw_p3, List.forall_mem_cons.mpr ⟨lw_p4, List.forall_mem_cons.mpr ⟨lw_p5, List.forall_mem_cons.mpr ⟨lw_p6, List.forall_mem_cons.mpr ⟨lw_p7, List.forall_mem_cons.mpr ⟨lw_p8, List.forall_mem_cons.mpr ⟨lw_p9, List.forall_mem_cons.mpr ⟨lw_p10, List.forall_mem_cons.mpr ⟨lw_p11, List.forall_mem_cons.mpr ⟨lw_p12, List.forall_mem_cons.mpr ⟨lw_p13, List.forall_mem_cons.mpr ⟨lw_p14, List.forall_mem_cons.mpr ⟨lw_p15, fun _ h => absurd h List.not_mem_nil⟩⟩⟩⟩⟩⟩⟩⟩⟩⟩⟩⟩⟩⟩⟩⟩
theorem lw_p16 : lw_okq (⟨"WeighedInBooksModel", "comesTold", "(I)Z"⟩, 44) := ⟨⟨by decide +kernel, by decide +kernel⟩, List.mem_of_getElem? (i := 872) (by decide +kernel), List.mem_of_getElem? (i := 1072) (by decide +kernel), List.mem_of_getElem? (i := 1073) (by decide +kernel)⟩
theorem lw_p17 : lw_okq (⟨"WeighedInBooksModel", "comesPerson", "(I)Z"⟩, 44) := ⟨⟨by decide +kernel, by decide +kernel⟩, List.mem_of_getElem? (i := 872) (by decide +kernel), List.mem_of_getElem? (i := 1076) (by decide +kernel), List.mem_of_getElem? (i := 1077) (by decide +kernel)⟩
theorem lw_p18 : lw_okq (⟨"WeighedInBooksModel", "isMore", "(III)V"⟩, 44) := ⟨⟨by decide +kernel, by decide +kernel⟩, List.mem_of_getElem? (i := 872) (by decide +kernel), List.mem_of_getElem? (i := 1080) (by decide +kernel), List.mem_of_getElem? (i := 1081) (by decide +kernel)⟩
theorem lw_p19 : lw_okq (⟨"WeighedInBooksModel", "comesBook", "(II)Z"⟩, 44) := ⟨⟨by decide +kernel, by decide +kernel⟩, List.mem_of_getElem? (i := 872) (by decide +kernel), List.mem_of_getElem? (i := 1084) (by decide +kernel), List.mem_of_getElem? (i := 1085) (by decide +kernel)⟩
theorem lw_p20 : lw_okq (⟨"WeighedInBooksModel", "isPlace", "(I)Z"⟩, 44) := ⟨⟨by decide +kernel, by decide +kernel⟩, List.mem_of_getElem? (i := 872) (by decide +kernel), List.mem_of_getElem? (i := 1088) (by decide +kernel), List.mem_of_getElem? (i := 1089) (by decide +kernel)⟩
theorem lw_p21 : lw_okq (⟨"WeighedInBooksModel", "isPerson", "(I)Z"⟩, 44) := ⟨⟨by decide +kernel, by decide +kernel⟩, List.mem_of_getElem? (i := 872) (by decide +kernel), List.mem_of_getElem? (i := 1092) (by decide +kernel), List.mem_of_getElem? (i := 1093) (by decide +kernel)⟩
theorem lw_p22 : lw_okq (⟨"WeighedInBooksModel", "titledBy", "(I)I"⟩, 44) := ⟨⟨by decide +kernel, by decide +kernel⟩, List.mem_of_getElem? (i := 872) (by decide +kernel), List.mem_of_getElem? (i := 1096) (by decide +kernel), List.mem_of_getElem? (i := 1097) (by decide +kernel)⟩
theorem lw_p23 : lw_okq (⟨"WeighedInBooksModel", "isTitled", "(III)Z"⟩, 44) := ⟨⟨by decide +kernel, by decide +kernel⟩, List.mem_of_getElem? (i := 872) (by decide +kernel), List.mem_of_getElem? (i := 1100) (by decide +kernel), List.mem_of_getElem? (i := 1101) (by decide +kernel)⟩
theorem lw_p24 : lw_okq (⟨"WeighedInBooksModel", "isBrought", "(III)V"⟩, 44) := ⟨⟨by decide +kernel, by decide +kernel⟩, List.mem_of_getElem? (i := 872) (by decide +kernel), List.mem_of_getElem? (i := 1104) (by decide +kernel), List.mem_of_getElem? (i := 1105) (by decide +kernel)⟩
theorem lw_p25 : lw_okq (⟨"WeighedInBooksModel", "isTitledMore", "(I)V"⟩, 44) := ⟨⟨by decide +kernel, by decide +kernel⟩, List.mem_of_getElem? (i := 872) (by decide +kernel), List.mem_of_getElem? (i := 1108) (by decide +kernel), List.mem_of_getElem? (i := 1109) (by decide +kernel)⟩
theorem lw_p26 : lw_okq (⟨"WeighedInBooksModel", "comesReading", "(II)Z"⟩, 44) := ⟨⟨by decide +kernel, by decide +kernel⟩, List.mem_of_getElem? (i := 872) (by decide +kernel), List.mem_of_getElem? (i := 1112) (by decide +kernel), List.mem_of_getElem? (i := 1113) (by decide +kernel)⟩
theorem lw_p27 : lw_okq (⟨"WeighedInBooksModel", "comesHolding", "(II)Z"⟩, 44) := ⟨⟨by decide +kernel, by decide +kernel⟩, List.mem_of_getElem? (i := 872) (by decide +kernel), List.mem_of_getElem? (i := 1116) (by decide +kernel), List.mem_of_getElem? (i := 1117) (by decide +kernel)⟩
theorem lw_p28 : lw_okq (⟨"WeighedInBooksModel", "comesLaw", "(I)Z"⟩, 44) := ⟨⟨by decide +kernel, by decide +kernel⟩, List.mem_of_getElem? (i := 872) (by decide +kernel), List.mem_of_getElem? (i := 1120) (by decide +kernel), List.mem_of_getElem? (i := 1121) (by decide +kernel)⟩
theorem lw_p29 : lw_okq (⟨"WeighedInBooksModel", "comesWeeks", "(I)Z"⟩, 44) := ⟨⟨by decide +kernel, by decide +kernel⟩, List.mem_of_getElem? (i := 872) (by decide +kernel), List.mem_of_getElem? (i := 1124) (by decide +kernel), List.mem_of_getElem? (i := 1125) (by decide +kernel)⟩
theorem lw_p30 : lw_okq (⟨"WeighedInBooksModel", "goes", "(I)V"⟩, 44) := ⟨⟨by decide +kernel, by decide +kernel⟩, List.mem_of_getElem? (i := 872) (by decide +kernel), List.mem_of_getElem? (i := 1128) (by decide +kernel), List.mem_of_getElem? (i := 1129) (by decide +kernel)⟩
theorem lw_p31 : lw_okq (⟨"WeighedInBooksModel", "goesWeek", "()V"⟩, 44) := ⟨⟨by decide +kernel, by decide +kernel⟩, List.mem_of_getElem? (i := 872) (by decide +kernel), List.mem_of_getElem? (i := 1132) (by decide +kernel), List.mem_of_getElem? (i := 1133) (by decide +kernel)⟩
def lw_privs_2 : List (MethodName × Nat) := [(⟨"WeighedInBooksModel", "comesTold", "(I)Z"⟩, 44), (⟨"WeighedInBooksModel", "comesPerson", "(I)Z"⟩, 44), (⟨"WeighedInBooksModel", "isMore", "(III)V"⟩, 44), (⟨"WeighedInBooksModel", "comesBook", "(II)Z"⟩, 44), (⟨"WeighedInBooksModel", "isPlace", "(I)Z"⟩, 44), (⟨"WeighedInBooksModel", "isPerson", "(I)Z"⟩, 44), (⟨"WeighedInBooksModel", "titledBy", "(I)I"⟩, 44), (⟨"WeighedInBooksModel", "isTitled", "(III)Z"⟩, 44), (⟨"WeighedInBooksModel", "isBrought", "(III)V"⟩, 44), (⟨"WeighedInBooksModel", "isTitledMore", "(I)V"⟩, 44), (⟨"WeighedInBooksModel", "comesReading", "(II)Z"⟩, 44), (⟨"WeighedInBooksModel", "comesHolding", "(II)Z"⟩, 44), (⟨"WeighedInBooksModel", "comesLaw", "(I)Z"⟩, 44), (⟨"WeighedInBooksModel", "comesWeeks", "(I)Z"⟩, 44), (⟨"WeighedInBooksModel", "goes", "(I)V"⟩, 44), (⟨"WeighedInBooksModel", "goesWeek", "()V"⟩, 44)]
theorem lw_r2 : ∀ q ∈ lw_privs_2, lw_okq q := List.forall_mem_cons.mpr ⟨lw_p16, List.forall_mem_cons.mpr ⟨lw_p17, List.forall_mem_cons.mpr ⟨lw_p18, List.forall_mem_cons.mpr ⟨lw_p19, List.forall_mem_cons.mpr ⟨lw_p20, List.forall_mem_cons.mpr ⟨lw_p21, List.forall_mem_cons.mpr ⟨lw_p22, List.forall_mem_cons.mpr ⟨lw_p23, List.forall_mem_cons.mpr ⟨lw_p24, List.forall_mem_cons.mpr ⟨lw_p25, List.forall_mem_cons.mpr ⟨lw_p26, List.forall_mem_cons.mpr ⟨lw_p27, List.forall_mem_cons.mpr ⟨lw_p28, List.forall_mem_cons.mpr ⟨lw_p29, List.forall_mem_cons.mpr ⟨lw_p30, List.forall_mem_cons.mpr ⟨lw_p31, fun _ h => absurd h List.not_mem_nil⟩⟩⟩⟩⟩⟩⟩⟩⟩⟩⟩⟩⟩⟩⟩⟩
theorem lw_p32 : lw_okq (⟨"WeighedInBooksModel", "goesPerson", "(I)V"⟩, 44) := ⟨⟨by decide +kernel, by decide +kernel⟩, List.mem_of_getElem? (i := 872) (by decide +kernel), List.mem_of_getElem? (i := 1136) (by decide +kernel), List.mem_of_getElem? (i := 1137) (by decide +kernel)⟩
theorem lw_p33 : lw_okq (⟨"WeighedInBooksModel", "toRead", "(I)I"⟩, 44) := ⟨⟨by decide +kernel, by decide +kernel⟩, List.mem_of_getElem? (i := 872) (by decide +kernel), List.mem_of_getElem? (i := 1140) (by decide +kernel), List.mem_of_getElem? (i := 1141) (by decide +kernel)⟩
theorem lw_p34 : lw_okq (⟨"WeighedInBooksModel", "compares", "(II)I"⟩, 44) := ⟨⟨by decide +kernel, by decide +kernel⟩, List.mem_of_getElem? (i := 872) (by decide +kernel), List.mem_of_getElem? (i := 1147) (by decide +kernel), List.mem_of_getElem? (i := 1148) (by decide +kernel)⟩
theorem lw_p35 : lw_okq (⟨"WeighedInBooksModel", "manyRead", "(I)I"⟩, 44) := ⟨⟨by decide +kernel, by decide +kernel⟩, List.mem_of_getElem? (i := 872) (by decide +kernel), List.mem_of_getElem? (i := 1167) (by decide +kernel), List.mem_of_getElem? (i := 1168) (by decide +kernel)⟩
theorem lw_p36 : lw_okq (⟨"WeighedInBooksModel", "isBook", "(I)Z"⟩, 44) := ⟨⟨by decide +kernel, by decide +kernel⟩, List.mem_of_getElem? (i := 872) (by decide +kernel), List.mem_of_getElem? (i := 1178) (by decide +kernel), List.mem_of_getElem? (i := 1179) (by decide +kernel)⟩
theorem lw_p37 : lw_okq (⟨"WeighedInBooksModel", "weighs", "(I)I"⟩, 44) := ⟨⟨by decide +kernel, by decide +kernel⟩, List.mem_of_getElem? (i := 872) (by decide +kernel), List.mem_of_getElem? (i := 1182) (by decide +kernel), List.mem_of_getElem? (i := 1183) (by decide +kernel)⟩
theorem lw_p38 : lw_okq (⟨"WeighedInBooksModel", "asNovel", "(I)I"⟩, 44) := ⟨⟨by decide +kernel, by decide +kernel⟩, List.mem_of_getElem? (i := 872) (by decide +kernel), List.mem_of_getElem? (i := 1189) (by decide +kernel), List.mem_of_getElem? (i := 1190) (by decide +kernel)⟩
theorem lw_p39 : lw_okq (⟨"WeighedInBooksModel", "price", "(I)I"⟩, 44) := ⟨⟨by decide +kernel, by decide +kernel⟩, List.mem_of_getElem? (i := 872) (by decide +kernel), List.mem_of_getElem? (i := 1193) (by decide +kernel), List.mem_of_getElem? (i := 1194) (by decide +kernel)⟩
theorem lw_p40 : lw_okq (⟨"WeighedInBooksModel", "isLetterTitle", "(I)Z"⟩, 44) := ⟨⟨by decide +kernel, by decide +kernel⟩, List.mem_of_getElem? (i := 872) (by decide +kernel), List.mem_of_getElem? (i := 1209) (by decide +kernel), List.mem_of_getElem? (i := 1210) (by decide +kernel)⟩
theorem lw_p41 : lw_okq (⟨"WeighedInBooksModel", "remembers", "()V"⟩, 44) := ⟨⟨by decide +kernel, by decide +kernel⟩, List.mem_of_getElem? (i := 872) (by decide +kernel), List.mem_of_getElem? (i := 1217) (by decide +kernel), List.mem_of_getElem? (i := 1218) (by decide +kernel)⟩
theorem lw_p42 : lw_okq (⟨"WeighedInBooksModel", "areTwo", "(II)Z"⟩, 44) := ⟨⟨by decide +kernel, by decide +kernel⟩, List.mem_of_getElem? (i := 872) (by decide +kernel), List.mem_of_getElem? (i := 1249) (by decide +kernel), List.mem_of_getElem? (i := 1250) (by decide +kernel)⟩
theorem lw_p43 : lw_okq (⟨"WeighedInBooksModel", "overNow", "(II)I"⟩, 44) := ⟨⟨by decide +kernel, by decide +kernel⟩, List.mem_of_getElem? (i := 872) (by decide +kernel), List.mem_of_getElem? (i := 1253) (by decide +kernel), List.mem_of_getElem? (i := 1254) (by decide +kernel)⟩
theorem lw_p44 : lw_okq (⟨"WeighedInBooksModel", "overWith", "(III)I"⟩, 44) := ⟨⟨by decide +kernel, by decide +kernel⟩, List.mem_of_getElem? (i := 872) (by decide +kernel), List.mem_of_getElem? (i := 1257) (by decide +kernel), List.mem_of_getElem? (i := 1258) (by decide +kernel)⟩
theorem lw_p45 : lw_okq (⟨"WeighedInBooksModel", "isHeld", "(III)Z"⟩, 44) := ⟨⟨by decide +kernel, by decide +kernel⟩, List.mem_of_getElem? (i := 872) (by decide +kernel), List.mem_of_getElem? (i := 1261) (by decide +kernel), List.mem_of_getElem? (i := 1262) (by decide +kernel)⟩
theorem lw_p46 : lw_okq (⟨"WeighedInBooksModel", "comesTo", "(III)I"⟩, 44) := ⟨⟨by decide +kernel, by decide +kernel⟩, List.mem_of_getElem? (i := 872) (by decide +kernel), List.mem_of_getElem? (i := 1265) (by decide +kernel), List.mem_of_getElem? (i := 1266) (by decide +kernel)⟩
theorem lw_p47 : lw_okq (⟨"WeighedInBooksModel", "byStep", "(III)I"⟩, 44) := ⟨⟨by decide +kernel, by decide +kernel⟩, List.mem_of_getElem? (i := 872) (by decide +kernel), List.mem_of_getElem? (i := 1269) (by decide +kernel), List.mem_of_getElem? (i := 1270) (by decide +kernel)⟩
def lw_privs_3 : List (MethodName × Nat) := [(⟨"WeighedInBooksModel", "goesPerson", "(I)V"⟩, 44), (⟨"WeighedInBooksModel", "toRead", "(I)I"⟩, 44), (⟨"WeighedInBooksModel", "compares", "(II)I"⟩, 44), (⟨"WeighedInBooksModel", "manyRead", "(I)I"⟩, 44), (⟨"WeighedInBooksModel", "isBook", "(I)Z"⟩, 44), (⟨"WeighedInBooksModel", "weighs", "(I)I"⟩, 44), (⟨"WeighedInBooksModel", "asNovel", "(I)I"⟩, 44), (⟨"WeighedInBooksModel", "price", "(I)I"⟩, 44), (⟨"WeighedInBooksModel", "isLetterTitle", "(I)Z"⟩, 44), (⟨"WeighedInBooksModel", "remembers", "()V"⟩, 44), (⟨"WeighedInBooksModel", "areTwo", "(II)Z"⟩, 44), (⟨"WeighedInBooksModel", "overNow", "(II)I"⟩, 44), (⟨"WeighedInBooksModel", "overWith", "(III)I"⟩, 44), (⟨"WeighedInBooksModel", "isHeld", "(III)Z"⟩, 44), (⟨"WeighedInBooksModel", "comesTo", "(III)I"⟩, 44), (⟨"WeighedInBooksModel", "byStep", "(III)I"⟩, 44)]
theorem lw_r3 : ∀ q ∈ lw_privs_3, lw_okq q := List.forall_mem_cons.mpr ⟨lw_p32, List.forall_mem_cons.mpr ⟨lw_p33, List.forall_mem_cons.mpr ⟨lw_p34, List.forall_mem_cons.mpr ⟨lw_p35, List.forall_mem_cons.mpr ⟨lw_p36, List.forall_mem_cons.mpr ⟨lw_p37, List.forall_mem_cons.mpr ⟨lw_p38, List.forall_mem_cons.mpr ⟨lw_p39, List.forall_mem_cons.mpr ⟨lw_p40, List.forall_mem_cons.mpr ⟨lw_p41, List.forall_mem_cons.mpr ⟨lw_p42, List.forall_mem_cons.mpr ⟨lw_p43, List.forall_mem_cons.mpr ⟨lw_p44, List.forall_mem_cons.mpr ⟨lw_p45, List.forall_mem_cons.mpr ⟨lw_p46, List.forall_mem_cons.mpr ⟨lw_p47, fun _ h => absurd h List.not_mem_nil⟩⟩⟩⟩⟩⟩⟩⟩⟩⟩⟩⟩⟩⟩⟩⟩
theorem lw_p48 : lw_okq (⟨"WeighedInBooksModel", "lower", "(I)I"⟩, 44) := ⟨⟨by decide +kernel, by decide +kernel⟩, List.mem_of_getElem? (i := 872) (by decide +kernel), List.mem_of_getElem? (i := 1273) (by decide +kernel), List.mem_of_getElem? (i := 1274) (by decide +kernel)⟩
theorem lw_p49 : lw_okq (⟨"WeighedInBooksModel", "minds", "()V"⟩, 44) := ⟨⟨by decide +kernel, by decide +kernel⟩, List.mem_of_getElem? (i := 872) (by decide +kernel), List.mem_of_getElem? (i := 1286) (by decide +kernel), List.mem_of_getElem? (i := 1287) (by decide +kernel)⟩
theorem lw_p50 : lw_okq (⟨"WeighedInBooksModel", "forgets", "()V"⟩, 44) := ⟨⟨by decide +kernel, by decide +kernel⟩, List.mem_of_getElem? (i := 872) (by decide +kernel), List.mem_of_getElem? (i := 1290) (by decide +kernel), List.mem_of_getElem? (i := 1291) (by decide +kernel)⟩
theorem lw_p51 : lw_okq (⟨"WeighedInBooksModel", "whenFrom", "(II)I"⟩, 44) := ⟨⟨by decide +kernel, by decide +kernel⟩, List.mem_of_getElem? (i := 872) (by decide +kernel), List.mem_of_getElem? (i := 1302) (by decide +kernel), List.mem_of_getElem? (i := 1303) (by decide +kernel)⟩
theorem lw_p52 : lw_okq (⟨"WeighedInBooksModel", "comesDown", "(II)Z"⟩, 44) := ⟨⟨by decide +kernel, by decide +kernel⟩, List.mem_of_getElem? (i := 872) (by decide +kernel), List.mem_of_getElem? (i := 1306) (by decide +kernel), List.mem_of_getElem? (i := 1307) (by decide +kernel)⟩
theorem lw_p53 : lw_okq (⟨"WeighedInBooksModel", "marksDown", "()V"⟩, 44) := ⟨⟨by decide +kernel, by decide +kernel⟩, List.mem_of_getElem? (i := 872) (by decide +kernel), List.mem_of_getElem? (i := 1314) (by decide +kernel), List.mem_of_getElem? (i := 1315) (by decide +kernel)⟩
theorem lw_p54 : lw_okq (⟨"WeighedInBooksModel", "firstDown", "()I"⟩, 44) := ⟨⟨by decide +kernel, by decide +kernel⟩, List.mem_of_getElem? (i := 872) (by decide +kernel), List.mem_of_getElem? (i := 1318) (by decide +kernel), List.mem_of_getElem? (i := 1319) (by decide +kernel)⟩
theorem lw_p55 : lw_okq (⟨"WeighedInBooksModel", "ownedBy", "(I)I"⟩, 44) := ⟨⟨by decide +kernel, by decide +kernel⟩, List.mem_of_getElem? (i := 872) (by decide +kernel), List.mem_of_getElem? (i := 1326) (by decide +kernel), List.mem_of_getElem? (i := 1327) (by decide +kernel)⟩
theorem lw_p56 : lw_okq (⟨"WeighedInBooksModel", "isBetter", "(II)Z"⟩, 44) := ⟨⟨by decide +kernel, by decide +kernel⟩, List.mem_of_getElem? (i := 872) (by decide +kernel), List.mem_of_getElem? (i := 1330) (by decide +kernel), List.mem_of_getElem? (i := 1331) (by decide +kernel)⟩
theorem lw_p57 : lw_okq (⟨"WeighedInBooksModel", "pricesOf", "(I)I"⟩, 44) := ⟨⟨by decide +kernel, by decide +kernel⟩, List.mem_of_getElem? (i := 872) (by decide +kernel), List.mem_of_getElem? (i := 1334) (by decide +kernel), List.mem_of_getElem? (i := 1335) (by decide +kernel)⟩
theorem lw_p58 : lw_okq (⟨"WeighedInBooksModel", "findMost", "()V"⟩, 44) := ⟨⟨by decide +kernel, by decide +kernel⟩, List.mem_of_getElem? (i := 872) (by decide +kernel), List.mem_of_getElem? (i := 1350) (by decide +kernel), List.mem_of_getElem? (i := 1351) (by decide +kernel)⟩
theorem lw_p59 : lw_okq (⟨"WeighedInBooksModel", "findPartners", "()V"⟩, 44) := ⟨⟨by decide +kernel, by decide +kernel⟩, List.mem_of_getElem? (i := 872) (by decide +kernel), List.mem_of_getElem? (i := 1357) (by decide +kernel), List.mem_of_getElem? (i := 1358) (by decide +kernel)⟩
theorem lw_p60 : lw_okq (⟨"WeighedInBooksModel", "partnerFor", "(III)I"⟩, 44) := ⟨⟨by decide +kernel, by decide +kernel⟩, List.mem_of_getElem? (i := 872) (by decide +kernel), List.mem_of_getElem? (i := 1361) (by decide +kernel), List.mem_of_getElem? (i := 1362) (by decide +kernel)⟩
theorem lw_p61 : lw_okq (⟨"WeighedInBooksModel", "heavierThan", "(III)I"⟩, 44) := ⟨⟨by decide +kernel, by decide +kernel⟩, List.mem_of_getElem? (i := 872) (by decide +kernel), List.mem_of_getElem? (i := 1369) (by decide +kernel), List.mem_of_getElem? (i := 1370) (by decide +kernel)⟩
theorem lw_p62 : lw_okq (⟨"WeighedInBooksModel", "isHeavier", "(IIII)Z"⟩, 44) := ⟨⟨by decide +kernel, by decide +kernel⟩, List.mem_of_getElem? (i := 872) (by decide +kernel), List.mem_of_getElem? (i := 1373) (by decide +kernel), List.mem_of_getElem? (i := 1374) (by decide +kernel)⟩
theorem lw_p63 : lw_okq (⟨"WeighedInBooksModel", "wasSo", "(II)Z"⟩, 44) := ⟨⟨by decide +kernel, by decide +kernel⟩, List.mem_of_getElem? (i := 872) (by decide +kernel), List.mem_of_getElem? (i := 1381) (by decide +kernel), List.mem_of_getElem? (i := 1382) (by decide +kernel)⟩
def lw_privs_4 : List (MethodName × Nat) := [(⟨"WeighedInBooksModel", "lower", "(I)I"⟩, 44), (⟨"WeighedInBooksModel", "minds", "()V"⟩, 44), (⟨"WeighedInBooksModel", "forgets", "()V"⟩, 44), (⟨"WeighedInBooksModel", "whenFrom", "(II)I"⟩, 44), (⟨"WeighedInBooksModel", "comesDown", "(II)Z"⟩, 44), (⟨"WeighedInBooksModel", "marksDown", "()V"⟩, 44), (⟨"WeighedInBooksModel", "firstDown", "()I"⟩, 44), (⟨"WeighedInBooksModel", "ownedBy", "(I)I"⟩, 44), (⟨"WeighedInBooksModel", "isBetter", "(II)Z"⟩, 44), (⟨"WeighedInBooksModel", "pricesOf", "(I)I"⟩, 44), (⟨"WeighedInBooksModel", "findMost", "()V"⟩, 44), (⟨"WeighedInBooksModel", "findPartners", "()V"⟩, 44), (⟨"WeighedInBooksModel", "partnerFor", "(III)I"⟩, 44), (⟨"WeighedInBooksModel", "heavierThan", "(III)I"⟩, 44), (⟨"WeighedInBooksModel", "isHeavier", "(IIII)Z"⟩, 44), (⟨"WeighedInBooksModel", "wasSo", "(II)Z"⟩, 44)]
theorem lw_r4 : ∀ q ∈ lw_privs_4, lw_okq q := List.forall_mem_cons.mpr ⟨lw_p48, List.forall_mem_cons.mpr ⟨lw_p49, List.forall_mem_cons.mpr ⟨lw_p50, List.forall_mem_cons.mpr ⟨lw_p51, List.forall_mem_cons.mpr ⟨lw_p52, List.forall_mem_cons.mpr ⟨lw_p53, List.forall_mem_cons.mpr ⟨lw_p54, List.forall_mem_cons.mpr ⟨lw_p55, List.forall_mem_cons.mpr ⟨lw_p56, List.forall_mem_cons.mpr ⟨lw_p57, List.forall_mem_cons.mpr ⟨lw_p58, List.forall_mem_cons.mpr ⟨lw_p59, List.forall_mem_cons.mpr ⟨lw_p60, List.forall_mem_cons.mpr ⟨lw_p61, List.forall_mem_cons.mpr ⟨lw_p62, List.forall_mem_cons.mpr ⟨lw_p63, fun _ h => absurd h List.not_mem_nil⟩⟩⟩⟩⟩⟩⟩⟩⟩⟩⟩⟩⟩⟩⟩⟩
theorem lw_p64 : lw_okq (⟨"WeighedInBooksModel", "findEnds", "(III)V"⟩, 44) := ⟨⟨by decide +kernel, by decide +kernel⟩, List.mem_of_getElem? (i := 872) (by decide +kernel), List.mem_of_getElem? (i := 1389) (by decide +kernel), List.mem_of_getElem? (i := 1390) (by decide +kernel)⟩
theorem lw_p65 : lw_okq (⟨"WeighedInBooksModel", "gives", "(I)V"⟩, 44) := ⟨⟨by decide +kernel, by decide +kernel⟩, List.mem_of_getElem? (i := 872) (by decide +kernel), List.mem_of_getElem? (i := 1393) (by decide +kernel), List.mem_of_getElem? (i := 1394) (by decide +kernel)⟩
theorem lw_p66 : lw_okq (⟨"WeighedInBooksModel", "lowestOf", "(I)J"⟩, 44) := ⟨⟨by decide +kernel, by decide +kernel⟩, List.mem_of_getElem? (i := 872) (by decide +kernel), List.mem_of_getElem? (i := 1401) (by decide +kernel), List.mem_of_getElem? (i := 1402) (by decide +kernel)⟩
theorem lw_p67 : lw_okq (⟨"WeighedInBooksModel", "rankOf", "(I)I"⟩, 44) := ⟨⟨by decide +kernel, by decide +kernel⟩, List.mem_of_getElem? (i := 872) (by decide +kernel), List.mem_of_getElem? (i := 1416) (by decide +kernel), List.mem_of_getElem? (i := 1417) (by decide +kernel)⟩
theorem lw_p68 : lw_okq (⟨"WeighedInBooksModel", "ofRank", "(I)I"⟩, 44) := ⟨⟨by decide +kernel, by decide +kernel⟩, List.mem_of_getElem? (i := 872) (by decide +kernel), List.mem_of_getElem? (i := 1420) (by decide +kernel), List.mem_of_getElem? (i := 1421) (by decide +kernel)⟩
theorem lw_p69 : lw_okq (⟨"WeighedInBooksModel", "kindsOn", "(I)I"⟩, 44) := ⟨⟨by decide +kernel, by decide +kernel⟩, List.mem_of_getElem? (i := 872) (by decide +kernel), List.mem_of_getElem? (i := 1432) (by decide +kernel), List.mem_of_getElem? (i := 1433) (by decide +kernel)⟩
theorem lw_p70 : lw_okq (⟨"WeighedInBooksModel", "pricesOn", "(I)I"⟩, 44) := ⟨⟨by decide +kernel, by decide +kernel⟩, List.mem_of_getElem? (i := 872) (by decide +kernel), List.mem_of_getElem? (i := 1436) (by decide +kernel), List.mem_of_getElem? (i := 1437) (by decide +kernel)⟩
theorem lw_p71 : lw_okq (⟨"WeighedInBooksModel", "mostOn", "(I)I"⟩, 44) := ⟨⟨by decide +kernel, by decide +kernel⟩, List.mem_of_getElem? (i := 872) (by decide +kernel), List.mem_of_getElem? (i := 1440) (by decide +kernel), List.mem_of_getElem? (i := 1441) (by decide +kernel)⟩
theorem lw_p72 : lw_okq (⟨"WeighedInBooksModel", "manyOn", "(II)I"⟩, 44) := ⟨⟨by decide +kernel, by decide +kernel⟩, List.mem_of_getElem? (i := 872) (by decide +kernel), List.mem_of_getElem? (i := 1444) (by decide +kernel), List.mem_of_getElem? (i := 1445) (by decide +kernel)⟩
theorem lw_p73 : lw_okq (⟨"WeighedInBooksModel", "closest", "()I"⟩, 44) := ⟨⟨by decide +kernel, by decide +kernel⟩, List.mem_of_getElem? (i := 872) (by decide +kernel), List.mem_of_getElem? (i := 1452) (by decide +kernel), List.mem_of_getElem? (i := 1453) (by decide +kernel)⟩
theorem lw_p74 : lw_okq (⟨"WeighedInBooksModel", "poor", "()I"⟩, 44) := ⟨⟨by decide +kernel, by decide +kernel⟩, List.mem_of_getElem? (i := 872) (by decide +kernel), List.mem_of_getElem? (i := 1459) (by decide +kernel), List.mem_of_getElem? (i := 1460) (by decide +kernel)⟩
theorem lw_p75 : lw_okq (⟨"WeighedInBooksModel", "unread", "()I"⟩, 44) := ⟨⟨by decide +kernel, by decide +kernel⟩, List.mem_of_getElem? (i := 872) (by decide +kernel), List.mem_of_getElem? (i := 1463) (by decide +kernel), List.mem_of_getElem? (i := 1464) (by decide +kernel)⟩
theorem lw_p76 : lw_okq (⟨"WeighedInBooksModel", "lent", "()I"⟩, 44) := ⟨⟨by decide +kernel, by decide +kernel⟩, List.mem_of_getElem? (i := 872) (by decide +kernel), List.mem_of_getElem? (i := 1467) (by decide +kernel), List.mem_of_getElem? (i := 1468) (by decide +kernel)⟩
theorem lw_p77 : lw_okq (⟨"WeighedInBooksModel", "allRead", "()I"⟩, 44) := ⟨⟨by decide +kernel, by decide +kernel⟩, List.mem_of_getElem? (i := 872) (by decide +kernel), List.mem_of_getElem? (i := 1499) (by decide +kernel), List.mem_of_getElem? (i := 1500) (by decide +kernel)⟩
theorem lw_p78 : lw_okq (⟨"WeighedInBooksModel", "draw", "(I)I"⟩, 44) := ⟨⟨by decide +kernel, by decide +kernel⟩, List.mem_of_getElem? (i := 872) (by decide +kernel), List.mem_of_getElem? (i := 1503) (by decide +kernel), List.mem_of_getElem? (i := 1504) (by decide +kernel)⟩
theorem lw_p79 : lw_okq (⟨"WeighedInBooksModel", "manyDown", "()I"⟩, 44) := ⟨⟨by decide +kernel, by decide +kernel⟩, List.mem_of_getElem? (i := 872) (by decide +kernel), List.mem_of_getElem? (i := 1510) (by decide +kernel), List.mem_of_getElem? (i := 1511) (by decide +kernel)⟩
def lw_privs_5 : List (MethodName × Nat) := [(⟨"WeighedInBooksModel", "findEnds", "(III)V"⟩, 44), (⟨"WeighedInBooksModel", "gives", "(I)V"⟩, 44), (⟨"WeighedInBooksModel", "lowestOf", "(I)J"⟩, 44), (⟨"WeighedInBooksModel", "rankOf", "(I)I"⟩, 44), (⟨"WeighedInBooksModel", "ofRank", "(I)I"⟩, 44), (⟨"WeighedInBooksModel", "kindsOn", "(I)I"⟩, 44), (⟨"WeighedInBooksModel", "pricesOn", "(I)I"⟩, 44), (⟨"WeighedInBooksModel", "mostOn", "(I)I"⟩, 44), (⟨"WeighedInBooksModel", "manyOn", "(II)I"⟩, 44), (⟨"WeighedInBooksModel", "closest", "()I"⟩, 44), (⟨"WeighedInBooksModel", "poor", "()I"⟩, 44), (⟨"WeighedInBooksModel", "unread", "()I"⟩, 44), (⟨"WeighedInBooksModel", "lent", "()I"⟩, 44), (⟨"WeighedInBooksModel", "allRead", "()I"⟩, 44), (⟨"WeighedInBooksModel", "draw", "(I)I"⟩, 44), (⟨"WeighedInBooksModel", "manyDown", "()I"⟩, 44)]
theorem lw_r5 : ∀ q ∈ lw_privs_5, lw_okq q := List.forall_mem_cons.mpr ⟨lw_p64, List.forall_mem_cons.mpr ⟨lw_p65, List.forall_mem_cons.mpr ⟨lw_p66, List.forall_mem_cons.mpr ⟨lw_p67, List.forall_mem_cons.mpr ⟨lw_p68, List.forall_mem_cons.mpr ⟨lw_p69, List.forall_mem_cons.mpr ⟨lw_p70, List.forall_mem_cons.mpr ⟨lw_p71, List.forall_mem_cons.mpr ⟨lw_p72, List.forall_mem_cons.mpr ⟨lw_p73, List.forall_mem_cons.mpr ⟨lw_p74, List.forall_mem_cons.mpr ⟨lw_p75, List.forall_mem_cons.mpr ⟨lw_p76, List.forall_mem_cons.mpr ⟨lw_p77, List.forall_mem_cons.mpr ⟨lw_p78, List.forall_mem_cons.mpr ⟨lw_p79, fun _ h => absurd h List.not_mem_nil⟩⟩⟩⟩⟩⟩⟩⟩⟩⟩⟩⟩⟩⟩⟩⟩
theorem lw_p80 : lw_okq (⟨"WeighedInBooksModel", "allWeights", "()I"⟩, 44) := ⟨⟨by decide +kernel, by decide +kernel⟩, List.mem_of_getElem? (i := 872) (by decide +kernel), List.mem_of_getElem? (i := 1518) (by decide +kernel), List.mem_of_getElem? (i := 1519) (by decide +kernel)⟩
def lw_privs_6 : List (MethodName × Nat) := [(⟨"WeighedInBooksModel", "allWeights", "()I"⟩, 44)]
theorem lw_r6 : ∀ q ∈ lw_privs_6, lw_okq q := List.forall_mem_cons.mpr ⟨lw_p80, fun _ h => absurd h List.not_mem_nil⟩
def lw_privs : List (MethodName × Nat) := lw_privs_1 ++ (lw_privs_2 ++ (lw_privs_3 ++ (lw_privs_4 ++ (lw_privs_5 ++ (lw_privs_6)))))
def lw_tbl : List Cond := k2_sels lw_privs ++ tables_1
theorem lw_privs_ok : ∀ q ∈ lw_privs, lw_okq q := by
  show ∀ q ∈ lw_privs_1 ++ (lw_privs_2 ++ (lw_privs_3 ++ (lw_privs_4 ++ (lw_privs_5 ++ (lw_privs_6))))), lw_okq q
  exact List.forall_mem_append.mpr ⟨lw_r1, List.forall_mem_append.mpr ⟨lw_r2, List.forall_mem_append.mpr ⟨lw_r3, List.forall_mem_append.mpr ⟨lw_r4, List.forall_mem_append.mpr ⟨lw_r5, lw_r6⟩⟩⟩⟩⟩

def RX0 : String := "WeighedInBooks$Bargain"
def TX0 : u_T := fun k => match k with
  | 0 => ("WeighedInBooks$Bargain", "price", "[I", true)
  | 1 => ("WeighedInBooks$Bargain", "heavy", "[I", true)
  | 2 => ("WeighedInBooks$Bargain", "set", "I", false)
  | _ => ("WeighedInBooks$Bargain", "prices", "I", false)
def tyX0 : Nat → FieldType := fun k => match k with
  | 0 => .array .int
  | 1 => .array .int
  | 2 => .int
  | _ => .int
abbrev wsX00 : List Cond := u_ws RX0 TX0 4
theorem nmX0 : ∀ a, a < 4 → ∀ b, b < 4 → a ≠ b → (TX0 a).2.1 ≠ (TX0 b).2.1 := by decide +kernel
theorem tyX0_ok : ∀ k, k < 4 → parseFieldDescriptor (TX0 k).2.2.1 = some (tyX0 k) := by decide +kernel
abbrev cX0_init : ByteArray := prog_2_method_1_code
def yX0_init : MethodName := ⟨RX0, "<init>", "()V"⟩
abbrev cX0_seek : ByteArray := prog_2_method_2_code
def yX0_seek : MethodName := ⟨RX0, "seek", "(LWeighedInBooks$Town;II)V"⟩
abbrev cX0_offer : ByteArray := prog_2_method_3_code
def yX0_offer : MethodName := ⟨RX0, "offer", "(LWeighedInBooks$Town;II)I"⟩
abbrev cX0_sumOf : ByteArray := prog_2_method_4_code
def yX0_sumOf : MethodName := ⟨RX0, "sumOf", "([III)I"⟩
abbrev cX0_takeIfBetter : ByteArray := prog_2_method_5_code
def yX0_takeIfBetter : MethodName := ⟨RX0, "takeIfBetter", "(II)V"⟩
def RX1 : String := "WeighedInBooks$Couples"
def TX1 : u_T := fun k => match k with
  | 0 => ("WeighedInBooks$Couples", "down", "[I", true)
  | 1 => ("WeighedInBooks$Couples", "most", "[I", true)
  | 2 => ("WeighedInBooks$Couples", "partner", "[I", true)
  | _ => ("WeighedInBooks$Couples", "many", "I", false)
def tyX1 : Nat → FieldType := fun k => match k with
  | 0 => .array .int
  | 1 => .array .int
  | 2 => .array .int
  | _ => .int
abbrev wsX10 : List Cond := u_ws RX1 TX1 4
theorem nmX1 : ∀ a, a < 4 → ∀ b, b < 4 → a ≠ b → (TX1 a).2.1 ≠ (TX1 b).2.1 := by decide +kernel
theorem tyX1_ok : ∀ k, k < 4 → parseFieldDescriptor (TX1 k).2.2.1 = some (tyX1 k) := by decide +kernel
abbrev cX1_init : ByteArray := prog_3_method_1_code
def yX1_init : MethodName := ⟨RX1, "<init>", "()V"⟩
abbrev cX1_choose : ByteArray := prog_3_method_2_code
def yX1_choose : MethodName := ⟨RX1, "choose", "(LWeighedInBooks$Town;)V"⟩
abbrev cX1_weighAll : ByteArray := prog_3_method_3_code
def yX1_weighAll : MethodName := ⟨RX1, "weighAll", "(LWeighedInBooks$Town;)V"⟩
abbrev cX1_mostAmong : ByteArray := prog_3_method_4_code
def yX1_mostAmong : MethodName := ⟨RX1, "mostAmong", "(II)I"⟩
abbrev cX1_firstOf : ByteArray := prog_3_method_5_code
def yX1_firstOf : MethodName := ⟨RX1, "firstOf", "(II)I"⟩
abbrev cX1_pair : ByteArray := prog_3_method_6_code
def yX1_pair : MethodName := ⟨RX1, "pair", "(II)V"⟩
abbrev cX1_firstPartner : ByteArray := prog_3_method_7_code
def yX1_firstPartner : MethodName := ⟨RX1, "firstPartner", "(III)I"⟩
def RX2 : String := "WeighedInBooks$Foresight"
def TX2 : u_T := fun k => match k with
  | 0 => ("WeighedInBooks$Foresight", "mind", "LWeighedInBooks$Town;", true)
  | 1 => ("WeighedInBooks$Foresight", "onesGain", "[I", true)
  | 2 => ("WeighedInBooks$Foresight", "othersGain", "[I", true)
  | 3 => ("WeighedInBooks$Foresight", "loan", "I", false)
  | 4 => ("WeighedInBooks$Foresight", "loanWeeks", "I", false)
  | 5 => ("WeighedInBooks$Foresight", "springReadings", "I", false)
  | _ => ("WeighedInBooks$Foresight", "springTwos", "I", false)
def tyX2 : Nat → FieldType := fun k => match k with
  | 0 => .object "WeighedInBooks$Town"
  | 1 => .array .int
  | 2 => .array .int
  | 3 => .int
  | 4 => .int
  | 5 => .int
  | _ => .int
abbrev wsX20 : List Cond := u_ws RX2 TX2 7
theorem nmX2 : ∀ a, a < 7 → ∀ b, b < 7 → a ≠ b → (TX2 a).2.1 ≠ (TX2 b).2.1 := by decide +kernel
theorem tyX2_ok : ∀ k, k < 7 → parseFieldDescriptor (TX2 k).2.2.1 = some (tyX2 k) := by decide +kernel
abbrev cX2_init : ByteArray := prog_4_method_1_code
def yX2_init : MethodName := ⟨RX2, "<init>", "()V"⟩
abbrev cX2_think : ByteArray := prog_4_method_2_code
def yX2_think : MethodName := ⟨RX2, "think", "(LWeighedInBooks$Town;)V"⟩
abbrev cX2_after : ByteArray := prog_4_method_3_code
def yX2_after : MethodName := ⟨RX2, "after", "(LWeighedInBooks$Town;I)LWeighedInBooks$Town;"⟩
abbrev cX2_whenDown : ByteArray := prog_4_method_4_code
def yX2_whenDown : MethodName := ⟨RX2, "whenDown", "(LWeighedInBooks$Town;II)I"⟩
abbrev cX2_weeksTillDown : ByteArray := prog_4_method_5_code
def yX2_weeksTillDown : MethodName := ⟨RX2, "weeksTillDown", "(III)I"⟩
abbrev cX2_firstDown : ByteArray := prog_4_method_6_code
def yX2_firstDown : MethodName := ⟨RX2, "firstDown", "(LWeighedInBooks$Town;)I"⟩
abbrev cX2_firstFreshlyDown : ByteArray := prog_4_method_7_code
def yX2_firstFreshlyDown : MethodName := ⟨RX2, "firstFreshlyDown", "(LWeighedInBooks$Town;)I"⟩
abbrev cX2_seekLoan : ByteArray := prog_4_method_8_code
def yX2_seekLoan : MethodName := ⟨RX2, "seekLoan", "(LWeighedInBooks$Town;II)V"⟩
abbrev cX2_bestTaught : ByteArray := prog_4_method_9_code
def yX2_bestTaught : MethodName := ⟨RX2, "bestTaught", "(LWeighedInBooks$Town;IIII)I"⟩
abbrev cX2_bitsBy : ByteArray := prog_4_method_10_code
def yX2_bitsBy : MethodName := ⟨RX2, "bitsBy", "([IIIIIZ)I"⟩
abbrev cX2_steadyPair : ByteArray := prog_4_method_11_code
def yX2_steadyPair : MethodName := ⟨RX2, "steadyPair", "(LWeighedInBooks$Town;III)I"⟩
abbrev cX2_weighChoice : ByteArray := prog_4_method_12_code
def yX2_weighChoice : MethodName := ⟨RX2, "weighChoice", "(LWeighedInBooks$Town;IIII)V"⟩
abbrev cX2_dampCases : ByteArray := prog_4_method_13_code
def yX2_dampCases : MethodName := ⟨RX2, "dampCases", "(LWeighedInBooks$Town;IIII)J"⟩
abbrev cX2_drawSprings : ByteArray := prog_4_method_14_code
def yX2_drawSprings : MethodName := ⟨RX2, "drawSprings", "(LWeighedInBooks$Town;II)V"⟩
abbrev cX2_keeperDrawn : ByteArray := prog_4_method_15_code
def yX2_keeperDrawn : MethodName := ⟨RX2, "keeperDrawn", "(I)I"⟩
def RX3 : String := "WeighedInBooks$Fractions"
def TX3 : u_T := fun k => match k with
  | _ => ("", "", "", false)
def tyX3 : Nat → FieldType := fun k => match k with
  | _ => .int
abbrev wsX30 : List Cond := u_ws RX3 TX3 0
theorem nmX3 : ∀ a, a < 0 → ∀ b, b < 0 → a ≠ b → (TX3 a).2.1 ≠ (TX3 b).2.1 := by decide +kernel
theorem tyX3_ok : ∀ k, k < 0 → parseFieldDescriptor (TX3 k).2.2.1 = some (tyX3 k) := by decide +kernel
abbrev cX3_part : ByteArray := prog_5_method_2_code
def yX3_part : MethodName := ⟨RX3, "part", "(JJI)J"⟩
abbrev cX3_sharedDivisor : ByteArray := prog_5_method_3_code
def yX3_sharedDivisor : MethodName := ⟨RX3, "sharedDivisor", "(JJ)J"⟩
abbrev cX3_power : ByteArray := prog_5_method_4_code
def yX3_power : MethodName := ⟨RX3, "power", "(JI)J"⟩
def RX4 : String := "WeighedInBooks$Past"
def TX4 : u_T := fun k => match k with
  | 0 => ("WeighedInBooks$Past", "kept", "[LWeighedInBooks$Town;", true)
  | 1 => ("WeighedInBooks$Past", "latest", "I", false)
  | _ => ("WeighedInBooks$Past", "many", "I", false)
def tyX4 : Nat → FieldType := fun k => match k with
  | 0 => .array (.object "WeighedInBooks$Town")
  | 1 => .int
  | _ => .int
abbrev wsX40 : List Cond := u_ws RX4 TX4 3
theorem nmX4 : ∀ a, a < 3 → ∀ b, b < 3 → a ≠ b → (TX4 a).2.1 ≠ (TX4 b).2.1 := by decide +kernel
theorem tyX4_ok : ∀ k, k < 3 → parseFieldDescriptor (TX4 k).2.2.1 = some (tyX4 k) := by decide +kernel
abbrev cX4_init : ByteArray := prog_6_method_1_code
def yX4_init : MethodName := ⟨RX4, "<init>", "()V"⟩
abbrev cX4_keep : ByteArray := prog_6_method_2_code
def yX4_keep : MethodName := ⟨RX4, "keep", "(LWeighedInBooks$Town;)V"⟩
abbrev cX4_giveBack : ByteArray := prog_6_method_3_code
def yX4_giveBack : MethodName := ⟨RX4, "giveBack", "(LWeighedInBooks$Town;)V"⟩
abbrev cX4_forget : ByteArray := prog_6_method_4_code
def yX4_forget : MethodName := ⟨RX4, "forget", "()V"⟩
def RX5 : String := "WeighedInBooks$Statements"
def TX5 : u_T := fun k => match k with
  | 0 => ("WeighedInBooks$Statements", "letter", "[I", true)
  | 1 => ("WeighedInBooks$Statements", "letters", "I", false)
  | 2 => ("WeighedInBooks$Statements", "place", "I", false)
  | _ => ("WeighedInBooks$Statements", "draft", "LWeighedInBooks$Town;", true)
def tyX5 : Nat → FieldType := fun k => match k with
  | 0 => .array .int
  | 1 => .int
  | 2 => .int
  | _ => .object "WeighedInBooks$Town"
abbrev wsX50 : List Cond := u_ws RX5 TX5 4
theorem nmX5 : ∀ a, a < 4 → ∀ b, b < 4 → a ≠ b → (TX5 a).2.1 ≠ (TX5 b).2.1 := by decide +kernel
theorem tyX5_ok : ∀ k, k < 4 → parseFieldDescriptor (TX5 k).2.2.1 = some (tyX5 k) := by decide +kernel
abbrev cX5_init : ByteArray := prog_7_method_1_code
def yX5_init : MethodName := ⟨RX5, "<init>", "()V"⟩
abbrev cX5_addLetter : ByteArray := prog_7_method_2_code
def yX5_addLetter : MethodName := ⟨RX5, "addLetter", "(I)I"⟩
abbrev cX5_tellTo : ByteArray := prog_7_method_3_code
def yX5_tellTo : MethodName := ⟨RX5, "tellTo", "(LWeighedInBooks$Town;)I"⟩
abbrev cX5_canBeRead : ByteArray := prog_7_method_4_code
def yX5_canBeRead : MethodName := ⟨RX5, "canBeRead", "()Z"⟩
abbrev cX5_passStatement : ByteArray := prog_7_method_5_code
def yX5_passStatement : MethodName := ⟨RX5, "passStatement", "()Z"⟩
abbrev cX5_passBody : ByteArray := prog_7_method_6_code
def yX5_passBody : MethodName := ⟨RX5, "passBody", "(I)Z"⟩
abbrev cX5_passSteps : ByteArray := prog_7_method_7_code
def yX5_passSteps : MethodName := ⟨RX5, "passSteps", "()Z"⟩
abbrev cX5_passTitle : ByteArray := prog_7_method_8_code
def yX5_passTitle : MethodName := ⟨RX5, "passTitle", "()Z"⟩
abbrev cX5_passDigits : ByteArray := prog_7_method_9_code
def yX5_passDigits : MethodName := ⟨RX5, "passDigits", "(I)Z"⟩
abbrev cX5_passLetter : ByteArray := prog_7_method_10_code
def yX5_passLetter : MethodName := ⟨RX5, "passLetter", "(I)Z"⟩
abbrev cX5_here : ByteArray := prog_7_method_11_code
def yX5_here : MethodName := ⟨RX5, "here", "()I"⟩
abbrev cX5_stepHere : ByteArray := prog_7_method_12_code
def yX5_stepHere : MethodName := ⟨RX5, "stepHere", "()I"⟩
abbrev cX5_isTitleLetter : ByteArray := prog_7_method_13_code
def yX5_isTitleLetter : MethodName := ⟨RX5, "isTitleLetter", "(I)Z"⟩
abbrev cX5_takeBody : ByteArray := prog_7_method_14_code
def yX5_takeBody : MethodName := ⟨RX5, "takeBody", "(I)Z"⟩
abbrev cX5_takePerson : ByteArray := prog_7_method_15_code
def yX5_takePerson : MethodName := ⟨RX5, "takePerson", "()Z"⟩
abbrev cX5_takeBook : ByteArray := prog_7_method_16_code
def yX5_takeBook : MethodName := ⟨RX5, "takeBook", "()Z"⟩
abbrev cX5_takeReading : ByteArray := prog_7_method_17_code
def yX5_takeReading : MethodName := ⟨RX5, "takeReading", "()Z"⟩
abbrev cX5_takeHolder : ByteArray := prog_7_method_18_code
def yX5_takeHolder : MethodName := ⟨RX5, "takeHolder", "()Z"⟩
abbrev cX5_takeLaw : ByteArray := prog_7_method_19_code
def yX5_takeLaw : MethodName := ⟨RX5, "takeLaw", "()Z"⟩
abbrev cX5_takeWeeks : ByteArray := prog_7_method_20_code
def yX5_takeWeeks : MethodName := ⟨RX5, "takeWeeks", "()Z"⟩
abbrev cX5_takeNumber : ByteArray := prog_7_method_21_code
def yX5_takeNumber : MethodName := ⟨RX5, "takeNumber", "(I)I"⟩
abbrev cX5_takeTitle : ByteArray := prog_7_method_22_code
def yX5_takeTitle : MethodName := ⟨RX5, "takeTitle", "()I"⟩
def RX6 : String := "WeighedInBooks$Titles"
def TX6 : u_T := fun k => match k with
  | _ => ("", "", "", false)
def tyX6 : Nat → FieldType := fun k => match k with
  | _ => .int
abbrev wsX60 : List Cond := u_ws RX6 TX6 0
theorem nmX6 : ∀ a, a < 0 → ∀ b, b < 0 → a ≠ b → (TX6 a).2.1 ≠ (TX6 b).2.1 := by decide +kernel
theorem tyX6_ok : ∀ k, k < 0 → parseFieldDescriptor (TX6 k).2.2.1 = some (tyX6 k) := by decide +kernel
abbrev cX6_ofLetter : ByteArray := prog_8_method_2_code
def yX6_ofLetter : MethodName := ⟨RX6, "ofLetter", "(I)I"⟩
abbrev cX6_longer : ByteArray := prog_8_method_3_code
def yX6_longer : MethodName := ⟨RX6, "longer", "(III)I"⟩
abbrev cX6_letterAt : ByteArray := prog_8_method_4_code
def yX6_letterAt : MethodName := ⟨RX6, "letterAt", "(II)I"⟩
abbrev cX6_lengthOf : ByteArray := prog_8_method_5_code
def yX6_lengthOf : MethodName := ⟨RX6, "lengthOf", "(I)I"⟩
def RX7 : String := "WeighedInBooks$Town"
def TX7 : u_T := fun k => match k with
  | 0 => ("WeighedInBooks$Town", "people", "I", false)
  | 1 => ("WeighedInBooks$Town", "weight", "[I", true)
  | 2 => ("WeighedInBooks$Town", "appetite", "[I", true)
  | 3 => ("WeighedInBooks$Town", "purse", "[I", true)
  | 4 => ("WeighedInBooks$Town", "books", "I", false)
  | 5 => ("WeighedInBooks$Town", "kind", "[I", true)
  | 6 => ("WeighedInBooks$Town", "figure", "[I", true)
  | 7 => ("WeighedInBooks$Town", "owner", "[I", true)
  | 8 => ("WeighedInBooks$Town", "holder", "[I", true)
  | 9 => ("WeighedInBooks$Town", "readers", "[I", true)
  | 10 => ("WeighedInBooks$Town", "title", "[I", true)
  | 11 => ("WeighedInBooks$Town", "week", "I", false)
  | 12 => ("WeighedInBooks$Town", "steps", "I", false)
  | 13 => ("WeighedInBooks$Town", "step", "[I", true)
  | _ => ("WeighedInBooks$Town", "stepNumber", "[I", true)
def tyX7 : Nat → FieldType := fun k => match k with
  | 0 => .int
  | 1 => .array .int
  | 2 => .array .int
  | 3 => .array .int
  | 4 => .int
  | 5 => .array .int
  | 6 => .array .int
  | 7 => .array .int
  | 8 => .array .int
  | 9 => .array .int
  | 10 => .array .int
  | 11 => .int
  | 12 => .int
  | 13 => .array .int
  | _ => .array .int
abbrev wsX70 : List Cond := u_ws RX7 TX7 15
theorem nmX7 : ∀ a, a < 15 → ∀ b, b < 15 → a ≠ b → (TX7 a).2.1 ≠ (TX7 b).2.1 := by decide +kernel
theorem tyX7_ok : ∀ k, k < 15 → parseFieldDescriptor (TX7 k).2.2.1 = some (tyX7 k) := by decide +kernel
abbrev cX7_init : ByteArray := prog_9_method_1_code
def yX7_init : MethodName := ⟨RX7, "<init>", "()V"⟩
abbrev cX7_copyFrom : ByteArray := prog_9_method_2_code
def yX7_copyFrom : MethodName := ⟨RX7, "copyFrom", "(LWeighedInBooks$Town;)V"⟩
abbrev cX7_hasPerson : ByteArray := prog_9_method_3_code
def yX7_hasPerson : MethodName := ⟨RX7, "hasPerson", "(I)Z"⟩
abbrev cX7_hasKeeper : ByteArray := prog_9_method_4_code
def yX7_hasKeeper : MethodName := ⟨RX7, "hasKeeper", "(I)Z"⟩
abbrev cX7_hasBook : ByteArray := prog_9_method_5_code
def yX7_hasBook : MethodName := ⟨RX7, "hasBook", "(I)Z"⟩
abbrev cX7_addPerson : ByteArray := prog_9_method_6_code
def yX7_addPerson : MethodName := ⟨RX7, "addPerson", "(III)I"⟩
abbrev cX7_addBook : ByteArray := prog_9_method_7_code
def yX7_addBook : MethodName := ⟨RX7, "addBook", "(IIII)I"⟩
abbrev cX7_addStep : ByteArray := prog_9_method_8_code
def yX7_addStep : MethodName := ⟨RX7, "addStep", "(II)V"⟩
abbrev cX7_weighs : ByteArray := prog_9_method_9_code
def yX7_weighs : MethodName := ⟨RX7, "weighs", "(I)I"⟩
abbrev cX7_priceOf : ByteArray := prog_9_method_10_code
def yX7_priceOf : MethodName := ⟨RX7, "priceOf", "(I)I"⟩
abbrev cX7_hasRead : ByteArray := prog_9_method_11_code
def yX7_hasRead : MethodName := ⟨RX7, "hasRead", "(II)I"⟩
abbrev cX7_isOnPan : ByteArray := prog_9_method_12_code
def yX7_isOnPan : MethodName := ⟨RX7, "isOnPan", "(III)Z"⟩
abbrev cX7_comesTo : ByteArray := prog_9_method_13_code
def yX7_comesTo : MethodName := ⟨RX7, "comesTo", "(III)I"⟩
abbrev cX7_stepped : ByteArray := prog_9_method_14_code
def yX7_stepped : MethodName := ⟨RX7, "stepped", "(III)I"⟩
abbrev cX7_overOf : ByteArray := prog_9_method_15_code
def yX7_overOf : MethodName := ⟨RX7, "overOf", "(II)I"⟩
abbrev cX7_comesDown : ByteArray := prog_9_method_16_code
def yX7_comesDown : MethodName := ⟨RX7, "comesDown", "(II)Z"⟩
abbrev cX7_twosDown : ByteArray := prog_9_method_17_code
def yX7_twosDown : MethodName := ⟨RX7, "twosDown", "()I"⟩
abbrev cX7_closestTwo : ByteArray := prog_9_method_18_code
def yX7_closestTwo : MethodName := ⟨RX7, "closestTwo", "()I"⟩
abbrev cX7_weeksPass : ByteArray := prog_9_method_19_code
def yX7_weeksPass : MethodName := ⟨RX7, "weeksPass", "(I)V"⟩
abbrev cX7_weekPasses : ByteArray := prog_9_method_20_code
def yX7_weekPasses : MethodName := ⟨RX7, "weekPasses", "(Z)V"⟩
abbrev cX7_readNext : ByteArray := prog_9_method_21_code
def yX7_readNext : MethodName := ⟨RX7, "readNext", "(I)V"⟩
abbrev cX7_givesBack : ByteArray := prog_9_method_22_code
def yX7_givesBack : MethodName := ⟨RX7, "givesBack", "(I)V"⟩
abbrev cX7_bookWithTitle : ByteArray := prog_9_method_23_code
def yX7_bookWithTitle : MethodName := ⟨RX7, "bookWithTitle", "(I)I"⟩
abbrev cX7_rankOf : ByteArray := prog_9_method_24_code
def yX7_rankOf : MethodName := ⟨RX7, "rankOf", "(I)I"⟩
abbrev cX7_firstTitleFrom : ByteArray := prog_9_method_25_code
def yX7_firstTitleFrom : MethodName := ⟨RX7, "firstTitleFrom", "(I)I"⟩
abbrev cX7_readings : ByteArray := prog_9_method_26_code
def yX7_readings : MethodName := ⟨RX7, "readings", "()I"⟩
abbrev cX7_readingsOf : ByteArray := prog_9_method_27_code
def yX7_readingsOf : MethodName := ⟨RX7, "readingsOf", "(I)I"⟩
abbrev cX7_booksReadBy : ByteArray := prog_9_method_28_code
def yX7_booksReadBy : MethodName := ⟨RX7, "booksReadBy", "(I)I"⟩
abbrev cX7_unreadBooks : ByteArray := prog_9_method_29_code
def yX7_unreadBooks : MethodName := ⟨RX7, "unreadBooks", "()I"⟩
abbrev cX7_lentBooks : ByteArray := prog_9_method_30_code
def yX7_lentBooks : MethodName := ⟨RX7, "lentBooks", "()I"⟩
abbrev cX7_booksWith : ByteArray := prog_9_method_31_code
def yX7_booksWith : MethodName := ⟨RX7, "booksWith", "([II)I"⟩
abbrev cX7_kindsHeldBy : ByteArray := prog_9_method_32_code
def yX7_kindsHeldBy : MethodName := ⟨RX7, "kindsHeldBy", "(I)I"⟩
abbrev cX7_pricesHeldBy : ByteArray := prog_9_method_33_code
def yX7_pricesHeldBy : MethodName := ⟨RX7, "pricesHeldBy", "(I)I"⟩
abbrev cX7_mostHeldKind : ByteArray := prog_9_method_34_code
def yX7_mostHeldKind : MethodName := ⟨RX7, "mostHeldKind", "(I)I"⟩
abbrev cX7_weightOfAll : ByteArray := prog_9_method_35_code
def yX7_weightOfAll : MethodName := ⟨RX7, "weightOfAll", "()I"⟩
abbrev cX7_poorPeople : ByteArray := prog_9_method_36_code
def yX7_poorPeople : MethodName := ⟨RX7, "poorPeople", "()I"⟩
abbrev cX7_leastTownPrice : ByteArray := prog_9_method_37_code
def yX7_leastTownPrice : MethodName := ⟨RX7, "leastTownPrice", "()I"⟩
def RX8 : String := "WeighedInBooks"
def TX8 : u_T := fun k => match k with
  | 0 => ("WeighedInBooks", "now", "LWeighedInBooks$Town;", true)
  | 1 => ("WeighedInBooks", "past", "LWeighedInBooks$Past;", true)
  | 2 => ("WeighedInBooks", "imaged", "LWeighedInBooks$Town;", true)
  | 3 => ("WeighedInBooks", "hasImage", "Z", false)
  | 4 => ("WeighedInBooks", "told", "LWeighedInBooks$Statements;", true)
  | 5 => ("WeighedInBooks", "foresight", "LWeighedInBooks$Foresight;", true)
  | 6 => ("WeighedInBooks", "bargain", "LWeighedInBooks$Bargain;", true)
  | 7 => ("WeighedInBooks", "matched", "LWeighedInBooks$Couples;", true)
  | 8 => ("WeighedInBooks", "ordered", "[I", true)
  | 9 => ("WeighedInBooks", "toldRow", "[I", true)
  | 10 => ("WeighedInBooks", "inRow", "I", false)
  | _ => ("WeighedInBooks", "refused", "[I", true)
def tyX8 : Nat → FieldType := fun k => match k with
  | 0 => .object "WeighedInBooks$Town"
  | 1 => .object "WeighedInBooks$Past"
  | 2 => .object "WeighedInBooks$Town"
  | 3 => .boolean
  | 4 => .object "WeighedInBooks$Statements"
  | 5 => .object "WeighedInBooks$Foresight"
  | 6 => .object "WeighedInBooks$Bargain"
  | 7 => .object "WeighedInBooks$Couples"
  | 8 => .array .int
  | 9 => .array .int
  | 10 => .int
  | _ => .array .int
abbrev wsX80 : List Cond := u_ws RX8 TX8 12
theorem nmX8 : ∀ a, a < 12 → ∀ b, b < 12 → a ≠ b → (TX8 a).2.1 ≠ (TX8 b).2.1 := by decide +kernel
theorem tyX8_ok : ∀ k, k < 12 → parseFieldDescriptor (TX8 k).2.2.1 = some (tyX8 k) := by decide +kernel
abbrev cX8_init : ByteArray := prog_1_method_1_code
def yX8_init : MethodName := ⟨RX8, "<init>", "()V"⟩
abbrev cX8_feed : ByteArray := prog_1_method_2_code
def yX8_feed : MethodName := ⟨RX8, "feed", "(I)I"⟩
abbrev cX8_town : ByteArray := prog_1_method_3_code
def yX8_town : MethodName := ⟨RX8, "town", "()I"⟩
abbrev cX8_comes : ByteArray := prog_1_method_4_code
def yX8_comes : MethodName := ⟨RX8, "comes", "(III)I"⟩
abbrev cX8_brings : ByteArray := prog_1_method_5_code
def yX8_brings : MethodName := ⟨RX8, "brings", "(IIII)I"⟩
abbrev cX8_person : ByteArray := prog_1_method_6_code
def yX8_person : MethodName := ⟨RX8, "person", "(II)I"⟩
abbrev cX8_book : ByteArray := prog_1_method_7_code
def yX8_book : MethodName := ⟨RX8, "book", "(II)I"⟩
abbrev cX8_title : ByteArray := prog_1_method_8_code
def yX8_title : MethodName := ⟨RX8, "title", "(II)I"⟩
abbrev cX8_eats : ByteArray := prog_1_method_9_code
def yX8_eats : MethodName := ⟨RX8, "eats", "(II)I"⟩
abbrev cX8_reads : ByteArray := prog_1_method_10_code
def yX8_reads : MethodName := ⟨RX8, "reads", "(II)I"⟩
abbrev cX8_lends : ByteArray := prog_1_method_11_code
def yX8_lends : MethodName := ⟨RX8, "lends", "(II)I"⟩
abbrev cX8_buys : ByteArray := prog_1_method_12_code
def yX8_buys : MethodName := ⟨RX8, "buys", "(II)I"⟩
abbrev cX8_step : ByteArray := prog_1_method_13_code
def yX8_step : MethodName := ⟨RX8, "step", "(II)I"⟩
abbrev cX8_clearLaw : ByteArray := prog_1_method_14_code
def yX8_clearLaw : MethodName := ⟨RX8, "clearLaw", "()I"⟩
abbrev cX8_weeks : ByteArray := prog_1_method_15_code
def yX8_weeks : MethodName := ⟨RX8, "weeks", "(I)I"⟩
abbrev cX8_back : ByteArray := prog_1_method_16_code
def yX8_back : MethodName := ⟨RX8, "back", "()I"⟩
abbrev cX8_over : ByteArray := prog_1_method_17_code
def yX8_over : MethodName := ⟨RX8, "over", "(II)I"⟩
abbrev cX8_pan : ByteArray := prog_1_method_18_code
def yX8_pan : MethodName := ⟨RX8, "pan", "(III)I"⟩
abbrev cX8_buy : ByteArray := prog_1_method_19_code
def yX8_buy : MethodName := ⟨RX8, "buy", "(III)I"⟩
abbrev cX8_couples : ByteArray := prog_1_method_20_code
def yX8_couples : MethodName := ⟨RX8, "couples", "(I)I"⟩
abbrev cX8_heaviest : ByteArray := prog_1_method_21_code
def yX8_heaviest : MethodName := ⟨RX8, "heaviest", "(III)I"⟩
abbrev cX8_overThen : ByteArray := prog_1_method_22_code
def yX8_overThen : MethodName := ⟨RX8, "overThen", "(III)I"⟩
abbrev cX8_then : ByteArray := prog_1_method_23_code
def yX8_then : MethodName := ⟨RX8, "then", "(III)I"⟩
abbrev cX8_when : ByteArray := prog_1_method_24_code
def yX8_when : MethodName := ⟨RX8, "when", "(II)I"⟩
abbrev cX8_first : ByteArray := prog_1_method_25_code
def yX8_first : MethodName := ⟨RX8, "first", "()I"⟩
abbrev cX8_borrow : ByteArray := prog_1_method_26_code
def yX8_borrow : MethodName := ⟨RX8, "borrow", "(III)I"⟩
abbrev cX8_taught : ByteArray := prog_1_method_27_code
def yX8_taught : MethodName := ⟨RX8, "taught", "(IIII)I"⟩
abbrev cX8_whatKind : ByteArray := prog_1_method_28_code
def yX8_whatKind : MethodName := ⟨RX8, "whatKind", "(IIII)I"⟩
abbrev cX8_two : ByteArray := prog_1_method_29_code
def yX8_two : MethodName := ⟨RX8, "two", "(III)I"⟩
abbrev cX8_damp : ByteArray := prog_1_method_30_code
def yX8_damp : MethodName := ⟨RX8, "damp", "(IIIII)J"⟩
abbrev cX8_lots : ByteArray := prog_1_method_31_code
def yX8_lots : MethodName := ⟨RX8, "lots", "(III)I"⟩
abbrev cX8_titles : ByteArray := prog_1_method_32_code
def yX8_titles : MethodName := ⟨RX8, "titles", "(II)I"⟩
abbrev cX8_from : ByteArray := prog_1_method_33_code
def yX8_from : MethodName := ⟨RX8, "from", "(I)I"⟩
abbrev cX8_shelf : ByteArray := prog_1_method_34_code
def yX8_shelf : MethodName := ⟨RX8, "shelf", "(II)I"⟩
abbrev cX8_sight : ByteArray := prog_1_method_35_code
def yX8_sight : MethodName := ⟨RX8, "sight", "(I)I"⟩
abbrev cX8_share : ByteArray := prog_1_method_36_code
def yX8_share : MethodName := ⟨RX8, "share", "(II)J"⟩
abbrev cX8_byHeart : ByteArray := prog_1_method_37_code
def yX8_byHeart : MethodName := ⟨RX8, "byHeart", "(II)I"⟩
abbrev cX8_kinds : ByteArray := prog_1_method_38_code
def yX8_kinds : MethodName := ⟨RX8, "kinds", "(I)I"⟩
abbrev cX8_row : ByteArray := prog_1_method_39_code
def yX8_row : MethodName := ⟨RX8, "row", "(I)I"⟩
abbrev cX8_judge : ByteArray := prog_1_method_40_code
def yX8_judge : MethodName := ⟨RX8, "judge", "()I"⟩
abbrev cX8_clear : ByteArray := prog_1_method_41_code
def yX8_clear : MethodName := ⟨RX8, "clear", "()I"⟩
abbrev cX8_image : ByteArray := prog_1_method_42_code
def yX8_image : MethodName := ⟨RX8, "image", "()I"⟩
abbrev cX8_restore : ByteArray := prog_1_method_43_code
def yX8_restore : MethodName := ⟨RX8, "restore", "()I"⟩
abbrev cX8_count : ByteArray := prog_1_method_44_code
def yX8_count : MethodName := ⟨RX8, "count", "(I)I"⟩
abbrev cX8_refuse : ByteArray := prog_1_method_45_code
def yX8_refuse : MethodName := ⟨RX8, "refuse", "(I)I"⟩
abbrev cX8_isNeither : ByteArray := prog_1_method_46_code
def yX8_isNeither : MethodName := ⟨RX8, "isNeither", "(I)Z"⟩
abbrev cX8_areTwo : ByteArray := prog_1_method_47_code
def yX8_areTwo : MethodName := ⟨RX8, "areTwo", "(II)Z"⟩
abbrev cX8_orderPan : ByteArray := prog_1_method_48_code
def yX8_orderPan : MethodName := ⟨RX8, "orderPan", "(II)I"⟩
abbrev cX8_isHeavier : ByteArray := prog_1_method_49_code
def yX8_isHeavier : MethodName := ⟨RX8, "isHeavier", "(IIII)Z"⟩
def RX9 : String := "WeighedInBooksModel"
def TX9 : u_T := fun k => match k with
  | 0 => ("WeighedInBooksModel", "refused", "[I", true)
  | 1 => ("WeighedInBooksModel", "weight", "[I", true)
  | 2 => ("WeighedInBooksModel", "appetite", "[I", true)
  | 3 => ("WeighedInBooksModel", "purse", "[I", true)
  | 4 => ("WeighedInBooksModel", "kind", "[I", true)
  | 5 => ("WeighedInBooksModel", "figure", "[I", true)
  | 6 => ("WeighedInBooksModel", "owner", "[I", true)
  | 7 => ("WeighedInBooksModel", "holder", "[I", true)
  | 8 => ("WeighedInBooksModel", "readBy", "[I", true)
  | 9 => ("WeighedInBooksModel", "titleMany", "[I", true)
  | 10 => ("WeighedInBooksModel", "title", "[I", true)
  | 11 => ("WeighedInBooksModel", "stepKind", "[I", true)
  | 12 => ("WeighedInBooksModel", "stepN", "[I", true)
  | 13 => ("WeighedInBooksModel", "people", "I", false)
  | 14 => ("WeighedInBooksModel", "books", "I", false)
  | 15 => ("WeighedInBooksModel", "week", "I", false)
  | 16 => ("WeighedInBooksModel", "steps", "I", false)
  | 17 => ("WeighedInBooksModel", "isDamp", "Z", false)
  | 18 => ("WeighedInBooksModel", "tape", "[I", true)
  | 19 => ("WeighedInBooksModel", "sort", "[I", true)
  | 20 => ("WeighedInBooksModel", "sortAt", "[I", true)
  | 21 => ("WeighedInBooksModel", "told", "[I", true)
  | 22 => ("WeighedInBooksModel", "saidAt", "[I", true)
  | 23 => ("WeighedInBooksModel", "saidMany", "[I", true)
  | 24 => ("WeighedInBooksModel", "lawKind", "[I", true)
  | 25 => ("WeighedInBooksModel", "lawN", "[I", true)
  | 26 => ("WeighedInBooksModel", "taped", "I", false)
  | 27 => ("WeighedInBooksModel", "reading", "I", false)
  | 28 => ("WeighedInBooksModel", "statements", "I", false)
  | 29 => ("WeighedInBooksModel", "telling", "I", false)
  | 30 => ("WeighedInBooksModel", "lawTold", "I", false)
  | 31 => ("WeighedInBooksModel", "kept", "[I", true)
  | 32 => ("WeighedInBooksModel", "hasImage", "Z", false)
  | 33 => ("WeighedInBooksModel", "isKeeping", "Z", false)
  | 34 => ("WeighedInBooksModel", "cursor", "I", false)
  | 35 => ("WeighedInBooksModel", "firstBack", "I", false)
  | 36 => ("WeighedInBooksModel", "backs", "I", false)
  | 37 => ("WeighedInBooksModel", "wasDown", "[I", true)
  | 38 => ("WeighedInBooksModel", "most", "[I", true)
  | 39 => ("WeighedInBooksModel", "partner", "[I", true)
  | 40 => ("WeighedInBooksModel", "row", "[I", true)
  | 41 => ("WeighedInBooksModel", "rowMany", "I", false)
  | 42 => ("WeighedInBooksModel", "ends", "[I", true)
  | _ => ("WeighedInBooksModel", "lots", "I", false)
def tyX9 : Nat → FieldType := fun k => match k with
  | 0 => .array .int
  | 1 => .array .int
  | 2 => .array .int
  | 3 => .array .int
  | 4 => .array .int
  | 5 => .array .int
  | 6 => .array .int
  | 7 => .array .int
  | 8 => .array .int
  | 9 => .array .int
  | 10 => .array .int
  | 11 => .array .int
  | 12 => .array .int
  | 13 => .int
  | 14 => .int
  | 15 => .int
  | 16 => .int
  | 17 => .boolean
  | 18 => .array .int
  | 19 => .array .int
  | 20 => .array .int
  | 21 => .array .int
  | 22 => .array .int
  | 23 => .array .int
  | 24 => .array .int
  | 25 => .array .int
  | 26 => .int
  | 27 => .int
  | 28 => .int
  | 29 => .int
  | 30 => .int
  | 31 => .array .int
  | 32 => .boolean
  | 33 => .boolean
  | 34 => .int
  | 35 => .int
  | 36 => .int
  | 37 => .array .int
  | 38 => .array .int
  | 39 => .array .int
  | 40 => .array .int
  | 41 => .int
  | 42 => .array .int
  | _ => .int
abbrev wsX90 : List Cond := u_ws RX9 TX9 44
theorem nmX9 : ∀ a, a < 44 → ∀ b, b < 44 → a ≠ b → (TX9 a).2.1 ≠ (TX9 b).2.1 := by decide +kernel
theorem tyX9_ok : ∀ k, k < 44 → parseFieldDescriptor (TX9 k).2.2.1 = some (tyX9 k) := by decide +kernel
abbrev cX9_init : ByteArray := prog_11_method_1_code
def yX9_init : MethodName := ⟨RX9, "<init>", "()V"⟩
abbrev cX9_no : ByteArray := prog_11_method_2_code
def yX9_no : MethodName := ⟨RX9, "no", "(I)I"⟩
abbrev cX9_lower : ByteArray := prog_11_method_3_code
def yX9_lower : MethodName := ⟨RX9, "lower", "(I)I"⟩
abbrev cX9_lowestOf : ByteArray := prog_11_method_4_code
def yX9_lowestOf : MethodName := ⟨RX9, "lowestOf", "(I)J"⟩
abbrev cX9_isIn : ByteArray := prog_11_method_5_code
def yX9_isIn : MethodName := ⟨RX9, "isIn", "(III)Z"⟩
abbrev cX9_bound : ByteArray := prog_11_method_6_code
def yX9_bound : MethodName := ⟨RX9, "bound", "(III)I"⟩
abbrev cX9_has : ByteArray := prog_11_method_7_code
def yX9_has : MethodName := ⟨RX9, "has", "(II)Z"⟩
abbrev cX9_bits : ByteArray := prog_11_method_8_code
def yX9_bits : MethodName := ⟨RX9, "bits", "(I)I"⟩
abbrev cX9_isPerson : ByteArray := prog_11_method_9_code
def yX9_isPerson : MethodName := ⟨RX9, "isPerson", "(I)Z"⟩
abbrev cX9_isPlace : ByteArray := prog_11_method_10_code
def yX9_isPlace : MethodName := ⟨RX9, "isPlace", "(I)Z"⟩
abbrev cX9_isBook : ByteArray := prog_11_method_11_code
def yX9_isBook : MethodName := ⟨RX9, "isBook", "(I)Z"⟩
abbrev cX9_areTwo : ByteArray := prog_11_method_12_code
def yX9_areTwo : MethodName := ⟨RX9, "areTwo", "(II)Z"⟩
abbrev cX9_asNovel : ByteArray := prog_11_method_13_code
def yX9_asNovel : MethodName := ⟨RX9, "asNovel", "(I)I"⟩
abbrev cX9_weighs : ByteArray := prog_11_method_14_code
def yX9_weighs : MethodName := ⟨RX9, "weighs", "(I)I"⟩
abbrev cX9_price : ByteArray := prog_11_method_15_code
def yX9_price : MethodName := ⟨RX9, "price", "(I)I"⟩
abbrev cX9_byStep : ByteArray := prog_11_method_16_code
def yX9_byStep : MethodName := ⟨RX9, "byStep", "(III)I"⟩
abbrev cX9_comesTo : ByteArray := prog_11_method_17_code
def yX9_comesTo : MethodName := ⟨RX9, "comesTo", "(III)I"⟩
abbrev cX9_isHeld : ByteArray := prog_11_method_18_code
def yX9_isHeld : MethodName := ⟨RX9, "isHeld", "(III)Z"⟩
abbrev cX9_overWith : ByteArray := prog_11_method_19_code
def yX9_overWith : MethodName := ⟨RX9, "overWith", "(III)I"⟩
abbrev cX9_overNow : ByteArray := prog_11_method_20_code
def yX9_overNow : MethodName := ⟨RX9, "overNow", "(II)I"⟩
abbrev cX9_comesDown : ByteArray := prog_11_method_21_code
def yX9_comesDown : MethodName := ⟨RX9, "comesDown", "(II)Z"⟩
abbrev cX9_compares : ByteArray := prog_11_method_22_code
def yX9_compares : MethodName := ⟨RX9, "compares", "(II)I"⟩
abbrev cX9_rankOf : ByteArray := prog_11_method_23_code
def yX9_rankOf : MethodName := ⟨RX9, "rankOf", "(I)I"⟩
abbrev cX9_ofRank : ByteArray := prog_11_method_24_code
def yX9_ofRank : MethodName := ⟨RX9, "ofRank", "(I)I"⟩
abbrev cX9_toRead : ByteArray := prog_11_method_25_code
def yX9_toRead : MethodName := ⟨RX9, "toRead", "(I)I"⟩
abbrev cX9_goesPerson : ByteArray := prog_11_method_26_code
def yX9_goesPerson : MethodName := ⟨RX9, "goesPerson", "(I)V"⟩
abbrev cX9_goesWeek : ByteArray := prog_11_method_27_code
def yX9_goesWeek : MethodName := ⟨RX9, "goesWeek", "()V"⟩
abbrev cX9_goes : ByteArray := prog_11_method_28_code
def yX9_goes : MethodName := ⟨RX9, "goes", "(I)V"⟩
abbrev cX9_feed : ByteArray := prog_11_method_29_code
def yX9_feed : MethodName := ⟨RX9, "feed", "(I)I"⟩
abbrev cX9_sign : ByteArray := prog_11_method_30_code
def yX9_sign : MethodName := ⟨RX9, "sign", "()I"⟩
abbrev cX9_number : ByteArray := prog_11_method_31_code
def yX9_number : MethodName := ⟨RX9, "number", "(I)I"⟩
abbrev cX9_readsDigits : ByteArray := prog_11_method_32_code
def yX9_readsDigits : MethodName := ⟨RX9, "readsDigits", "(I)Z"⟩
abbrev cX9_readsTitle : ByteArray := prog_11_method_33_code
def yX9_readsTitle : MethodName := ⟨RX9, "readsTitle", "()Z"⟩
abbrev cX9_stepOf : ByteArray := prog_11_method_34_code
def yX9_stepOf : MethodName := ⟨RX9, "stepOf", "(I)I"⟩
abbrev cX9_readsSteps : ByteArray := prog_11_method_35_code
def yX9_readsSteps : MethodName := ⟨RX9, "readsSteps", "()Z"⟩
abbrev cX9_readsAll : ByteArray := prog_11_method_36_code
def yX9_readsAll : MethodName := ⟨RX9, "readsAll", "(I)Z"⟩
abbrev cX9_statement : ByteArray := prog_11_method_37_code
def yX9_statement : MethodName := ⟨RX9, "statement", "()Z"⟩
abbrev cX9_isTitled : ByteArray := prog_11_method_38_code
def yX9_isTitled : MethodName := ⟨RX9, "isTitled", "(III)Z"⟩
abbrev cX9_titledBy : ByteArray := prog_11_method_39_code
def yX9_titledBy : MethodName := ⟨RX9, "titledBy", "(I)I"⟩
abbrev cX9_isMore : ByteArray := prog_11_method_40_code
def yX9_isMore : MethodName := ⟨RX9, "isMore", "(III)V"⟩
abbrev cX9_isBrought : ByteArray := prog_11_method_41_code
def yX9_isBrought : MethodName := ⟨RX9, "isBrought", "(III)V"⟩
abbrev cX9_isTitledMore : ByteArray := prog_11_method_42_code
def yX9_isTitledMore : MethodName := ⟨RX9, "isTitledMore", "(I)V"⟩
abbrev cX9_comesPerson : ByteArray := prog_11_method_43_code
def yX9_comesPerson : MethodName := ⟨RX9, "comesPerson", "(I)Z"⟩
abbrev cX9_comesBook : ByteArray := prog_11_method_44_code
def yX9_comesBook : MethodName := ⟨RX9, "comesBook", "(II)Z"⟩
abbrev cX9_comesReading : ByteArray := prog_11_method_45_code
def yX9_comesReading : MethodName := ⟨RX9, "comesReading", "(II)Z"⟩
abbrev cX9_comesHolding : ByteArray := prog_11_method_46_code
def yX9_comesHolding : MethodName := ⟨RX9, "comesHolding", "(II)Z"⟩
abbrev cX9_comesLaw : ByteArray := prog_11_method_47_code
def yX9_comesLaw : MethodName := ⟨RX9, "comesLaw", "(I)Z"⟩
abbrev cX9_comesWeeks : ByteArray := prog_11_method_48_code
def yX9_comesWeeks : MethodName := ⟨RX9, "comesWeeks", "(I)Z"⟩
abbrev cX9_comesTold : ByteArray := prog_11_method_49_code
def yX9_comesTold : MethodName := ⟨RX9, "comesTold", "(I)Z"⟩
abbrev cX9_town : ByteArray := prog_11_method_50_code
def yX9_town : MethodName := ⟨RX9, "town", "()I"⟩
abbrev cX9_passes : ByteArray := prog_11_method_51_code
def yX9_passes : MethodName := ⟨RX9, "passes", "([I)V"⟩
abbrev cX9_passOne : ByteArray := prog_11_method_52_code
def yX9_passOne : MethodName := ⟨RX9, "passOne", "(I)I"⟩
abbrev cX9_passesAll : ByteArray := prog_11_method_53_code
def yX9_passesAll : MethodName := ⟨RX9, "passesAll", "(IZ)V"⟩
abbrev cX9_minds : ByteArray := prog_11_method_54_code
def yX9_minds : MethodName := ⟨RX9, "minds", "()V"⟩
abbrev cX9_forgets : ByteArray := prog_11_method_55_code
def yX9_forgets : MethodName := ⟨RX9, "forgets", "()V"⟩
abbrev cX9_remembers : ByteArray := prog_11_method_56_code
def yX9_remembers : MethodName := ⟨RX9, "remembers", "()V"⟩
abbrev cX9_back : ByteArray := prog_11_method_57_code
def yX9_back : MethodName := ⟨RX9, "back", "()I"⟩
abbrev cX9_image : ByteArray := prog_11_method_58_code
def yX9_image : MethodName := ⟨RX9, "image", "()I"⟩
abbrev cX9_restore : ByteArray := prog_11_method_59_code
def yX9_restore : MethodName := ⟨RX9, "restore", "()I"⟩
abbrev cX9_manyRead : ByteArray := prog_11_method_60_code
def yX9_manyRead : MethodName := ⟨RX9, "manyRead", "(I)I"⟩
abbrev cX9_manyIn : ByteArray := prog_11_method_61_code
def yX9_manyIn : MethodName := ⟨RX9, "manyIn", "([III)I"⟩
abbrev cX9_person : ByteArray := prog_11_method_62_code
def yX9_person : MethodName := ⟨RX9, "person", "(II)I"⟩
abbrev cX9_book : ByteArray := prog_11_method_63_code
def yX9_book : MethodName := ⟨RX9, "book", "(II)I"⟩
abbrev cX9_title : ByteArray := prog_11_method_64_code
def yX9_title : MethodName := ⟨RX9, "title", "(II)I"⟩
abbrev cX9_comes : ByteArray := prog_11_method_65_code
def yX9_comes : MethodName := ⟨RX9, "comes", "(III)I"⟩
abbrev cX9_isLetterTitle : ByteArray := prog_11_method_66_code
def yX9_isLetterTitle : MethodName := ⟨RX9, "isLetterTitle", "(I)Z"⟩
abbrev cX9_brings : ByteArray := prog_11_method_67_code
def yX9_brings : MethodName := ⟨RX9, "brings", "(IIII)I"⟩
abbrev cX9_eats : ByteArray := prog_11_method_68_code
def yX9_eats : MethodName := ⟨RX9, "eats", "(II)I"⟩
abbrev cX9_reads : ByteArray := prog_11_method_69_code
def yX9_reads : MethodName := ⟨RX9, "reads", "(II)I"⟩
abbrev cX9_lends : ByteArray := prog_11_method_70_code
def yX9_lends : MethodName := ⟨RX9, "lends", "(II)I"⟩
abbrev cX9_buys : ByteArray := prog_11_method_71_code
def yX9_buys : MethodName := ⟨RX9, "buys", "(II)I"⟩
abbrev cX9_step : ByteArray := prog_11_method_72_code
def yX9_step : MethodName := ⟨RX9, "step", "(II)I"⟩
abbrev cX9_clearLaw : ByteArray := prog_11_method_73_code
def yX9_clearLaw : MethodName := ⟨RX9, "clearLaw", "()I"⟩
abbrev cX9_weeks : ByteArray := prog_11_method_74_code
def yX9_weeks : MethodName := ⟨RX9, "weeks", "(I)I"⟩
abbrev cX9_over : ByteArray := prog_11_method_75_code
def yX9_over : MethodName := ⟨RX9, "over", "(II)I"⟩
abbrev cX9_pan : ByteArray := prog_11_method_76_code
def yX9_pan : MethodName := ⟨RX9, "pan", "(III)I"⟩
abbrev cX9_overThen : ByteArray := prog_11_method_77_code
def yX9_overThen : MethodName := ⟨RX9, "overThen", "(III)I"⟩
abbrev cX9_then : ByteArray := prog_11_method_78_code
def yX9_then : MethodName := ⟨RX9, "then", "(III)I"⟩
abbrev cX9_whenFrom : ByteArray := prog_11_method_79_code
def yX9_whenFrom : MethodName := ⟨RX9, "whenFrom", "(II)I"⟩
abbrev cX9_when : ByteArray := prog_11_method_80_code
def yX9_when : MethodName := ⟨RX9, "when", "(II)I"⟩
abbrev cX9_marksDown : ByteArray := prog_11_method_81_code
def yX9_marksDown : MethodName := ⟨RX9, "marksDown", "()V"⟩
abbrev cX9_firstDown : ByteArray := prog_11_method_82_code
def yX9_firstDown : MethodName := ⟨RX9, "firstDown", "()I"⟩
abbrev cX9_first : ByteArray := prog_11_method_83_code
def yX9_first : MethodName := ⟨RX9, "first", "()I"⟩
abbrev cX9_pricesOf : ByteArray := prog_11_method_84_code
def yX9_pricesOf : MethodName := ⟨RX9, "pricesOf", "(I)I"⟩
abbrev cX9_ownedBy : ByteArray := prog_11_method_85_code
def yX9_ownedBy : MethodName := ⟨RX9, "ownedBy", "(I)I"⟩
abbrev cX9_isBetter : ByteArray := prog_11_method_86_code
def yX9_isBetter : MethodName := ⟨RX9, "isBetter", "(II)Z"⟩
abbrev cX9_buy : ByteArray := prog_11_method_87_code
def yX9_buy : MethodName := ⟨RX9, "buy", "(III)I"⟩
abbrev cX9_borrow : ByteArray := prog_11_method_88_code
def yX9_borrow : MethodName := ⟨RX9, "borrow", "(III)I"⟩
abbrev cX9_taught : ByteArray := prog_11_method_89_code
def yX9_taught : MethodName := ⟨RX9, "taught", "(IIII)I"⟩
abbrev cX9_leastIn : ByteArray := prog_11_method_90_code
def yX9_leastIn : MethodName := ⟨RX9, "leastIn", "(I)I"⟩
abbrev cX9_findMost : ByteArray := prog_11_method_91_code
def yX9_findMost : MethodName := ⟨RX9, "findMost", "()V"⟩
abbrev cX9_partnerFor : ByteArray := prog_11_method_92_code
def yX9_partnerFor : MethodName := ⟨RX9, "partnerFor", "(III)I"⟩
abbrev cX9_findPartners : ByteArray := prog_11_method_93_code
def yX9_findPartners : MethodName := ⟨RX9, "findPartners", "()V"⟩
abbrev cX9_couples : ByteArray := prog_11_method_94_code
def yX9_couples : MethodName := ⟨RX9, "couples", "(I)I"⟩
abbrev cX9_isHeavier : ByteArray := prog_11_method_95_code
def yX9_isHeavier : MethodName := ⟨RX9, "isHeavier", "(IIII)Z"⟩
abbrev cX9_heavierThan : ByteArray := prog_11_method_96_code
def yX9_heavierThan : MethodName := ⟨RX9, "heavierThan", "(III)I"⟩
abbrev cX9_heaviest : ByteArray := prog_11_method_97_code
def yX9_heaviest : MethodName := ⟨RX9, "heaviest", "(III)I"⟩
abbrev cX9_wasSo : ByteArray := prog_11_method_98_code
def yX9_wasSo : MethodName := ⟨RX9, "wasSo", "(II)Z"⟩
abbrev cX9_whatKind : ByteArray := prog_11_method_99_code
def yX9_whatKind : MethodName := ⟨RX9, "whatKind", "(IIII)I"⟩
abbrev cX9_gives : ByteArray := prog_11_method_100_code
def yX9_gives : MethodName := ⟨RX9, "gives", "(I)V"⟩
abbrev cX9_findEnds : ByteArray := prog_11_method_101_code
def yX9_findEnds : MethodName := ⟨RX9, "findEnds", "(III)V"⟩
abbrev cX9_two : ByteArray := prog_11_method_102_code
def yX9_two : MethodName := ⟨RX9, "two", "(III)I"⟩
abbrev cX9_divisor : ByteArray := prog_11_method_103_code
def yX9_divisor : MethodName := ⟨RX9, "divisor", "(JJ)J"⟩
abbrev cX9_partOf : ByteArray := prog_11_method_104_code
def yX9_partOf : MethodName := ⟨RX9, "partOf", "(JJI)J"⟩
abbrev cX9_damp : ByteArray := prog_11_method_105_code
def yX9_damp : MethodName := ⟨RX9, "damp", "(IIIII)J"⟩
abbrev cX9_titles : ByteArray := prog_11_method_106_code
def yX9_titles : MethodName := ⟨RX9, "titles", "(II)I"⟩
abbrev cX9_from : ByteArray := prog_11_method_107_code
def yX9_from : MethodName := ⟨RX9, "from", "(I)I"⟩
abbrev cX9_kindsOn : ByteArray := prog_11_method_108_code
def yX9_kindsOn : MethodName := ⟨RX9, "kindsOn", "(I)I"⟩
abbrev cX9_manyOn : ByteArray := prog_11_method_109_code
def yX9_manyOn : MethodName := ⟨RX9, "manyOn", "(II)I"⟩
abbrev cX9_mostOn : ByteArray := prog_11_method_110_code
def yX9_mostOn : MethodName := ⟨RX9, "mostOn", "(I)I"⟩
abbrev cX9_pricesOn : ByteArray := prog_11_method_111_code
def yX9_pricesOn : MethodName := ⟨RX9, "pricesOn", "(I)I"⟩
abbrev cX9_shelf : ByteArray := prog_11_method_112_code
def yX9_shelf : MethodName := ⟨RX9, "shelf", "(II)I"⟩
abbrev cX9_sizeOf : ByteArray := prog_11_method_113_code
def yX9_sizeOf : MethodName := ⟨RX9, "sizeOf", "(I)I"⟩
abbrev cX9_closest : ByteArray := prog_11_method_114_code
def yX9_closest : MethodName := ⟨RX9, "closest", "()I"⟩
abbrev cX9_poor : ByteArray := prog_11_method_115_code
def yX9_poor : MethodName := ⟨RX9, "poor", "()I"⟩
abbrev cX9_unread : ByteArray := prog_11_method_116_code
def yX9_unread : MethodName := ⟨RX9, "unread", "()I"⟩
abbrev cX9_lent : ByteArray := prog_11_method_117_code
def yX9_lent : MethodName := ⟨RX9, "lent", "()I"⟩
abbrev cX9_sight : ByteArray := prog_11_method_118_code
def yX9_sight : MethodName := ⟨RX9, "sight", "(I)I"⟩
abbrev cX9_share : ByteArray := prog_11_method_119_code
def yX9_share : MethodName := ⟨RX9, "share", "(II)J"⟩
abbrev cX9_byHeart : ByteArray := prog_11_method_120_code
def yX9_byHeart : MethodName := ⟨RX9, "byHeart", "(II)I"⟩
abbrev cX9_kinds : ByteArray := prog_11_method_121_code
def yX9_kinds : MethodName := ⟨RX9, "kinds", "(I)I"⟩
abbrev cX9_row : ByteArray := prog_11_method_122_code
def yX9_row : MethodName := ⟨RX9, "row", "(I)I"⟩
abbrev cX9_judge : ByteArray := prog_11_method_123_code
def yX9_judge : MethodName := ⟨RX9, "judge", "()I"⟩
abbrev cX9_clear : ByteArray := prog_11_method_124_code
def yX9_clear : MethodName := ⟨RX9, "clear", "()I"⟩
abbrev cX9_draw : ByteArray := prog_11_method_125_code
def yX9_draw : MethodName := ⟨RX9, "draw", "(I)I"⟩
abbrev cX9_allRead : ByteArray := prog_11_method_126_code
def yX9_allRead : MethodName := ⟨RX9, "allRead", "()I"⟩
abbrev cX9_manyDown : ByteArray := prog_11_method_127_code
def yX9_manyDown : MethodName := ⟨RX9, "manyDown", "()I"⟩
abbrev cX9_lots : ByteArray := prog_11_method_128_code
def yX9_lots : MethodName := ⟨RX9, "lots", "(III)I"⟩
abbrev cX9_count : ByteArray := prog_11_method_129_code
def yX9_count : MethodName := ⟨RX9, "count", "(I)I"⟩
abbrev cX9_allWeights : ByteArray := prog_11_method_130_code
def yX9_allWeights : MethodName := ⟨RX9, "allWeights", "()I"⟩
def RJ6 : String := "java/lang/Integer"
abbrev cJ6_bitCount_0f7a4 : ByteArray := prog_12_method_49_code
def yJ6_bitCount_0f7a4 : MethodName := ⟨RJ6, "bitCount", "(I)I"⟩
def RL : String := "WeighedInBooksLaw"
abbrev cL_law : ByteArray := code
def yL_law : MethodName := ⟨RL, "law", "([I)Z"⟩
def jm_off : Nat := 81
end
section
abbrev jm_LV : Type := List (Option Value)
abbrev jm_M : Type := Nat → Nat → Nat → Int32
abbrev jm_Dsc : Type := Nat ⊕ ((Nat × List (Option (Nat × Nat))) ⊕ List (Nat × Nat))
abbrev jm_Lay : Type := List ((Nat × Nat) × jm_Dsc)
abbrev jm_Ev : Type := Launch × va_G × ClassId × ClassId × Nat × (Nat → Nat → Nat)
def jm_l (E : jm_Ev) : Launch := E.1
def jm_D (E : jm_Ev) : va_G := E.2.1
def jm_cI (E : jm_Ev) : ClassId := E.2.2.1
def jm_cT (E : jm_Ev) : ClassId := E.2.2.2.1
def jm_tS (E : jm_Ev) : Nat := E.2.2.2.2.1
def jm_a (E : jm_Ev) (t j : Nat) : Nat := E.2.2.2.2.2 t j
abbrev jm_cl : List vw_C := [(RX0, TX0, 4), (RX1, TX1, 4), (RX2, TX2, 7), (RX4, TX4, 3), (RX5, TX5, 4), (RX7, TX7, 15), (RX8, TX8, 12), (RX9, TX9, 44)]
abbrev jm_tys (E : jm_Ev) : List (ClassId × FieldType) := [(jm_cI E, .int), (jm_cT E, .object "WeighedInBooks$Town")]
def jm_fv (E : jm_Ev) (f : Nat → Int32) : List (Option (Nat × Nat)) → Nat → List Value
  | [], _ => []
  | none :: r, k => .int (f k) :: jm_fv E f r (k + 1)
  | some q :: r, k => .ref (jm_a E q.1 q.2) :: jm_fv E f r (k + 1)
def jm_cell (E : jm_Ev) (M : jm_M) (q : (Nat × Nat) × jm_Dsc) : Nat × va_E :=
  (jm_a E q.1.1 q.1.2, match q.2 with
    | .inl n => .inl (jm_cI E, n, .inl (M q.1.1 q.1.2))
    | .inr (.inl o) => .inr (o.1, jm_fv E (M q.1.1 q.1.2) o.2 0)
    | .inr (.inr rs) => .inl (jm_cT E, rs.length, .inr (.inr (.inr (.inr (fun i => (rs[i]?).map (fun r => jm_a E r.1 r.2)))))))
def jm_ws (E : jm_Ev) (X : jm_Lay) (M : jm_M) : va_W := X.map (jm_cell E M)
def jm_A (E : jm_Ev) (X : jm_Lay) : Nat → Prop := fun q => ∃ r ∈ X, q = jm_a E r.1.1 r.1.2
def jm_dj (E : jm_Ev) (X : jm_Lay) : Prop := ∀ (i j : Nat) (p q : (Nat × Nat) × jm_Dsc), X[i]? = some p → X[j]? = some q → jm_a E p.1.1 p.1.2 = jm_a E q.1.1 q.1.2 → i = j
def jm_up (M : jm_M) (t j i : Nat) (v : Int32) : jm_M := fun a b k => if a = t ∧ b = j ∧ k = i then v else M a b k
def jm_cp (M : jm_M) (t j t' j' n : Nat) : jm_M := fun a b k => if a = t' ∧ b = j' ∧ k < n then M t j k else M a b k
def jm_rd (n : Nat) (f : Nat → Int32) (i : Int32) : Option Int32 := if i < 0 ∨ n ≤ i.toNatClampNeg then none else some (f i.toNatClampNeg)
def jm_wa (n : Nat) (M : jm_M) (t j : Nat) (i v : Int32) : Option jm_M := if i < 0 ∨ n ≤ i.toNatClampNeg then none else some (jm_up M t j i.toNatClampNeg v)
def jm_wf (M : jm_M) (t k : Nat) (v : Int32) : Option jm_M := some (jm_up M t 0 k v)
def jm_wz (M : jm_M) (t k : Nat) (v : Int32) : Option jm_M := if v = 0 ∨ v = 1 then some (jm_up M t 0 k v) else none
def jm_dv (x y : Int32) : Option Int32 := if y = 0 then none else some (x / y)
def jm_rm (x y : Int32) : Option Int32 := if y = 0 then none else some (x - x / y * y)
def jm_ldv (x y : Int64) : Option Int64 := if y = 0 then none else some (x / y)
def jm_lrm (x y : Int64) : Option Int64 := if y = 0 then none else some (x - x / y * y)
def jm_bz (v : Int32) : Option Int32 := if v = 0 ∨ v = 1 then some v else none
def jm_len (X : jm_Lay) (r : Nat × Nat) : Option Nat := match X.find? (fun q => q.1.1 == r.1 && q.1.2 == r.2) with
  | some (_, .inl n) => some n
  | _ => none
def jm_loop {σ ε : Type} (f : σ → Option (σ ⊕ ε)) : Nat → σ → Option ε
  | 0, _ => none
  | n + 1, s => match f s with
    | some (.inl s') => jm_loop f n s'
    | some (.inr e) => some e
    | none => none
def jm_N : Nat := 1000000
def jm_SL : Nat → Int32 := fun k => if k = 0 then 97 else if k = 1 then 108 else if k = 2 then 99 else if k = 3 then 116 else if k = 4 then 100 else if k = 5 then 117 else if k = 6 then 104 else 111
/-! locals -/
def jm_lv (ls : Array Slot) (nL : Nat) (lv : jm_LV) : Prop := ls.size = nL ∧ lv_wf ls ∧ ∀ (i : Nat) (v : Value), lv[i]? = some (some v) → ls[i]? = some (.val v)
def jm_pairs (lv : jm_LV) : List (Nat × Value) := (List.range lv.length).filterMap (fun i => (lv.getD i none).map (fun v => (i, v)))
theorem jm_pairs_mem {lv : jm_LV} {i : Nat} {v : Value} (h : lv[i]? = some (some v)) : (i, v) ∈ jm_pairs lv := by
  refine List.mem_filterMap.mpr ⟨i, List.mem_range.mpr (List.getElem?_eq_some_iff.mp h).1, ?_⟩
  rw [List.getD_eq_getElem?_getD, h]
  rfl
theorem jm_pairs_of {lv : jm_LV} {q : Nat × Value} (h : q ∈ jm_pairs lv) : lv[q.1]? = some (some q.2) := by
  obtain ⟨i, -, e⟩ := List.mem_filterMap.mp h
  rw [List.getD_eq_getElem?_getD] at e
  cases hx : lv[i]? with
  | none => rw [hx] at e; cases e
  | some o =>
    rw [hx] at e
    cases o with
    | none => cases e
    | some v => cases e; exact hx
theorem jm_lv_has {ls : Array Slot} {nL : Nat} {lv : jm_LV} (h : jm_lv ls nL lv) : lv_has ls nL (jm_pairs lv) := ⟨h.1, h.2.1, fun q hq => h.2.2 _ _ (jm_pairs_of hq)⟩
def jm_c1 (lv : jm_LV) (i : Nat) : Bool := match i with
  | 0 => true
  | k + 1 => match lv[k]? with
    | some (some v) => v.category == 1
    | _ => true
theorem jm_c1_ne {lv : jm_LV} {j i : Nat} {w : Value} (h1 : jm_c1 lv i = true) (hj : lv[j]? = some (some w)) (hji : j + 1 = i) : (w.category == 2) = false := by
  subst hji
  simp only [jm_c1, hj] at h1
  rw [beq_iff_eq] at h1
  rw [h1]
  rfl
theorem jm_lv_st1 {ls : Array Slot} {nL i : Nat} {lv : jm_LV} {v : Value} (h1 : jm_c1 lv i = true) (h : lv_has ls nL ((i, v) :: (jm_pairs lv).filter (fun q => !(q.1 == i) && !(q.1 + 1 == i && q.2.category == 2)))) : jm_lv ls nL (lv.set i (some v)) := by
  refine ⟨h.1, h.2.1, fun j w hj => ?_⟩
  rw [List.getElem?_set] at hj
  split at hj
  next hij =>
    subst hij
    split at hj
    · cases hj; exact h.2.2 (i, v) List.mem_cons_self
    · cases hj
  next hij =>
    refine h.2.2 (j, w) (List.mem_cons_of_mem _ (List.mem_filter.mpr ⟨jm_pairs_mem hj, ?_⟩))
    have e1 : (j == i) = false := by simpa using fun e => hij e.symm
    by_cases hji : j + 1 = i
    · have e2 := jm_c1_ne h1 hj hji
      simp [e1, e2]
    · have e3 : (j + 1 == i) = false := by simpa using hji
      simp [e1, e3]
theorem jm_lv_st2 {ls : Array Slot} {nL i : Nat} {lv : jm_LV} {v : Value} (h1 : jm_c1 lv i = true) (h : lv_has ls nL ((i, v) :: (jm_pairs lv).filter (fun q => !(q.1 == i) && (!(q.1 == i + 1) && !(q.1 + 1 == i && q.2.category == 2))))) : jm_lv ls nL ((lv.set i (some v)).set (i + 1) none) := by
  refine ⟨h.1, h.2.1, fun j w hj => ?_⟩
  rw [List.getElem?_set] at hj
  split at hj
  next hij => split at hj <;> cases hj
  next hij2 =>
    rw [List.getElem?_set] at hj
    split at hj
    next hij =>
      subst hij
      split at hj
      · cases hj; exact h.2.2 (i, v) List.mem_cons_self
      · cases hj
    next hij =>
      refine h.2.2 (j, w) (List.mem_cons_of_mem _ (List.mem_filter.mpr ⟨jm_pairs_mem hj, ?_⟩))
      have e1 : (j == i) = false := by simpa using fun e => hij e.symm
      have e4 : (j == i + 1) = false := by simpa using fun e => hij2 e.symm
      by_cases hji : j + 1 = i
      · have e2 := jm_c1_ne h1 hj hji
        simp [e1, e2, e4]
      · have e3 : (j + 1 == i) = false := by simpa using hji
        simp [e1, e3, e4]
/-! worlds -/
theorem jm_ws_at {E : jm_Ev} {X : jm_Lay} {M : jm_M} {q : Nat} {r : (Nat × Nat) × jm_Dsc} (h : X[q]? = some r) : (jm_ws E X M)[q]? = some (jm_cell E M r) := by
  rw [jm_ws, List.getElem?_map, h]; rfl
theorem jm_ws_set {E : jm_Ev} {X : jm_Lay} (hd : jm_dj E X) {M M' : jm_M} {q : Nat} {r : (Nat × Nat) × jm_Dsc} {x : Nat × va_E} (h : X[q]? = some r) (hx : x = jm_cell E M' r) (hM : ∀ a b, ¬ (a = r.1.1 ∧ b = r.1.2) → M' a b = M a b) : (jm_ws E X M).set q x = jm_ws E X M' := by
  apply List.ext_getElem?
  intro k
  rw [List.getElem?_set]
  split
  next hk =>
    subst hk
    rw [jm_ws_at h, hx]
    have hl : q < (jm_ws E X M).length := by
      rw [jm_ws, List.length_map]
      exact (List.getElem?_eq_some_iff.mp h).1
    rw [if_pos hl]
  next hk =>
    cases hp : X[k]? with
    | none => rw [jm_ws, jm_ws, List.getElem?_map, List.getElem?_map, hp]; rfl
    | some p =>
      rw [jm_ws_at hp, jm_ws_at hp]
      have hne : ¬ (p.1.1 = r.1.1 ∧ p.1.2 = r.1.2) := fun e => hk (hd q k r p h hp (by rw [e.1, e.2]))
      have e := hM _ _ hne
      rw [jm_cell, jm_cell, e]
theorem jm_D_of {E : jm_Ev} {X : jm_Lay} (hd : jm_dj E X) (M : jm_M) : va_D (jm_A E X) (jm_ws E X M) := by
  have key : ∀ (k : Nat) (p : Nat × va_E), (jm_ws E X M)[k]? = some p → ∃ r, X[k]? = some r ∧ p.1 = jm_a E r.1.1 r.1.2 := by
    intro k p h
    rw [jm_ws, List.getElem?_map] at h
    cases hr : X[k]? with
    | none => rw [hr] at h; cases h
    | some r => rw [hr] at h; cases h; exact ⟨r, rfl, rfl⟩
  refine ⟨fun i j p q hp hq e => ?_, fun k q h => ?_⟩
  · obtain ⟨r1, h1, e1⟩ := key i p hp
    obtain ⟨r2, h2, e2⟩ := key j q hq
    exact hd i j r1 r2 h1 h2 (by rw [← e1, ← e2, e])
  · obtain ⟨r, h1, e1⟩ := key k q h
    exact ⟨r, List.mem_of_getElem? h1, e1⟩
theorem jm_fv_int {E : jm_Ev} {f : Nat → Int32} (fs : List (Option (Nat × Nat))) : ∀ (c k : Nat), fs[k]? = some none → (jm_fv E f fs c)[k]? = some (.int (f (c + k))) := by
  induction fs with
  | nil => intro c k h; simp at h
  | cons o r ih =>
    intro c k h
    cases k with
    | zero => simp only [List.getElem?_cons_zero, Option.some.injEq] at h; subst h; simp [jm_fv]
    | succ k =>
      simp only [List.getElem?_cons_succ] at h
      have h2 := ih (c + 1) k h
      rw [show c + 1 + k = c + (k + 1) by omega] at h2
      cases o with
      | none => simpa [jm_fv] using h2
      | some q => simpa [jm_fv] using h2
theorem jm_fv_ref {E : jm_Ev} {f : Nat → Int32} (fs : List (Option (Nat × Nat))) : ∀ (c k : Nat) {q : Nat × Nat}, fs[k]? = some (some q) → (jm_fv E f fs c)[k]? = some (.ref (jm_a E q.1 q.2)) := by
  induction fs with
  | nil => intro c k q h; simp at h
  | cons o r ih =>
    intro c k q h
    cases k with
    | zero => simp only [List.getElem?_cons_zero, Option.some.injEq] at h; subst h; simp [jm_fv]
    | succ k =>
      simp only [List.getElem?_cons_succ] at h
      have h2 := ih (c + 1) k h
      cases o with
      | none => simpa [jm_fv] using h2
      | some q => simpa [jm_fv] using h2
theorem jm_fv_len {E : jm_Ev} {f : Nat → Int32} (fs : List (Option (Nat × Nat))) : ∀ c, (jm_fv E f fs c).length = fs.length := by
  induction fs with
  | nil => intro c; rfl
  | cons o r ih =>
    intro c
    cases o <;> simp [jm_fv, ih]
theorem jm_fv_set {E : jm_Ev} {f : Nat → Int32} {v : Int32} (fs : List (Option (Nat × Nat))) : ∀ (c k : Nat), fs[k]? = some none → (jm_fv E f fs c).set k (.int v) = jm_fv E (fun j => if j = c + k then v else f j) fs c := by
  have same : ∀ (fs : List (Option (Nat × Nat))) (c d : Nat), d < c → jm_fv E (fun j => if j = d then v else f j) fs c = jm_fv E f fs c := by
    intro fs
    induction fs with
    | nil => intro c d _; rfl
    | cons o r ih =>
      intro c d h
      have h1 := ih (c + 1) d (by omega)
      have h2 : ¬ c = d := by omega
      cases o <;> simp [jm_fv, h1, h2]
  induction fs with
  | nil => intro c k h; simp at h
  | cons o r ih =>
    intro c k h
    cases k with
    | zero =>
      simp only [List.getElem?_cons_zero, Option.some.injEq] at h
      subst h
      simp [jm_fv, same r (c + 1) c (by omega)]
    | succ k =>
      simp only [List.getElem?_cons_succ] at h
      have h2 := ih (c + 1) k h
      rw [show c + 1 + k = c + (k + 1) by omega] at h2
      have h3 : ¬ c = c + (k + 1) := by omega
      cases o with
      | none => simp [jm_fv, h2, h3]
      | some q => simp [jm_fv, h2]
/-! the walk -/
def jm_Z (E : jm_Ev) (X : jm_Lay) (U : State) (H : Heap) : Prop := va_Z "WeighedInBooks$Statements" "STEP_LETTERS" "[C" (.ref (jm_tS E)) (jm_A E X) U H ∧ va_T .char (jm_tS E) 8 (fun k => .int (jm_SL k)) (jm_A E X) U H
def jm_tb : List Cond := lw_tbl.filter goodWord
def jm_W (E : jm_Ev) (X : jm_Lay) (p : Program) (e : Env) (R : Room) (s : State) (m : MethodId) (args : Array Value) (below : List Frame) (meth : Method) (c : Code) (Q : State → Prop) (nL : Nat) (pc : Nat) (lv : jm_LV) (st : List Value) (M : jm_M) : Prop :=
  ∀ (ls : Array Slot) (H : Heap) (locs : List Loc), jm_lv ls nL lv → va_P (jm_D E) jm_cl (jm_ws E X M) H → va_S (jm_A E X) s.heap H locs → W p (jm_l E) e R s m args below meth c H locs 0 0 Q (F0 m pc ls st)
def jm_Qz (E : jm_Ev) (X : jm_Lay) (z : Option Value → jm_M → Prop) : Array Value → State → Outcome → State → Prop := fun _ st oc t => (∃ (v : Option Value) (M : jm_M), oc = .returned v ∧ z v M ∧ va_P (jm_D E) jm_cl (jm_ws E X M) t.heap) ∧ va_F (jm_A E X) st t
def jm_F (E : jm_Ev) (X : jm_Lay) (own : String) (cc : ByteArray) (nL : Nat) (ret : Option FieldType) (d n : Nat) (z : Option Value → jm_M → Prop) (w : Nat → jm_LV → List Value → jm_M → Prop) : Prop :=
  ∃ (p : Program) (e : Env) (s : State) (m : MethodId) (args : Array Value) (below : List Frame) (meth : Method) (c : Code),
    w = jm_W E X p e ({ frames := d, cells := 0, slots := 0, locals := n } : Room) s m args below meth c (MQ below (jm_Qz E X z) args s 0 0 (jm_A E X)) nL ∧
    p.tables.exec = Jvm.exec ∧ c.code = cc ∧ c.maxLocals = nL ∧ s.vm.findClass own = some m.cls ∧ (∀ w ∈ jm_tb, w.before args s = true) ∧ meth.sig.returnType = ret ∧ meth.locks = false ∧
    va_K (jm_D E) jm_cl (jm_tys E) s ∧ jm_dj E X ∧ jm_Z E X s s.heap
def jm_G {τ : Type} (w : Nat → jm_LV → List Value → jm_M → Prop) (pc : Nat) (lv : jm_LV) (st : List Value) (M : jm_M) (o : Option τ) (K : τ → Prop) : Prop := ∀ r, o = some r → K r → w pc lv st M
def jm_d (cc : ByteArray) (pc : Nat) (i : Instr) (len nxt : Nat) : Prop := decode cc pc = .ok (i, len) ∧ pc + len = nxt
def jm_b (cc : ByteArray) (pc : Nat) (i : Int → Instr) (nxt tgt : Nat) : Prop := ∃ off : Int, decode cc pc = .ok (i off, 3) ∧ pc + 3 = nxt ∧ (pc : Int) + off = (tgt : Int)
def jm_obj (X : jm_Lay) (t ci : Nat) (fs : List (Option (Nat × Nat))) : Prop := ∃ q : Nat, X[q]? = some (((t, 0), Sum.inr (Sum.inl (ci, fs))) : (Nat × Nat) × jm_Dsc)
def jm_arr (X : jm_Lay) (t j n : Nat) : Prop := ∃ q : Nat, X[q]? = some (((t, j), Sum.inl n) : (Nat × Nat) × jm_Dsc)
def jm_rar (X : jm_Lay) (t j : Nat) (rs : List (Nat × Nat)) : Prop := ∃ q : Nat, X[q]? = some (((t, j), Sum.inr (Sum.inr rs)) : (Nat × Nat) × jm_Dsc)
def jm_Fl (own : String) (index ci k : Nat) : Prop := ∃ (C : String) (T : u_T) (N : Nat), jm_cl[ci]? = some (C, T, N) ∧ k < N ∧ (∀ w ∈ u_ws C T N, w ∈ jm_tb) ∧ Cond.fieldLink own index (T k).1 (T k).2.1 (T k).2.2.1 ∈ jm_tb
def jm_Fp (own : String) (index ci k : Nat) (ty : FieldType) : Prop := ∃ (C : String) (T : u_T) (N : Nat) (ty0 : Nat → FieldType), jm_cl[ci]? = some (C, T, N) ∧ k < N ∧ (∀ w ∈ u_ws C T N, w ∈ jm_tb) ∧ Cond.fieldLink own index (T k).1 (T k).2.1 (T k).2.2.1 ∈ jm_tb ∧ (∀ k, k < N → parseFieldDescriptor (T k).2.2.1 = some (ty0 k)) ∧ (∀ a, a < N → ∀ b, b < N → a ≠ b → (T a).2.1 ≠ (T b).2.1) ∧ (T k).2.2.2 = false ∧ parseFieldDescriptor (T k).2.2.1 = some ty

section
variable {E : jm_Ev} {X : jm_Lay} {own : String} {cc : ByteArray} {nL d n : Nat} {ret : Option FieldType} {z : Option Value → jm_M → Prop} {w : Nat → jm_LV → List Value → jm_M → Prop}
variable {τ : Type} {pc pc' : Nat} {lv : jm_LV} {st : List Value} {M : jm_M} {o : Option τ} {K : τ → Prop}

theorem jm_iconst {q : Int} {v : Int32} (F : jm_F E X own cc nL ret d n z w) (hd : jm_d cc pc (.iconst q) 1 pc') (hv : Int32.ofInt q = v) (k : jm_G w pc' lv (.int v :: st) M o K) : jm_G w pc lv (st) M o K := by
  intro r h1 h2
  have k := k r h1 h2
  obtain ⟨p, e, s, m, args, below, meth, c, rfl, hx, hb, hml, hown, hts, hr, hlk, hK, hdj, hZ⟩ := F
  obtain ⟨hd, rfl⟩ := hd
  intro ls H locs hl hP hS
  exact lv_iconst hx hb hd hv (k ls H locs hl hP hS)
theorem jm_bipush {q : Int} {v : Int32} (F : jm_F E X own cc nL ret d n z w) (hd : jm_d cc pc (.bipush q) 2 pc') (hv : (Int8.ofInt q).toInt32 = v) (k : jm_G w pc' lv (.int v :: st) M o K) : jm_G w pc lv (st) M o K := by
  intro r h1 h2
  have k := k r h1 h2
  obtain ⟨p, e, s, m, args, below, meth, c, rfl, hx, hb, hml, hown, hts, hr, hlk, hK, hdj, hZ⟩ := F
  obtain ⟨hd, rfl⟩ := hd
  intro ls H locs hl hP hS
  exact lv_bipush hx hb hd hv (k ls H locs hl hP hS)
theorem jm_sipush {q : Int} {v : Int32} (F : jm_F E X own cc nL ret d n z w) (hd : jm_d cc pc (.sipush q) 3 pc') (hv : (Int16.ofInt q).toInt32 = v) (k : jm_G w pc' lv (.int v :: st) M o K) : jm_G w pc lv (st) M o K := by
  intro r h1 h2
  have k := k r h1 h2
  obtain ⟨p, e, s, m, args, below, meth, c, rfl, hx, hb, hml, hown, hts, hr, hlk, hK, hdj, hZ⟩ := F
  obtain ⟨hd, rfl⟩ := hd
  intro ls H locs hl hP hS
  exact lv_sipush hx hb hd hv (k ls H locs hl hP hS)
theorem jm_lconst {q : Fin 2} {v : Int64} (F : jm_F E X own cc nL ret d n z w) (hd : jm_d cc pc (.lconst q) 1 pc') (hv : Int64.ofNat (q : Nat) = v) (k : jm_G w pc' lv (.long v :: st) M o K) : jm_G w pc lv (st) M o K := by
  intro r h1 h2
  have k := k r h1 h2
  obtain ⟨p, e, s, m, args, below, meth, c, rfl, hx, hb, hml, hown, hts, hr, hlk, hK, hdj, hZ⟩ := F
  obtain ⟨hd, rfl⟩ := hd
  intro ls H locs hl hP hS
  exact lv_lconst hx hb hd hv (k ls H locs hl hP hS)
theorem jm_iload_n {q : Fin 4} {i : Nat} {x : Int32} (F : jm_F E X own cc nL ret d n z w) (hd : jm_d cc pc (.iload_n q) 1 pc') (hi : (q : Nat) = i) (hv : lv[i]? = some (some (.int x))) (k : jm_G w pc' lv (.int x :: st) M o K) : jm_G w pc lv (st) M o K := by
  intro r h1 h2
  have k := k r h1 h2
  obtain ⟨p, e, s, m, args, below, meth, c, rfl, hx, hb, hml, hown, hts, hr, hlk, hK, hdj, hZ⟩ := F
  obtain ⟨hd, rfl⟩ := hd
  intro ls H locs hl hP hS
  exact lv_iload_n hx hb hd hi (hl.2.2 i _ hv) (k ls H locs hl hP hS)
theorem jm_iload {i : Nat} {x : Int32} (F : jm_F E X own cc nL ret d n z w) (hd : jm_d cc pc (.iload i) 2 pc') (hv : lv[i]? = some (some (.int x))) (k : jm_G w pc' lv (.int x :: st) M o K) : jm_G w pc lv (st) M o K := by
  intro r h1 h2
  have k := k r h1 h2
  obtain ⟨p, e, s, m, args, below, meth, c, rfl, hx, hb, hml, hown, hts, hr, hlk, hK, hdj, hZ⟩ := F
  obtain ⟨hd, rfl⟩ := hd
  intro ls H locs hl hP hS
  exact lv_iload hx hb hd (hl.2.2 i _ hv) (k ls H locs hl hP hS)
theorem jm_lload_n {q : Fin 4} {i : Nat} {x : Int64} (F : jm_F E X own cc nL ret d n z w) (hd : jm_d cc pc (.lload_n q) 1 pc') (hi : (q : Nat) = i) (hv : lv[i]? = some (some (.long x))) (k : jm_G w pc' lv (.long x :: st) M o K) : jm_G w pc lv (st) M o K := by
  intro r h1 h2
  have k := k r h1 h2
  obtain ⟨p, e, s, m, args, below, meth, c, rfl, hx, hb, hml, hown, hts, hr, hlk, hK, hdj, hZ⟩ := F
  obtain ⟨hd, rfl⟩ := hd
  intro ls H locs hl hP hS
  exact lv_lload_n hx hb hd hi (hl.2.2 i _ hv) (k ls H locs hl hP hS)
theorem jm_lload {i : Nat} {x : Int64} (F : jm_F E X own cc nL ret d n z w) (hd : jm_d cc pc (.lload i) 2 pc') (hv : lv[i]? = some (some (.long x))) (k : jm_G w pc' lv (.long x :: st) M o K) : jm_G w pc lv (st) M o K := by
  intro r h1 h2
  have k := k r h1 h2
  obtain ⟨p, e, s, m, args, below, meth, c, rfl, hx, hb, hml, hown, hts, hr, hlk, hK, hdj, hZ⟩ := F
  obtain ⟨hd, rfl⟩ := hd
  intro ls H locs hl hP hS
  exact lv_lload hx hb hd (hl.2.2 i _ hv) (k ls H locs hl hP hS)
theorem jm_aload_n {q : Fin 4} {i : Nat} {x : Nat} (F : jm_F E X own cc nL ret d n z w) (hd : jm_d cc pc (.aload_n q) 1 pc') (hi : (q : Nat) = i) (hv : lv[i]? = some (some (.ref x))) (k : jm_G w pc' lv (.ref x :: st) M o K) : jm_G w pc lv (st) M o K := by
  intro r h1 h2
  have k := k r h1 h2
  obtain ⟨p, e, s, m, args, below, meth, c, rfl, hx, hb, hml, hown, hts, hr, hlk, hK, hdj, hZ⟩ := F
  obtain ⟨hd, rfl⟩ := hd
  intro ls H locs hl hP hS
  exact lv_aload_n hx hb hd hi (hl.2.2 i _ hv) (k ls H locs hl hP hS)
theorem jm_aload {i : Nat} {x : Nat} (F : jm_F E X own cc nL ret d n z w) (hd : jm_d cc pc (.aload i) 2 pc') (hv : lv[i]? = some (some (.ref x))) (k : jm_G w pc' lv (.ref x :: st) M o K) : jm_G w pc lv (st) M o K := by
  intro r h1 h2
  have k := k r h1 h2
  obtain ⟨p, e, s, m, args, below, meth, c, rfl, hx, hb, hml, hown, hts, hr, hlk, hK, hdj, hZ⟩ := F
  obtain ⟨hd, rfl⟩ := hd
  intro ls H locs hl hP hS
  exact lv_aload hx hb hd (hl.2.2 i _ hv) (k ls H locs hl hP hS)
theorem jm_iadd {x y : Int32} (F : jm_F E X own cc nL ret d n z w) (hd : jm_d cc pc (.iadd) 1 pc') (k : jm_G w pc' lv (.int (x + y) :: st) M o K) : jm_G w pc lv (.int y :: .int x :: st) M o K := by
  intro r h1 h2
  have k := k r h1 h2
  obtain ⟨p, e, s, m, args, below, meth, c, rfl, hx, hb, hml, hown, hts, hr, hlk, hK, hdj, hZ⟩ := F
  obtain ⟨hd, rfl⟩ := hd
  intro ls H locs hl hP hS
  exact lv_iadd hx hb hd (k ls H locs hl hP hS)
theorem jm_isub {x y : Int32} (F : jm_F E X own cc nL ret d n z w) (hd : jm_d cc pc (.isub) 1 pc') (k : jm_G w pc' lv (.int (x - y) :: st) M o K) : jm_G w pc lv (.int y :: .int x :: st) M o K := by
  intro r h1 h2
  have k := k r h1 h2
  obtain ⟨p, e, s, m, args, below, meth, c, rfl, hx, hb, hml, hown, hts, hr, hlk, hK, hdj, hZ⟩ := F
  obtain ⟨hd, rfl⟩ := hd
  intro ls H locs hl hP hS
  exact lv_isub hx hb hd (k ls H locs hl hP hS)
theorem jm_imul {x y : Int32} (F : jm_F E X own cc nL ret d n z w) (hd : jm_d cc pc (.imul) 1 pc') (k : jm_G w pc' lv (.int (x * y) :: st) M o K) : jm_G w pc lv (.int y :: .int x :: st) M o K := by
  intro r h1 h2
  have k := k r h1 h2
  obtain ⟨p, e, s, m, args, below, meth, c, rfl, hx, hb, hml, hown, hts, hr, hlk, hK, hdj, hZ⟩ := F
  obtain ⟨hd, rfl⟩ := hd
  intro ls H locs hl hP hS
  exact lv_imul hx hb hd (k ls H locs hl hP hS)
theorem jm_iand {x y : Int32} (F : jm_F E X own cc nL ret d n z w) (hd : jm_d cc pc (.iand) 1 pc') (k : jm_G w pc' lv (.int (x &&& y) :: st) M o K) : jm_G w pc lv (.int y :: .int x :: st) M o K := by
  intro r h1 h2
  have k := k r h1 h2
  obtain ⟨p, e, s, m, args, below, meth, c, rfl, hx, hb, hml, hown, hts, hr, hlk, hK, hdj, hZ⟩ := F
  obtain ⟨hd, rfl⟩ := hd
  intro ls H locs hl hP hS
  exact lv_iand hx hb hd (k ls H locs hl hP hS)
theorem jm_ior {x y : Int32} (F : jm_F E X own cc nL ret d n z w) (hd : jm_d cc pc (.ior) 1 pc') (k : jm_G w pc' lv (.int (x ||| y) :: st) M o K) : jm_G w pc lv (.int y :: .int x :: st) M o K := by
  intro r h1 h2
  have k := k r h1 h2
  obtain ⟨p, e, s, m, args, below, meth, c, rfl, hx, hb, hml, hown, hts, hr, hlk, hK, hdj, hZ⟩ := F
  obtain ⟨hd, rfl⟩ := hd
  intro ls H locs hl hP hS
  exact lv_ior hx hb hd (k ls H locs hl hP hS)
theorem jm_ixor {x y : Int32} (F : jm_F E X own cc nL ret d n z w) (hd : jm_d cc pc (.ixor) 1 pc') (k : jm_G w pc' lv (.int (x ^^^ y) :: st) M o K) : jm_G w pc lv (.int y :: .int x :: st) M o K := by
  intro r h1 h2
  have k := k r h1 h2
  obtain ⟨p, e, s, m, args, below, meth, c, rfl, hx, hb, hml, hown, hts, hr, hlk, hK, hdj, hZ⟩ := F
  obtain ⟨hd, rfl⟩ := hd
  intro ls H locs hl hP hS
  exact lv_ixor hx hb hd (k ls H locs hl hP hS)
theorem jm_ishl {x y : Int32} (F : jm_F E X own cc nL ret d n z w) (hd : jm_d cc pc (.ishl) 1 pc') (k : jm_G w pc' lv (.int (x <<< (y &&& 31)) :: st) M o K) : jm_G w pc lv (.int y :: .int x :: st) M o K := by
  intro r h1 h2
  have k := k r h1 h2
  obtain ⟨p, e, s, m, args, below, meth, c, rfl, hx, hb, hml, hown, hts, hr, hlk, hK, hdj, hZ⟩ := F
  obtain ⟨hd, rfl⟩ := hd
  intro ls H locs hl hP hS
  exact lv_ishl hx hb hd (k ls H locs hl hP hS)
theorem jm_ishr {x y : Int32} (F : jm_F E X own cc nL ret d n z w) (hd : jm_d cc pc (.ishr) 1 pc') (k : jm_G w pc' lv (.int (x >>> (y &&& 31)) :: st) M o K) : jm_G w pc lv (.int y :: .int x :: st) M o K := by
  intro r h1 h2
  have k := k r h1 h2
  obtain ⟨p, e, s, m, args, below, meth, c, rfl, hx, hb, hml, hown, hts, hr, hlk, hK, hdj, hZ⟩ := F
  obtain ⟨hd, rfl⟩ := hd
  intro ls H locs hl hP hS
  exact lv_ishr hx hb hd (k ls H locs hl hP hS)
theorem jm_ladd {x y : Int64} (F : jm_F E X own cc nL ret d n z w) (hd : jm_d cc pc (.ladd) 1 pc') (k : jm_G w pc' lv (.long (x + y) :: st) M o K) : jm_G w pc lv (.long y :: .long x :: st) M o K := by
  intro r h1 h2
  have k := k r h1 h2
  obtain ⟨p, e, s, m, args, below, meth, c, rfl, hx, hb, hml, hown, hts, hr, hlk, hK, hdj, hZ⟩ := F
  obtain ⟨hd, rfl⟩ := hd
  intro ls H locs hl hP hS
  exact lv_ladd hx hb hd (k ls H locs hl hP hS)
theorem jm_lsub {x y : Int64} (F : jm_F E X own cc nL ret d n z w) (hd : jm_d cc pc (.lsub) 1 pc') (k : jm_G w pc' lv (.long (x - y) :: st) M o K) : jm_G w pc lv (.long y :: .long x :: st) M o K := by
  intro r h1 h2
  have k := k r h1 h2
  obtain ⟨p, e, s, m, args, below, meth, c, rfl, hx, hb, hml, hown, hts, hr, hlk, hK, hdj, hZ⟩ := F
  obtain ⟨hd, rfl⟩ := hd
  intro ls H locs hl hP hS
  exact lv_lsub hx hb hd (k ls H locs hl hP hS)
theorem jm_lmul {x y : Int64} (F : jm_F E X own cc nL ret d n z w) (hd : jm_d cc pc (.lmul) 1 pc') (k : jm_G w pc' lv (.long (x * y) :: st) M o K) : jm_G w pc lv (.long y :: .long x :: st) M o K := by
  intro r h1 h2
  have k := k r h1 h2
  obtain ⟨p, e, s, m, args, below, meth, c, rfl, hx, hb, hml, hown, hts, hr, hlk, hK, hdj, hZ⟩ := F
  obtain ⟨hd, rfl⟩ := hd
  intro ls H locs hl hP hS
  exact lv_lmul hx hb hd (k ls H locs hl hP hS)
theorem jm_iushr {x y : Int32} (F : jm_F E X own cc nL ret d n z w) (hd : jm_d cc pc (.iushr) 1 pc') (k : jm_G w pc' lv (.int (x.toUInt32 >>> (y.toUInt32 &&& Int32.toUInt32 31)).toInt32 :: st) M o K) : jm_G w pc lv (.int y :: .int x :: st) M o K := by
  intro r h1 h2
  have k := k r h1 h2
  obtain ⟨p, e, s, m, args, below, meth, c, rfl, hx, hb, hml, hown, hts, hr, hlk, hK, hdj, hZ⟩ := F
  obtain ⟨hd, rfl⟩ := hd
  intro ls H locs hl hP hS
  exact lv_iushr hx hb hd rfl (k ls H locs hl hP hS)
theorem jm_ineg {x : Int32} (F : jm_F E X own cc nL ret d n z w) (hd : jm_d cc pc (.ineg) 1 pc') (k : jm_G w pc' lv (.int (-x) :: st) M o K) : jm_G w pc lv (.int x :: st) M o K := by
  intro r h1 h2
  have k := k r h1 h2
  obtain ⟨p, e, s, m, args, below, meth, c, rfl, hx, hb, hml, hown, hts, hr, hlk, hK, hdj, hZ⟩ := F
  obtain ⟨hd, rfl⟩ := hd
  intro ls H locs hl hP hS
  exact lv_ineg hx hb hd (k ls H locs hl hP hS)
theorem jm_i2l {x : Int32} (F : jm_F E X own cc nL ret d n z w) (hd : jm_d cc pc (.i2l) 1 pc') (k : jm_G w pc' lv (.long x.toInt64 :: st) M o K) : jm_G w pc lv (.int x :: st) M o K := by
  intro r h1 h2
  have k := k r h1 h2
  obtain ⟨p, e, s, m, args, below, meth, c, rfl, hx, hb, hml, hown, hts, hr, hlk, hK, hdj, hZ⟩ := F
  obtain ⟨hd, rfl⟩ := hd
  intro ls H locs hl hP hS
  exact lv_i2l hx hb hd rfl (k ls H locs hl hP hS)
theorem jm_lcmp {x y : Int64} (F : jm_F E X own cc nL ret d n z w) (hd : jm_d cc pc (.lcmp) 1 pc') (k : jm_G w pc' lv (.int (lg_cmp x y) :: st) M o K) : jm_G w pc lv (.long y :: .long x :: st) M o K := by
  intro r h1 h2
  have k := k r h1 h2
  obtain ⟨p, e, s, m, args, below, meth, c, rfl, hx, hb, hml, hown, hts, hr, hlk, hK, hdj, hZ⟩ := F
  obtain ⟨hd, rfl⟩ := hd
  intro ls H locs hl hP hS
  exact W.lcmp hx hb hd (k ls H locs hl hP hS)
theorem jm_dup {v : Value} (F : jm_F E X own cc nL ret d n z w) (hd : jm_d cc pc (.dup) 1 pc') (hv : v.category = 1) (k : jm_G w pc' lv (v :: v :: st) M o K) : jm_G w pc lv (v :: st) M o K := by
  intro r h1 h2
  have k := k r h1 h2
  obtain ⟨p, e, s, m, args, below, meth, c, rfl, hx, hb, hml, hown, hts, hr, hlk, hK, hdj, hZ⟩ := F
  obtain ⟨hd, rfl⟩ := hd
  intro ls H locs hl hP hS
  exact lv_dup hx hb hd hv (k ls H locs hl hP hS)
theorem jm_dup2 {u v : Value} (F : jm_F E X own cc nL ret d n z w) (hd : jm_d cc pc (.dup2) 1 pc') (hu : u.category = 1) (hv : v.category = 1) (k : jm_G w pc' lv (u :: v :: u :: v :: st) M o K) : jm_G w pc lv (u :: v :: st) M o K := by
  intro r h1 h2
  have k := k r h1 h2
  obtain ⟨p, e, s, m, args, below, meth, c, rfl, hx, hb, hml, hown, hts, hr, hlk, hK, hdj, hZ⟩ := F
  obtain ⟨hd, rfl⟩ := hd
  intro ls H locs hl hP hS
  exact lv_dup2_11 hx hb hd hu hv (k ls H locs hl hP hS)
theorem jm_pop {v : Value} (F : jm_F E X own cc nL ret d n z w) (hd : jm_d cc pc (.pop) 1 pc') (hv : v.category = 1) (k : jm_G w pc' lv (st) M o K) : jm_G w pc lv (v :: st) M o K := by
  intro r h1 h2
  have k := k r h1 h2
  obtain ⟨p, e, s, m, args, below, meth, c, rfl, hx, hb, hml, hown, hts, hr, hlk, hK, hdj, hZ⟩ := F
  obtain ⟨hd, rfl⟩ := hd
  intro ls H locs hl hP hS
  exact lv_pop hx hb hd hv (k ls H locs hl hP hS)
theorem jm_ldc {q : Nat} {v : Int32} (F : jm_F E X own cc nL ret d n z w) (hd : jm_d cc pc (.ldc q) 2 pc') (hv : Cond.constant own q v ∈ jm_tb) (k : jm_G w pc' lv (.int v :: st) M o K) : jm_G w pc lv (st) M o K := by
  intro r h1 h2
  have k := k r h1 h2
  obtain ⟨p, e, s, m, args, below, meth, c, rfl, hx, hb, hml, hown, hts, hr, hlk, hK, hdj, hZ⟩ := F
  obtain ⟨hd, rfl⟩ := hd
  intro ls H locs hl hP hS
  exact lv_ldc hx hb hown (hts _ hv) hd (k ls H locs hl hP hS)
theorem jm_ldcw {q : Nat} {v : Int32} (F : jm_F E X own cc nL ret d n z w) (hd : jm_d cc pc (.ldc_w q) 3 pc') (hv : Cond.constant own q v ∈ jm_tb) (k : jm_G w pc' lv (.int v :: st) M o K) : jm_G w pc lv (st) M o K := by
  intro r h1 h2
  have k := k r h1 h2
  obtain ⟨p, e, s, m, args, below, meth, c, rfl, hx, hb, hml, hown, hts, hr, hlk, hK, hdj, hZ⟩ := F
  obtain ⟨hd, rfl⟩ := hd
  intro ls H locs hl hP hS
  exact lv_ldcw hx hb hown (hts _ hv) hd (k ls H locs hl hP hS)
theorem jm_ldc2 {q : Nat} {v : Int64} (F : jm_F E X own cc nL ret d n z w) (hd : jm_d cc pc (.ldc2_w q) 3 pc') (hv : Cond.constantLong own q v ∈ jm_tb) (k : jm_G w pc' lv (.long v :: st) M o K) : jm_G w pc lv (st) M o K := by
  intro r h1 h2
  have k := k r h1 h2
  obtain ⟨p, e, s, m, args, below, meth, c, rfl, hx, hb, hml, hown, hts, hr, hlk, hK, hdj, hZ⟩ := F
  obtain ⟨hd, rfl⟩ := hd
  intro ls H locs hl hP hS
  exact lv_ldc2 hx hb hown (hts _ hv) hd (k ls H locs hl hP hS)
theorem jm_idiv {x y : Int32} {g : Int32 → Option τ} (F : jm_F E X own cc nL ret d n z w) (hd : jm_d cc pc .idiv 1 pc') (k : ∀ v, jm_G w pc' lv (.int v :: st) M (g v) K) : jm_G w pc lv (.int y :: .int x :: st) M ((jm_dv x y).bind g) K := by
  intro r h1 h2
  unfold jm_dv at h1
  split at h1
  · cases h1
  next hy =>
  have k := k _ r h1 h2
  obtain ⟨p, e, s, m, args, below, meth, c, rfl, hx, hb, hml, hown, hts, hr, hlk, hK, hdj, hZ⟩ := F
  obtain ⟨hd, rfl⟩ := hd
  intro ls H locs hl hP hS
  exact lv_idiv hx hb hd hy (k ls H locs hl hP hS)
theorem jm_irem {x y : Int32} {g : Int32 → Option τ} (F : jm_F E X own cc nL ret d n z w) (hd : jm_d cc pc .irem 1 pc') (k : ∀ v, jm_G w pc' lv (.int v :: st) M (g v) K) : jm_G w pc lv (.int y :: .int x :: st) M ((jm_rm x y).bind g) K := by
  intro r h1 h2
  unfold jm_rm at h1
  split at h1
  · cases h1
  next hy =>
  have k := k _ r h1 h2
  obtain ⟨p, e, s, m, args, below, meth, c, rfl, hx, hb, hml, hown, hts, hr, hlk, hK, hdj, hZ⟩ := F
  obtain ⟨hd, rfl⟩ := hd
  intro ls H locs hl hP hS
  exact lv_irem hx hb hd hy (k ls H locs hl hP hS)
theorem jm_ldiv {x y : Int64} {g : Int64 → Option τ} (F : jm_F E X own cc nL ret d n z w) (hd : jm_d cc pc .ldiv 1 pc') (k : ∀ v, jm_G w pc' lv (.long v :: st) M (g v) K) : jm_G w pc lv (.long y :: .long x :: st) M ((jm_ldv x y).bind g) K := by
  intro r h1 h2
  unfold jm_ldv at h1
  split at h1
  · cases h1
  next hy =>
  have k := k _ r h1 h2
  obtain ⟨p, e, s, m, args, below, meth, c, rfl, hx, hb, hml, hown, hts, hr, hlk, hK, hdj, hZ⟩ := F
  obtain ⟨hd, rfl⟩ := hd
  intro ls H locs hl hP hS
  exact lv_ldiv hx hb hd hy (k ls H locs hl hP hS)
theorem jm_lrem {x y : Int64} {g : Int64 → Option τ} (F : jm_F E X own cc nL ret d n z w) (hd : jm_d cc pc .lrem 1 pc') (k : ∀ v, jm_G w pc' lv (.long v :: st) M (g v) K) : jm_G w pc lv (.long y :: .long x :: st) M ((jm_lrm x y).bind g) K := by
  intro r h1 h2
  unfold jm_lrm at h1
  split at h1
  · cases h1
  next hy =>
  have k := k _ r h1 h2
  obtain ⟨p, e, s, m, args, below, meth, c, rfl, hx, hb, hml, hown, hts, hr, hlk, hK, hdj, hZ⟩ := F
  obtain ⟨hd, rfl⟩ := hd
  intro ls H locs hl hP hS
  exact lv_lrem hx hb hd hy (k ls H locs hl hP hS)
theorem jm_istore_n {q : Fin 4} {i : Nat} {x : Int32} {lv' : jm_LV} (F : jm_F E X own cc nL ret d n z w) (hd : jm_d cc pc (.istore_n q) 1 pc') (hi : (q : Nat) = i) (hn : i < nL) (hc : jm_c1 lv i = true) (hs : lv.set i (some (.int x)) = lv') (k : jm_G w pc' lv' st M o K) : jm_G w pc lv (.int x :: st) M o K := by
  intro r h1 h2
  have k := k r h1 h2
  obtain ⟨p, e, s, m, args, below, meth, c, rfl, hx, hb, hml, hown, hts, hr, hlk, hK, hdj, hZ⟩ := F
  obtain ⟨hd, rfl⟩ := hd
  subst hs
  intro ls H locs hl hP hS
  exact lv_istore_n hx hb hd hi (jm_lv_has hl) hn rfl (fun ls' hl' => k ls' H locs (jm_lv_st1 hc hl') hP hS)
theorem jm_istore {i : Nat} {x : Int32} {lv' : jm_LV} (F : jm_F E X own cc nL ret d n z w) (hd : jm_d cc pc (.istore i) 2 pc') (hn : i < nL) (hc : jm_c1 lv i = true) (hs : lv.set i (some (.int x)) = lv') (k : jm_G w pc' lv' st M o K) : jm_G w pc lv (.int x :: st) M o K := by
  intro r h1 h2
  have k := k r h1 h2
  obtain ⟨p, e, s, m, args, below, meth, c, rfl, hx, hb, hml, hown, hts, hr, hlk, hK, hdj, hZ⟩ := F
  obtain ⟨hd, rfl⟩ := hd
  subst hs
  intro ls H locs hl hP hS
  exact lv_istore hx hb hd (jm_lv_has hl) hn rfl (fun ls' hl' => k ls' H locs (jm_lv_st1 hc hl') hP hS)
theorem jm_astore_n {q : Fin 4} {i : Nat} {x : Nat} {lv' : jm_LV} (F : jm_F E X own cc nL ret d n z w) (hd : jm_d cc pc (.astore_n q) 1 pc') (hi : (q : Nat) = i) (hn : i < nL) (hc : jm_c1 lv i = true) (hs : lv.set i (some (.ref x)) = lv') (k : jm_G w pc' lv' st M o K) : jm_G w pc lv (.ref x :: st) M o K := by
  intro r h1 h2
  have k := k r h1 h2
  obtain ⟨p, e, s, m, args, below, meth, c, rfl, hx, hb, hml, hown, hts, hr, hlk, hK, hdj, hZ⟩ := F
  obtain ⟨hd, rfl⟩ := hd
  subst hs
  intro ls H locs hl hP hS
  exact lv_astore_n hx hb hd hi (jm_lv_has hl) hn rfl (fun ls' hl' => k ls' H locs (jm_lv_st1 hc hl') hP hS)
theorem jm_astore {i : Nat} {x : Nat} {lv' : jm_LV} (F : jm_F E X own cc nL ret d n z w) (hd : jm_d cc pc (.astore i) 2 pc') (hn : i < nL) (hc : jm_c1 lv i = true) (hs : lv.set i (some (.ref x)) = lv') (k : jm_G w pc' lv' st M o K) : jm_G w pc lv (.ref x :: st) M o K := by
  intro r h1 h2
  have k := k r h1 h2
  obtain ⟨p, e, s, m, args, below, meth, c, rfl, hx, hb, hml, hown, hts, hr, hlk, hK, hdj, hZ⟩ := F
  obtain ⟨hd, rfl⟩ := hd
  subst hs
  intro ls H locs hl hP hS
  exact lv_astore hx hb hd (jm_lv_has hl) hn rfl (fun ls' hl' => k ls' H locs (jm_lv_st1 hc hl') hP hS)
theorem jm_lstore_n {q : Fin 4} {i : Nat} {x : Int64} {lv' : jm_LV} (F : jm_F E X own cc nL ret d n z w) (hd : jm_d cc pc (.lstore_n q) 1 pc') (hi : (q : Nat) = i) (hn : i + 1 < nL) (hc : jm_c1 lv i = true) (hs : (lv.set i (some (.long x))).set (i + 1) none = lv') (k : jm_G w pc' lv' st M o K) : jm_G w pc lv (.long x :: st) M o K := by
  intro r h1 h2
  have k := k r h1 h2
  obtain ⟨p, e, s, m, args, below, meth, c, rfl, hx, hb, hml, hown, hts, hr, hlk, hK, hdj, hZ⟩ := F
  obtain ⟨hd, rfl⟩ := hd
  subst hs
  intro ls H locs hl hP hS
  exact lv_lstore_n hx hb hd hi (jm_lv_has hl) hn rfl (fun ls' hl' => k ls' H locs (jm_lv_st2 hc hl') hP hS)
theorem jm_lstore {i : Nat} {x : Int64} {lv' : jm_LV} (F : jm_F E X own cc nL ret d n z w) (hd : jm_d cc pc (.lstore i) 2 pc') (hn : i + 1 < nL) (hc : jm_c1 lv i = true) (hs : (lv.set i (some (.long x))).set (i + 1) none = lv') (k : jm_G w pc' lv' st M o K) : jm_G w pc lv (.long x :: st) M o K := by
  intro r h1 h2
  have k := k r h1 h2
  obtain ⟨p, e, s, m, args, below, meth, c, rfl, hx, hb, hml, hown, hts, hr, hlk, hK, hdj, hZ⟩ := F
  obtain ⟨hd, rfl⟩ := hd
  subst hs
  intro ls H locs hl hP hS
  exact lv_lstore hx hb hd (jm_lv_has hl) hn rfl (fun ls' hl' => k ls' H locs (jm_lv_st2 hc hl') hP hS)
theorem jm_iinc {i : Nat} {q : Int} {x v : Int32} {lv' : jm_LV} (F : jm_F E X own cc nL ret d n z w) (hd : jm_d cc pc (.iinc i q) 3 pc') (hv : Int32.ofInt q = v) (hx0 : lv[i]? = some (some (.int x))) (hn : i < nL) (hc : jm_c1 lv i = true) (hs : lv.set i (some (.int (x + v))) = lv') (k : jm_G w pc' lv' st M o K) : jm_G w pc lv st M o K := by
  intro r h1 h2
  have k := k r h1 h2
  obtain ⟨p, e, s, m, args, below, meth, c, rfl, hx, hb, hml, hown, hts, hr, hlk, hK, hdj, hZ⟩ := F
  obtain ⟨hd, rfl⟩ := hd
  subst hs
  subst hv
  intro ls H locs hl hP hS
  obtain ⟨j, hj⟩ := List.getElem?_of_mem (jm_pairs_mem hx0)
  exact lv_iinc hx hb hd (jm_lv_has hl) hj rfl hn rfl (fun ls' hl' => k ls' H locs (jm_lv_st1 hc hl') hP hS)
theorem jm_nameI {x : Int32} {g : Int32 → Option τ} {f : Int32 → List Value} (k : ∀ x, jm_G w pc lv (f x) M (g x) K) (hs : st = f x) : jm_G w pc lv st M ((some x).bind g) K := by
  subst hs
  exact k x
theorem jm_nameL {x : Int64} {g : Int64 → Option τ} {f : Int64 → List Value} (k : ∀ x, jm_G w pc lv (f x) M (g x) K) (hs : st = f x) : jm_G w pc lv st M ((some x).bind g) K := by
  subst hs
  exact k x
theorem jm_if_eq {x : Int32} {tgt : Nat} {A B : Option τ} (F : jm_F E X own cc nL ret d n z w) (hd : jm_b cc pc (.ifCond .eq) pc' tgt) (kt : x = 0 → jm_G w tgt lv st M A K) (kf : ¬ x = 0 → jm_G w pc' lv st M B K) : jm_G w pc lv (.int x :: st) M (if x = 0 then A else B) K := by
  intro r h1 h2
  obtain ⟨off, hd, rfl, ht⟩ := hd
  by_cases hc : x = 0
  · rw [if_pos hc] at h1
    have k := kt hc r h1 h2
    obtain ⟨p, e, s, m, args, below, meth, c, rfl, hx, hb, hml, hown, hts, hr, hlk, hK, hdj, hZ⟩ := F
    intro ls H locs hl hP hS
    exact lv_if_eq hx hb hd ht (fun _ => (k ls H locs hl hP hS)) (fun h => absurd hc h)
  · rw [if_neg hc] at h1
    have k := kf hc r h1 h2
    obtain ⟨p, e, s, m, args, below, meth, c, rfl, hx, hb, hml, hown, hts, hr, hlk, hK, hdj, hZ⟩ := F
    intro ls H locs hl hP hS
    exact lv_if_eq hx hb hd ht (fun h => absurd h hc) (fun _ => (k ls H locs hl hP hS))
theorem jm_if_ne {x : Int32} {tgt : Nat} {A B : Option τ} (F : jm_F E X own cc nL ret d n z w) (hd : jm_b cc pc (.ifCond .ne) pc' tgt) (kf : x = 0 → jm_G w pc' lv st M A K) (kt : ¬ x = 0 → jm_G w tgt lv st M B K) : jm_G w pc lv (.int x :: st) M (if x = 0 then A else B) K := by
  intro r h1 h2
  obtain ⟨off, hd, rfl, ht⟩ := hd
  by_cases hc : x = 0
  · rw [if_pos hc] at h1
    have k := kf hc r h1 h2
    obtain ⟨p, e, s, m, args, below, meth, c, rfl, hx, hb, hml, hown, hts, hr, hlk, hK, hdj, hZ⟩ := F
    intro ls H locs hl hP hS
    exact lv_if_ne hx hb hd ht (fun h => absurd hc h) (fun _ => (k ls H locs hl hP hS))
  · rw [if_neg hc] at h1
    have k := kt hc r h1 h2
    obtain ⟨p, e, s, m, args, below, meth, c, rfl, hx, hb, hml, hown, hts, hr, hlk, hK, hdj, hZ⟩ := F
    intro ls H locs hl hP hS
    exact lv_if_ne hx hb hd ht (fun _ => (k ls H locs hl hP hS)) (fun h => absurd h hc)
theorem jm_if_lt {x : Int32} {tgt : Nat} {A B : Option τ} (F : jm_F E X own cc nL ret d n z w) (hd : jm_b cc pc (.ifCond .lt) pc' tgt) (kt : x < 0 → jm_G w tgt lv st M A K) (kf : ¬ x < 0 → jm_G w pc' lv st M B K) : jm_G w pc lv (.int x :: st) M (if x < 0 then A else B) K := by
  intro r h1 h2
  obtain ⟨off, hd, rfl, ht⟩ := hd
  by_cases hc : x < 0
  · rw [if_pos hc] at h1
    have k := kt hc r h1 h2
    obtain ⟨p, e, s, m, args, below, meth, c, rfl, hx, hb, hml, hown, hts, hr, hlk, hK, hdj, hZ⟩ := F
    intro ls H locs hl hP hS
    exact lv_if_lt hx hb hd ht (fun _ => (k ls H locs hl hP hS)) (fun h => absurd hc h)
  · rw [if_neg hc] at h1
    have k := kf hc r h1 h2
    obtain ⟨p, e, s, m, args, below, meth, c, rfl, hx, hb, hml, hown, hts, hr, hlk, hK, hdj, hZ⟩ := F
    intro ls H locs hl hP hS
    exact lv_if_lt hx hb hd ht (fun h => absurd h hc) (fun _ => (k ls H locs hl hP hS))
theorem jm_if_ge {x : Int32} {tgt : Nat} {A B : Option τ} (F : jm_F E X own cc nL ret d n z w) (hd : jm_b cc pc (.ifCond .ge) pc' tgt) (kt : 0 ≤ x → jm_G w tgt lv st M A K) (kf : ¬ 0 ≤ x → jm_G w pc' lv st M B K) : jm_G w pc lv (.int x :: st) M (if 0 ≤ x then A else B) K := by
  intro r h1 h2
  obtain ⟨off, hd, rfl, ht⟩ := hd
  by_cases hc : 0 ≤ x
  · rw [if_pos hc] at h1
    have k := kt hc r h1 h2
    obtain ⟨p, e, s, m, args, below, meth, c, rfl, hx, hb, hml, hown, hts, hr, hlk, hK, hdj, hZ⟩ := F
    intro ls H locs hl hP hS
    exact lv_if_ge hx hb hd ht (fun _ => (k ls H locs hl hP hS)) (fun h => absurd hc h)
  · rw [if_neg hc] at h1
    have k := kf hc r h1 h2
    obtain ⟨p, e, s, m, args, below, meth, c, rfl, hx, hb, hml, hown, hts, hr, hlk, hK, hdj, hZ⟩ := F
    intro ls H locs hl hP hS
    exact lv_if_ge hx hb hd ht (fun h => absurd h hc) (fun _ => (k ls H locs hl hP hS))
theorem jm_if_gt {x : Int32} {tgt : Nat} {A B : Option τ} (F : jm_F E X own cc nL ret d n z w) (hd : jm_b cc pc (.ifCond .gt) pc' tgt) (kt : 0 < x → jm_G w tgt lv st M A K) (kf : ¬ 0 < x → jm_G w pc' lv st M B K) : jm_G w pc lv (.int x :: st) M (if 0 < x then A else B) K := by
  intro r h1 h2
  obtain ⟨off, hd, rfl, ht⟩ := hd
  by_cases hc : 0 < x
  · rw [if_pos hc] at h1
    have k := kt hc r h1 h2
    obtain ⟨p, e, s, m, args, below, meth, c, rfl, hx, hb, hml, hown, hts, hr, hlk, hK, hdj, hZ⟩ := F
    intro ls H locs hl hP hS
    exact lv_if_gt hx hb hd ht (fun _ => (k ls H locs hl hP hS)) (fun h => absurd hc h)
  · rw [if_neg hc] at h1
    have k := kf hc r h1 h2
    obtain ⟨p, e, s, m, args, below, meth, c, rfl, hx, hb, hml, hown, hts, hr, hlk, hK, hdj, hZ⟩ := F
    intro ls H locs hl hP hS
    exact lv_if_gt hx hb hd ht (fun h => absurd h hc) (fun _ => (k ls H locs hl hP hS))
theorem jm_if_le {x : Int32} {tgt : Nat} {A B : Option τ} (F : jm_F E X own cc nL ret d n z w) (hd : jm_b cc pc (.ifCond .le) pc' tgt) (kt : x ≤ 0 → jm_G w tgt lv st M A K) (kf : ¬ x ≤ 0 → jm_G w pc' lv st M B K) : jm_G w pc lv (.int x :: st) M (if x ≤ 0 then A else B) K := by
  intro r h1 h2
  obtain ⟨off, hd, rfl, ht⟩ := hd
  by_cases hc : x ≤ 0
  · rw [if_pos hc] at h1
    have k := kt hc r h1 h2
    obtain ⟨p, e, s, m, args, below, meth, c, rfl, hx, hb, hml, hown, hts, hr, hlk, hK, hdj, hZ⟩ := F
    intro ls H locs hl hP hS
    exact lv_if_le hx hb hd ht (fun _ => (k ls H locs hl hP hS)) (fun h => absurd hc h)
  · rw [if_neg hc] at h1
    have k := kf hc r h1 h2
    obtain ⟨p, e, s, m, args, below, meth, c, rfl, hx, hb, hml, hown, hts, hr, hlk, hK, hdj, hZ⟩ := F
    intro ls H locs hl hP hS
    exact lv_if_le hx hb hd ht (fun h => absurd h hc) (fun _ => (k ls H locs hl hP hS))
theorem jm_icmp_eq {x y : Int32} {tgt : Nat} {A B : Option τ} (F : jm_F E X own cc nL ret d n z w) (hd : jm_b cc pc (.if_icmp .eq) pc' tgt) (kt : x = y → jm_G w tgt lv st M A K) (kf : ¬ x = y → jm_G w pc' lv st M B K) : jm_G w pc lv (.int y :: .int x :: st) M (if x = y then A else B) K := by
  intro r h1 h2
  obtain ⟨off, hd, rfl, ht⟩ := hd
  by_cases hc : x = y
  · rw [if_pos hc] at h1
    have k := kt hc r h1 h2
    obtain ⟨p, e, s, m, args, below, meth, c, rfl, hx, hb, hml, hown, hts, hr, hlk, hK, hdj, hZ⟩ := F
    intro ls H locs hl hP hS
    exact lv_icmp_eq hx hb hd ht (fun _ => (k ls H locs hl hP hS)) (fun h => absurd hc h)
  · rw [if_neg hc] at h1
    have k := kf hc r h1 h2
    obtain ⟨p, e, s, m, args, below, meth, c, rfl, hx, hb, hml, hown, hts, hr, hlk, hK, hdj, hZ⟩ := F
    intro ls H locs hl hP hS
    exact lv_icmp_eq hx hb hd ht (fun h => absurd h hc) (fun _ => (k ls H locs hl hP hS))
theorem jm_icmp_ne {x y : Int32} {tgt : Nat} {A B : Option τ} (F : jm_F E X own cc nL ret d n z w) (hd : jm_b cc pc (.if_icmp .ne) pc' tgt) (kf : x = y → jm_G w pc' lv st M A K) (kt : ¬ x = y → jm_G w tgt lv st M B K) : jm_G w pc lv (.int y :: .int x :: st) M (if x = y then A else B) K := by
  intro r h1 h2
  obtain ⟨off, hd, rfl, ht⟩ := hd
  by_cases hc : x = y
  · rw [if_pos hc] at h1
    have k := kf hc r h1 h2
    obtain ⟨p, e, s, m, args, below, meth, c, rfl, hx, hb, hml, hown, hts, hr, hlk, hK, hdj, hZ⟩ := F
    intro ls H locs hl hP hS
    exact lv_icmp_ne hx hb hd ht (fun h => absurd hc h) (fun _ => (k ls H locs hl hP hS))
  · rw [if_neg hc] at h1
    have k := kt hc r h1 h2
    obtain ⟨p, e, s, m, args, below, meth, c, rfl, hx, hb, hml, hown, hts, hr, hlk, hK, hdj, hZ⟩ := F
    intro ls H locs hl hP hS
    exact lv_icmp_ne hx hb hd ht (fun _ => (k ls H locs hl hP hS)) (fun h => absurd h hc)
theorem jm_icmp_lt {x y : Int32} {tgt : Nat} {A B : Option τ} (F : jm_F E X own cc nL ret d n z w) (hd : jm_b cc pc (.if_icmp .lt) pc' tgt) (kt : x < y → jm_G w tgt lv st M A K) (kf : ¬ x < y → jm_G w pc' lv st M B K) : jm_G w pc lv (.int y :: .int x :: st) M (if x < y then A else B) K := by
  intro r h1 h2
  obtain ⟨off, hd, rfl, ht⟩ := hd
  by_cases hc : x < y
  · rw [if_pos hc] at h1
    have k := kt hc r h1 h2
    obtain ⟨p, e, s, m, args, below, meth, c, rfl, hx, hb, hml, hown, hts, hr, hlk, hK, hdj, hZ⟩ := F
    intro ls H locs hl hP hS
    exact lv_icmp_lt hx hb hd ht (fun _ => (k ls H locs hl hP hS)) (fun h => absurd hc h)
  · rw [if_neg hc] at h1
    have k := kf hc r h1 h2
    obtain ⟨p, e, s, m, args, below, meth, c, rfl, hx, hb, hml, hown, hts, hr, hlk, hK, hdj, hZ⟩ := F
    intro ls H locs hl hP hS
    exact lv_icmp_lt hx hb hd ht (fun h => absurd h hc) (fun _ => (k ls H locs hl hP hS))
theorem jm_icmp_ge {x y : Int32} {tgt : Nat} {A B : Option τ} (F : jm_F E X own cc nL ret d n z w) (hd : jm_b cc pc (.if_icmp .ge) pc' tgt) (kt : y ≤ x → jm_G w tgt lv st M A K) (kf : ¬ y ≤ x → jm_G w pc' lv st M B K) : jm_G w pc lv (.int y :: .int x :: st) M (if y ≤ x then A else B) K := by
  intro r h1 h2
  obtain ⟨off, hd, rfl, ht⟩ := hd
  by_cases hc : y ≤ x
  · rw [if_pos hc] at h1
    have k := kt hc r h1 h2
    obtain ⟨p, e, s, m, args, below, meth, c, rfl, hx, hb, hml, hown, hts, hr, hlk, hK, hdj, hZ⟩ := F
    intro ls H locs hl hP hS
    exact lv_icmp_ge hx hb hd ht (fun _ => (k ls H locs hl hP hS)) (fun h => absurd hc h)
  · rw [if_neg hc] at h1
    have k := kf hc r h1 h2
    obtain ⟨p, e, s, m, args, below, meth, c, rfl, hx, hb, hml, hown, hts, hr, hlk, hK, hdj, hZ⟩ := F
    intro ls H locs hl hP hS
    exact lv_icmp_ge hx hb hd ht (fun h => absurd h hc) (fun _ => (k ls H locs hl hP hS))
theorem jm_icmp_gt {x y : Int32} {tgt : Nat} {A B : Option τ} (F : jm_F E X own cc nL ret d n z w) (hd : jm_b cc pc (.if_icmp .gt) pc' tgt) (kt : y < x → jm_G w tgt lv st M A K) (kf : ¬ y < x → jm_G w pc' lv st M B K) : jm_G w pc lv (.int y :: .int x :: st) M (if y < x then A else B) K := by
  intro r h1 h2
  obtain ⟨off, hd, rfl, ht⟩ := hd
  by_cases hc : y < x
  · rw [if_pos hc] at h1
    have k := kt hc r h1 h2
    obtain ⟨p, e, s, m, args, below, meth, c, rfl, hx, hb, hml, hown, hts, hr, hlk, hK, hdj, hZ⟩ := F
    intro ls H locs hl hP hS
    exact lv_icmp_gt hx hb hd ht (fun _ => (k ls H locs hl hP hS)) (fun h => absurd hc h)
  · rw [if_neg hc] at h1
    have k := kf hc r h1 h2
    obtain ⟨p, e, s, m, args, below, meth, c, rfl, hx, hb, hml, hown, hts, hr, hlk, hK, hdj, hZ⟩ := F
    intro ls H locs hl hP hS
    exact lv_icmp_gt hx hb hd ht (fun h => absurd h hc) (fun _ => (k ls H locs hl hP hS))
theorem jm_icmp_le {x y : Int32} {tgt : Nat} {A B : Option τ} (F : jm_F E X own cc nL ret d n z w) (hd : jm_b cc pc (.if_icmp .le) pc' tgt) (kt : x ≤ y → jm_G w tgt lv st M A K) (kf : ¬ x ≤ y → jm_G w pc' lv st M B K) : jm_G w pc lv (.int y :: .int x :: st) M (if x ≤ y then A else B) K := by
  intro r h1 h2
  obtain ⟨off, hd, rfl, ht⟩ := hd
  by_cases hc : x ≤ y
  · rw [if_pos hc] at h1
    have k := kt hc r h1 h2
    obtain ⟨p, e, s, m, args, below, meth, c, rfl, hx, hb, hml, hown, hts, hr, hlk, hK, hdj, hZ⟩ := F
    intro ls H locs hl hP hS
    exact lv_icmp_le hx hb hd ht (fun _ => (k ls H locs hl hP hS)) (fun h => absurd hc h)
  · rw [if_neg hc] at h1
    have k := kf hc r h1 h2
    obtain ⟨p, e, s, m, args, below, meth, c, rfl, hx, hb, hml, hown, hts, hr, hlk, hK, hdj, hZ⟩ := F
    intro ls H locs hl hP hS
    exact lv_icmp_le hx hb hd ht (fun h => absurd h hc) (fun _ => (k ls H locs hl hP hS))
theorem jm_goto {tgt : Nat} (F : jm_F E X own cc nL ret d n z w) (hd : jm_b cc pc .goto pc' tgt) (k : jm_G w tgt lv st M o K) : jm_G w pc lv st M o K := by
  intro r h1 h2
  have k := k r h1 h2
  obtain ⟨p, e, s, m, args, below, meth, c, rfl, hx, hb, hml, hown, hts, hr, hlk, hK, hdj, hZ⟩ := F
  obtain ⟨off, hd, -, ht⟩ := hd
  intro ls H locs hl hP hS
  exact lv_goto hx hb hd ht (k ls H locs hl hP hS)
theorem jm_ifnull {x : Nat} {tgt : Nat} (F : jm_F E X own cc nL ret d n z w) (hd : jm_b cc pc .ifnull pc' tgt) (k : jm_G w pc' lv st M o K) : jm_G w pc lv (.ref x :: st) M o K := by
  intro r h1 h2
  have k := k r h1 h2
  obtain ⟨p, e, s, m, args, below, meth, c, rfl, hx, hb, hml, hown, hts, hr, hlk, hK, hdj, hZ⟩ := F
  obtain ⟨off, hd, rfl, ht⟩ := hd
  intro ls H locs hl hP hS
  exact lv_ifnull hx hb hd (k ls H locs hl hP hS)
theorem jm_ite {c : Prop} {inst : Decidable c} {A B : Option τ} (ka : c → jm_G w pc lv st M A K) (kb : ¬ c → jm_G w pc lv st M B K) : jm_G w pc lv st M (@ite _ c inst A B) K := by
  intro r h1 h2
  by_cases hc : c
  · rw [if_pos hc] at h1
    exact ka hc r h1 h2
  · rw [if_neg hc] at h1
    exact kb hc r h1 h2
theorem jm_ne {x k : Int32} {a : Int} (h : ¬ x = k) (hk : k.toInt = a) : ¬ x.toInt = a := by
  subst hk
  exact fun e => h (Int32.toInt_inj.mp e)
theorem jm_tsw {x y : Int32} {dflt lo hi off : Int} {offs : Array Int} {len tgt : Nat} (F : jm_F E X own cc nL ret d n z w) (hd : decode cc pc = .ok (.tableswitch dflt lo hi offs, len)) (hx0 : x = y) (h1 : ¬ y.toInt < lo) (h2 : ¬ hi < y.toInt) (ho : offs[(y.toInt - lo).toNat]? = some off) (ht : (pc : Int) + off = (tgt : Int)) (k : jm_G w tgt lv st M o K) : jm_G w pc lv (.int x :: st) M o K := by
  intro r g1 g2
  have k := k r g1 g2
  obtain ⟨p, e, s, m, args, below, meth, c, rfl, hx, hb, hml, hown, hts, hr, hlk, hK, hdj, hZ⟩ := F
  subst hx0
  intro ls H locs hl hP hS
  exact lv_tableIn hx hb hd h1 h2 ho ht (k ls H locs hl hP hS)
theorem jm_tsd {x : Int32} {dflt lo hi : Int} {offs : Array Int} {len tgt : Nat} (F : jm_F E X own cc nL ret d n z w) (hd : decode cc pc = .ok (.tableswitch dflt lo hi offs, len)) (h1 : x.toInt < lo ∨ hi < x.toInt) (ht : (pc : Int) + dflt = (tgt : Int)) (k : jm_G w tgt lv st M o K) : jm_G w pc lv (.int x :: st) M o K := by
  intro r g1 g2
  have k := k r g1 g2
  obtain ⟨p, e, s, m, args, below, meth, c, rfl, hx, hb, hml, hown, hts, hr, hlk, hK, hdj, hZ⟩ := F
  intro ls H locs hl hP hS
  exact lv_tableOut hx hb hd h1 ht (k ls H locs hl hP hS)
theorem jm_lsw {x : Int32} {dflt off : Int} {ps : Array (Int × Int)} {len tgt : Nat} (F : jm_F E X own cc nL ret d n z w) (hd : decode cc pc = .ok (.lookupswitch dflt ps, len)) (hp : (ps.toList.zip (ps.toList.drop 1)).all (fun (a, next) => a.1 < next.1) = true) (ho : Op.lookupswitch.offset ps.toList dflt x.toInt = off) (ht : (pc : Int) + off = (tgt : Int)) (k : jm_G w tgt lv st M o K) : jm_G w pc lv (.int x :: st) M o K := by
  intro r g1 g2
  have k := k r g1 g2
  obtain ⟨p, e, s, m, args, below, meth, c, rfl, hx, hb, hml, hown, hts, hr, hlk, hK, hdj, hZ⟩ := F
  intro ls H locs hl hP hS
  exact lv_lookup hx hb hd hp ho ht (k ls H locs hl hP hS)
theorem jm_done {τ : Type} {pc : Nat} {lv : jm_LV} {st : List Value} {M : jm_M} {r : τ} {K : τ → Prop} (h : K r → w pc lv st M) : jm_G w pc lv st M (some r) K := by
  intro r' e hK
  cases e
  exact h hK
theorem jm_bind {τ σ : Type} {pc pcJ : Nat} {lv : jm_LV} {lvJ : σ → jm_LV} {st : List Value} {stJ : σ → List Value} {M : jm_M} {MJ : σ → jm_M} {o : Option σ} {f : σ → Option τ} {K : τ → Prop} (h1 : jm_G w pc lv st M o (fun e => w pcJ (lvJ e) (stJ e) (MJ e))) (h2 : ∀ e, jm_G w pcJ (lvJ e) (stJ e) (MJ e) (f e) K) : jm_G w pc lv st M (o.bind f) K := by
  intro r hr hK
  cases ho : o with
  | none => rw [ho] at hr; cases hr
  | some e => rw [ho] at hr; exact h1 e ho (h2 e r hr hK)
theorem jm_bindS {τ σ : Type} {pc pcJ : Nat} {lv : jm_LV} {lvJ : σ → jm_LV} {st : List Value} {stJ : σ → List Value} {M : jm_M} {MJ : σ → jm_M} {o : Option (σ ⊕ τ)} {f : σ → Option τ} {K : τ → Prop} (h1 : jm_G w pc lv st M o (Sum.elim (fun e => w pcJ (lvJ e) (stJ e) (MJ e)) K)) (h2 : ∀ e, jm_G w pcJ (lvJ e) (stJ e) (MJ e) (f e) K) : jm_G w pc lv st M (o.bind (Sum.elim f some)) K := by
  intro r hr hK
  cases ho : o with
  | none => rw [ho] at hr; cases hr
  | some e =>
    rw [ho] at hr
    cases e with
    | inl x => exact h1 _ ho (h2 x r hr hK)
    | inr x => cases hr; exact h1 _ ho hK
theorem jm_loopR {σ ε : Type} {pc : Nat} {lvH : σ → jm_LV} {MH : σ → jm_M} {f : σ → Option (σ ⊕ ε)} {C : ε → Prop} (hs : ∀ s, jm_G w pc (lvH s) [] (MH s) (f s) (Sum.elim (fun s' => w pc (lvH s') [] (MH s')) C)) : ∀ (N : Nat) (s : σ), jm_G w pc (lvH s) [] (MH s) (jm_loop f N s) C := by
  intro N
  induction N with
  | zero => intro s r h; cases h
  | succ N ih =>
    intro s r h hC
    rw [jm_loop] at h
    cases hf : f s with
    | none => rw [hf] at h; cases h
    | some x =>
      rw [hf] at h
      cases x with
      | inl s' => exact hs s _ hf (ih s' r h hC)
      | inr e => cases h; exact hs s _ hf hC
def jm_sub : jm_LV → jm_LV → Prop
  | [], _ => True
  | none :: a, [] => jm_sub a []
  | none :: a, _ :: b => jm_sub a b
  | some _ :: _, [] => False
  | some v :: a, x :: b => x = some v ∧ jm_sub a b
theorem jm_sub_at : ∀ (a b : jm_LV) (i : Nat) (v : Value), jm_sub a b → a[i]? = some (some v) → b[i]? = some (some v) := by
  intro a
  induction a with
  | nil => intro b i v _ h; simp at h
  | cons x a ih =>
    intro b i v hs h
    cases b with
    | nil =>
      cases x with
      | none =>
        cases i with
        | zero => simp at h
        | succ i => have h2 := ih [] i v hs (by simpa using h); simp at h2
      | some y => exact hs.elim
    | cons y b =>
      cases x with
      | none =>
        cases i with
        | zero => simp at h
        | succ i => simpa using ih b i v hs (by simpa using h)
      | some u =>
        obtain ⟨rfl, h2⟩ := hs
        cases i with
        | zero => simpa using h
        | succ i => simpa using ih b i v h2 (by simpa using h)
theorem jm_weak {lv' : jm_LV} (F : jm_F E X own cc nL ret d n z w) (hs : jm_sub lv' lv) (k : jm_G w pc lv' st M o K) : jm_G w pc lv st M o K := by
  intro r h1 h2
  have k := k r h1 h2
  obtain ⟨p, e, s, m, args, below, meth, c, rfl, hx, hb, hml, hown, hts, hr, hlk, hK, hdj, hZ⟩ := F
  intro ls H locs hl hP hS
  exact k ls H locs ⟨hl.1, hl.2.1, fun i v h => hl.2.2 i v (jm_sub_at _ _ i v hs h)⟩ hP hS
theorem jm_weakD {r : τ} {lv' : jm_LV} (F : jm_F E X own cc nL ret d n z w) (hs : jm_sub lv' lv) (h : K r → w pc lv' st M) : jm_G w pc lv st M (some r) K := jm_weak F hs (jm_done h)
theorem jm_iret {v : Int32} {r : τ} (F : jm_F E X own cc nL (some .int) d n z w) (hd : jm_d cc pc .ireturn 1 pc') (hz : K r → z (some (.int v)) M) : jm_G w pc lv [.int v] M (some r) K := by
  intro r' h1 h2
  cases h1
  have hz := hz h2
  obtain ⟨p, e, s, m, args, below, meth, c, rfl, hx, hb, hml, hown, hts, hr, hlk, hK, hdj, hZ⟩ := F
  obtain ⟨hd, -⟩ := hd
  intro ls H locs hl hP hS
  exact W.iret hx hb hr (fun t ht _ => ⟨⟨_, M, rfl, hz, by rw [ht]; exact hP⟩, hS.F ht⟩) hS.2.2 hd hlk
theorem jm_lret {v : Int64} {r : τ} (F : jm_F E X own cc nL (some .long) d n z w) (hd : jm_d cc pc .lreturn 1 pc') (hz : K r → z (some (.long v)) M) : jm_G w pc lv [.long v] M (some r) K := by
  intro r' h1 h2
  cases h1
  have hz := hz h2
  obtain ⟨p, e, s, m, args, below, meth, c, rfl, hx, hb, hml, hown, hts, hr, hlk, hK, hdj, hZ⟩ := F
  obtain ⟨hd, -⟩ := hd
  intro ls H locs hl hP hS
  exact W.lret hx hb hr (fun t ht _ => ⟨⟨_, M, rfl, hz, by rw [ht]; exact hP⟩, hS.F ht⟩) hS.2.2 hd hlk
theorem jm_vret  {r : τ} (F : jm_F E X own cc nL none d n z w) (hd : jm_d cc pc .return_ 1 pc') (hz : K r → z none M) : jm_G w pc lv [] M (some r) K := by
  intro r' h1 h2
  cases h1
  have hz := hz h2
  obtain ⟨p, e, s, m, args, below, meth, c, rfl, hx, hb, hml, hown, hts, hr, hlk, hK, hdj, hZ⟩ := F
  obtain ⟨hd, -⟩ := hd
  intro ls H locs hl hP hS
  exact W.vret hx hb hr (fun t ht _ => ⟨⟨_, M, rfl, hz, by rw [ht]; exact hP⟩, hS.F ht⟩) hS.2.2 hd hlk
theorem jm_zret {v : Int32} {r : τ} (F : jm_F E X own cc nL (some .boolean) d n z w) (hd : jm_d cc pc .ireturn 1 pc') (hv : v = 0 ∨ v = 1) (hz : K r → z (some (.int v)) M) : jm_G w pc lv [.int v] M (some r) K := by
  intro r' h1 h2
  cases h1
  have hz := hz h2
  obtain ⟨p, e, s, m, args, below, meth, c, rfl, hx, hb, hml, hown, hts, hr, hlk, hK, hdj, hZ⟩ := F
  obtain ⟨hd, -⟩ := hd
  intro ls H locs hl hP hS
  exact W.zret hx hb hr (by rcases hv with rfl | rfl <;> rfl) (fun t ht _ => ⟨⟨_, M, rfl, hz, by rw [ht]; exact hP⟩, hS.F ht⟩) hS.2.2 hd hlk
theorem jm_aret {C : String} {a : Nat} {r : τ} (F : jm_F E X own cc nL (some (.object C)) d n z w) (hd : jm_d cc pc .areturn 1 pc') (hz : K r → z (some (.ref a)) M) : jm_G w pc lv [.ref a] M (some r) K := by
  intro r' h1 h2
  cases h1
  have hz := hz h2
  obtain ⟨p, e, s, m, args, below, meth, c, rfl, hx, hb, hml, hown, hts, hr, hlk, hK, hdj, hZ⟩ := F
  obtain ⟨hd, -⟩ := hd
  intro ls H locs hl hP hS
  exact W.aret hx hb hr (Or.inl ⟨_, rfl⟩) (Or.inr ⟨_, rfl⟩) (fun t ht _ => ⟨⟨_, M, rfl, hz, by rw [ht]; exact hP⟩, hS.F ht⟩) hS.2.2 hd hlk
theorem jm_bzB {v : Int32} {g : Int32 → Option τ} (k : v = 0 ∨ v = 1 → jm_G w pc lv st M (g v) K) : jm_G w pc lv st M ((jm_bz v).bind g) K := by
  intro r h1 h2
  unfold jm_bz at h1
  split at h1
  next hv => exact k hv r h1 h2
  · cases h1
theorem jm_getI {index ci k t : Nat} {fs : List (Option (Nat × Nat))} (F : jm_F E X own cc nL ret d n z w) (hd : jm_d cc pc (.getfield index) 3 pc') (hf : jm_Fl own index ci k) (hX : jm_obj X t ci fs) (hk : fs[k]? = some none) (kk : jm_G w pc' lv (.int (M t 0 k) :: st) M o K) : jm_G w pc lv (.ref (jm_a E t 0) :: st) M o K := by
  intro r h1 h2
  have kk := kk r h1 h2
  obtain ⟨p, e, s, m, args, below, meth, c, rfl, hx, hb, hml, hown, hts, hr, hlk, hK, hdj, hZ⟩ := F
  obtain ⟨hd, rfl⟩ := hd
  obtain ⟨C, T, N, hc, hkN, hin, hlink⟩ := hf
  obtain ⟨q, hq⟩ := hX
  intro ls H locs hl hP hS
  have hv := jm_fv_int (E := E) (f := M t 0) fs 0 k hk
  rw [Nat.zero_add] at hv
  exact va_get hx hb hts hin hown hK hP q (jm_ws_at hq) hc k hkN (hts _ hlink) (fun _ h => h) hv hd (kk ls H locs hl hP hS)
theorem jm_getR {index ci k t : Nat} {fs : List (Option (Nat × Nat))} {u : Nat × Nat} (F : jm_F E X own cc nL ret d n z w) (hd : jm_d cc pc (.getfield index) 3 pc') (hf : jm_Fl own index ci k) (hX : jm_obj X t ci fs) (hk : fs[k]? = some (some u)) (kk : jm_G w pc' lv (.ref (jm_a E u.1 u.2) :: st) M o K) : jm_G w pc lv (.ref (jm_a E t 0) :: st) M o K := by
  intro r h1 h2
  have kk := kk r h1 h2
  obtain ⟨p, e, s, m, args, below, meth, c, rfl, hx, hb, hml, hown, hts, hr, hlk, hK, hdj, hZ⟩ := F
  obtain ⟨hd, rfl⟩ := hd
  obtain ⟨C, T, N, hc, hkN, hin, hlink⟩ := hf
  obtain ⟨q, hq⟩ := hX
  intro ls H locs hl hP hS
  exact va_get hx hb hts hin hown hK hP q (jm_ws_at hq) hc k hkN (hts _ hlink) (fun _ h => h) (jm_fv_ref (E := E) (f := M t 0) fs 0 k hk) hd (kk ls H locs hl hP hS)
theorem jm_putI {index ci k t : Nat} {v : Int32} {fs : List (Option (Nat × Nat))} {g : jm_M → Option τ} (F : jm_F E X own cc nL ret d n z w) (hd : jm_d cc pc (.putfield index) 3 pc') (hf : jm_Fp own index ci k .int) (hX : jm_obj X t ci fs) (hk : fs[k]? = some none) (kk : ∀ M', jm_G w pc' lv st M' (g M') K) : jm_G w pc lv (.int v :: .ref (jm_a E t 0) :: st) M ((jm_wf M t k v).bind g) K := by
  intro r h1 h2
  have hnv : narrow .int (Value.int v) = .int v := rfl
  have hfv : fits .int (Value.int v) = true := rfl
  have kk := kk _ r h1 h2
  obtain ⟨p, e, s, m, args, below, meth, c, rfl, hx, hb, hml, hown, hts, hr, hlk, hK, hdj, hZ⟩ := F
  obtain ⟨hd, rfl⟩ := hd
  obtain ⟨C, T, N, ty0, hc, hkN, hin, hlink, hty, hnm, hfin, hdf⟩ := hf
  obtain ⟨q, hq⟩ := hX
  intro ls H locs hl hP hS
  refine va_put hx hb hts hin ty0 hty hnm hown hK hP (jm_D_of hdj M) hS q (jm_ws_at hq) hc k hkN (hts _ hlink) (fun _ h => h) hfin hdf hnv hfv (by rw [jm_fv_len]; exact (List.getElem?_eq_some_iff.mp hk).1) hd (fun H1 locs1 hP1 hD1 hS1 => ?_)
  refine kk ls H1 locs1 hl ?_ hS1
  rw [jm_ws_set hdj hq (M' := jm_up M t 0 k v) ?_ ?_] at hP1
  · exact hP1
  · have e := jm_fv_set (E := E) (f := M t 0) (v := v) fs 0 k hk
    rw [Nat.zero_add] at e
    show (jm_a E t 0, _) = _
    rw [jm_cell]
    simp only [e]
    have e2 : (fun j => if j = k then v else M t 0 j) = jm_up M t 0 k v t 0 := by funext j; simp [jm_up]
    rw [e2]
  · intro a b hab
    funext j
    simp only [jm_up]
    rw [if_neg (fun h => hab ⟨h.1, h.2.1⟩)]
theorem jm_putZ {index ci k t : Nat} {v : Int32} {fs : List (Option (Nat × Nat))} {g : jm_M → Option τ} (F : jm_F E X own cc nL ret d n z w) (hd : jm_d cc pc (.putfield index) 3 pc') (hf : jm_Fp own index ci k .boolean) (hX : jm_obj X t ci fs) (hk : fs[k]? = some none) (kk : ∀ M', jm_G w pc' lv st M' (g M') K) : jm_G w pc lv (.int v :: .ref (jm_a E t 0) :: st) M ((jm_wz M t k v).bind g) K := by
  intro r h1 h2
  unfold jm_wz at h1
  split at h1
  case isFalse => cases h1
  case isTrue hv =>
  have hnv : narrow .boolean (Value.int v) = .int v := by rcases hv with rfl | rfl <;> rfl
  have hfv : fits .boolean (Value.int v) = true := by rcases hv with rfl | rfl <;> rfl
  have kk := kk _ r h1 h2
  obtain ⟨p, e, s, m, args, below, meth, c, rfl, hx, hb, hml, hown, hts, hr, hlk, hK, hdj, hZ⟩ := F
  obtain ⟨hd, rfl⟩ := hd
  obtain ⟨C, T, N, ty0, hc, hkN, hin, hlink, hty, hnm, hfin, hdf⟩ := hf
  obtain ⟨q, hq⟩ := hX
  intro ls H locs hl hP hS
  refine va_put hx hb hts hin ty0 hty hnm hown hK hP (jm_D_of hdj M) hS q (jm_ws_at hq) hc k hkN (hts _ hlink) (fun _ h => h) hfin hdf hnv hfv (by rw [jm_fv_len]; exact (List.getElem?_eq_some_iff.mp hk).1) hd (fun H1 locs1 hP1 hD1 hS1 => ?_)
  refine kk ls H1 locs1 hl ?_ hS1
  rw [jm_ws_set hdj hq (M' := jm_up M t 0 k v) ?_ ?_] at hP1
  · exact hP1
  · have e := jm_fv_set (E := E) (f := M t 0) (v := v) fs 0 k hk
    rw [Nat.zero_add] at e
    show (jm_a E t 0, _) = _
    rw [jm_cell]
    simp only [e]
    have e2 : (fun j => if j = k then v else M t 0 j) = jm_up M t 0 k v t 0 := by funext j; simp [jm_up]
    rw [e2]
  · intro a b hab
    funext j
    simp only [jm_up]
    rw [if_neg (fun h => hab ⟨h.1, h.2.1⟩)]
theorem jm_iald {t j N : Nat} {i : Int32} {g : Int32 → Option τ} (F : jm_F E X own cc nL ret d n z w) (hd : jm_d cc pc .iaload 1 pc') (hX : jm_arr X t j N) (kk : ∀ v, jm_G w pc' lv (.int v :: st) M (g v) K) : jm_G w pc lv (.int i :: .ref (jm_a E t j) :: st) M ((jm_rd N (M t j) i).bind g) K := by
  intro r h1 h2
  unfold jm_rd at h1
  split at h1
  · cases h1
  next hi =>
  have kk := kk _ r h1 h2
  obtain ⟨p, e, s, m, args, below, meth, c, rfl, hx, hb, hml, hown, hts, hr, hlk, hK, hdj, hZ⟩ := F
  obtain ⟨hd, rfl⟩ := hd
  obtain ⟨q, hq⟩ := hX
  intro ls H locs hl hP hS
  exact va_iald hx hb hK hP q 0 (jm_ws_at hq) rfl hi hd (kk ls H locs hl hP hS)
theorem jm_iast {t j N : Nat} {i v : Int32} {g : jm_M → Option τ} (F : jm_F E X own cc nL ret d n z w) (hd : jm_d cc pc .iastore 1 pc') (hX : jm_arr X t j N) (kk : ∀ M', jm_G w pc' lv st M' (g M') K) : jm_G w pc lv (.int v :: .int i :: .ref (jm_a E t j) :: st) M ((jm_wa N M t j i v).bind g) K := by
  intro r h1 h2
  unfold jm_wa at h1
  split at h1
  · cases h1
  next hi =>
  have kk := kk _ r h1 h2
  obtain ⟨p, e, s, m, args, below, meth, c, rfl, hx, hb, hml, hown, hts, hr, hlk, hK, hdj, hZ⟩ := F
  obtain ⟨hd, rfl⟩ := hd
  obtain ⟨q, hq⟩ := hX
  intro ls H locs hl hP hS
  refine va_iast hx hb hK hP (jm_D_of hdj M) hS q 0 (jm_ws_at hq) rfl hi hd (fun H1 locs1 hP1 hD1 hS1 => ?_)
  refine kk ls H1 locs1 hl ?_ hS1
  rw [jm_ws_set hdj hq (M' := jm_up M t j i.toNatClampNeg v) ?_ ?_] at hP1
  · exact hP1
  · rw [jm_cell]
    have e2 : upd (M t j) i.toNatClampNeg v = jm_up M t j i.toNatClampNeg v t j := by funext k; simp [jm_up, upd]
    simp only [e2]
  · intro a b hab
    funext k
    simp only [jm_up]
    rw [if_neg (fun h => hab ⟨h.1, h.2.1⟩)]
theorem jm_alen {t j N : Nat} (F : jm_F E X own cc nL ret d n z w) (hd : jm_d cc pc .arraylength 1 pc') (hX : jm_arr X t j N) (kk : jm_G w pc' lv (.int (nI N) :: st) M o K) : jm_G w pc lv (.ref (jm_a E t j) :: st) M o K := by
  intro r h1 h2
  have kk := kk r h1 h2
  obtain ⟨p, e, s, m, args, below, meth, c, rfl, hx, hb, hml, hown, hts, hr, hlk, hK, hdj, hZ⟩ := F
  obtain ⟨hd, rfl⟩ := hd
  obtain ⟨q, hq⟩ := hX
  intro ls H locs hl hP hS
  exact va_alen hx hb hK hP q 0 (jm_ws_at hq) rfl rfl hd (kk ls H locs hl hP hS)
theorem jm_len_arr {X : jm_Lay} {r : Nat × Nat} {N : Nat} (h : jm_len X r = some N) : jm_arr X r.1 r.2 N := by
  unfold jm_len at h
  split at h
  next u n hf =>
    cases h
    obtain ⟨q, hq⟩ := List.getElem?_of_mem (List.mem_of_find?_eq_some hf)
    have h2 := List.find?_some hf
    simp only [Bool.and_eq_true, beq_iff_eq] at h2
    obtain ⟨u1, u2⟩ := u
    obtain ⟨rfl, rfl⟩ := h2
    exact ⟨q, hq⟩
  · cases h
theorem jm_lenB {r : Nat × Nat} {g : Nat → Option τ} (k : ∀ N, jm_arr X r.1 r.2 N → jm_G w pc lv st M (g N) K) : jm_G w pc lv st M ((jm_len X r).bind g) K := by
  intro e h1 h2
  cases h : jm_len X r with
  | none => rw [h] at h1; cases h1
  | some N => rw [h] at h1; exact k N (jm_len_arr h) e h1 h2
def jm_ix (n : Nat) (i : Int32) : Option Nat := if i < 0 ∨ n ≤ i.toNatClampNeg then none else some i.toNatClampNeg
theorem jm_aald {t j b : Nat} {rs : List (Nat × Nat)} {N : Nat} {i : Int32} {g : Nat → Option τ} (F : jm_F E X own cc nL ret d n z w) (hd : jm_d cc pc .aaload 1 pc') (hX : jm_rar X t j rs) (hN : rs.length = N) (hrs : ∀ k, k < N → rs[k]? = some (b + k, 0)) (kk : ∀ k, k < N → jm_G w pc' lv (.ref (jm_a E (b + k) 0) :: st) M (g k) K) : jm_G w pc lv (.int i :: .ref (jm_a E t j) :: st) M ((jm_ix N i).bind g) K := by
  intro r h1 h2
  unfold jm_ix at h1
  split at h1
  · cases h1
  next hi =>
  have hlt : i.toNatClampNeg < N := Nat.lt_of_not_le (fun h => hi (Or.inr h))
  have kk2 := kk _ hlt r h1 h2
  obtain ⟨p, e, s, m, args, below, meth, c, rfl, hx, hb, hml, hown, hts, hr, hlk, hK, hdj, hZ⟩ := F
  obtain ⟨hd, rfl⟩ := hd
  obtain ⟨q, hq⟩ := hX
  subst hN
  intro ls H locs hl hP hS
  refine va_aldq hx hb hK hP q 1 (jm_ws_at hq) rfl hi hd ?_
  rw [hrs _ hlt]
  exact kk2 ls H locs hl hP hS
theorem jm_gets {index : Nat} (F : jm_F E X own cc nL ret d n z w) (hd : jm_d cc pc (.getstatic index) 3 pc') (hl0 : Cond.fieldLink own index "WeighedInBooks$Statements" "STEP_LETTERS" "[C" ∈ jm_tb) (kk : jm_G w pc' lv (.ref (jm_tS E) :: st) M o K) : jm_G w pc lv st M o K := by
  intro r h1 h2
  have kk := kk r h1 h2
  obtain ⟨p, e, s, m, args, below, meth, c, rfl, hx, hb, hml, hown, hts, hr, hlk, hK, hdj, hZ⟩ := F
  obtain ⟨hd, rfl⟩ := hd
  intro ls H locs hl hP hS
  exact va_gets hx hb hZ.1 hS hown (hts _ hl0) (fun _ h => h) hd (kk ls H locs hl hP hS)
theorem jm_cald {i : Int32} {g : Int32 → Option τ} (F : jm_F E X own cc nL ret d n z w) (hd : jm_d cc pc .caload 1 pc') (kk : ∀ v, jm_G w pc' lv (.int v :: st) M (g v) K) : jm_G w pc lv (.int i :: .ref (jm_tS E) :: st) M ((jm_rd 8 jm_SL i).bind g) K := by
  intro r h1 h2
  unfold jm_rd at h1
  split at h1
  · cases h1
  next hi =>
  have kk := kk _ r h1 h2
  obtain ⟨p, e, s, m, args, below, meth, c, rfl, hx, hb, hml, hown, hts, hr, hlk, hK, hdj, hZ⟩ := F
  obtain ⟨hd, rfl⟩ := hd
  intro ls H locs hl hP hS
  exact va_tc hx hb hZ.2 hS hi rfl hd (kk ls H locs hl hP hS)
def jm_wc (M : jm_M) (t j t' j' n : Nat) : Option jm_M := some (jm_cp M t j t' j' n)
theorem jm_acopy {index t j t' j' N : Nat} {i : Int32} {g : jm_M → Option τ} (F : jm_F E X own cc nL ret d n z w) (hd : jm_d cc pc (.invokestatic index) 3 pc') (hw1 : Cond.methodLink own index arraycopyName ∈ jm_tb) (hw2 : Cond.native arraycopyName ∈ jm_tb) (hw3 : Cond.static arraycopyName ∈ jm_tb) (hw4 : Cond.initialized "java/lang/System" ∈ jm_tb) (hX : jm_arr X t j N) (hX' : jm_arr X t' j' N) (hi : ¬ i < 0) (hN : i.toNatClampNeg = N) (hR : 1 ≤ d ∧ (st.map fun v => v.category).sum + (nativeFrameWords "java/lang/System" "arraycopy" 5 + 11) ≤ n) (kk : ∀ M', jm_G w pc' lv st M' (g M') K) : jm_G w pc lv (.int i :: .int 0 :: .ref (jm_a E t' j') :: .int 0 :: .ref (jm_a E t j) :: st) M ((jm_wc M t j t' j' N).bind g) K := by
  intro r h1 h2
  have kk := kk (jm_cp M t j t' j' N) r h1 h2
  obtain ⟨p, e, s, m, args, below, meth, c, rfl, hx, hb, hml, hown, hts, hr, hlk, hK, hdj, hZ⟩ := F
  obtain ⟨hd, rfl⟩ := hd
  obtain ⟨q, hq⟩ := hX
  obtain ⟨q', hq'⟩ := hX'
  intro ls H locs hl hP hS
  have z0 : (0 : Int32).toNatClampNeg = 0 := by decide
  refine va_copyi hx hb (hml.trans hl.1.symm) hown (hts _ hw1) (hts _ hw2) (hts _ hw3) (hts _ hw4) hK hP (jm_D_of hdj M) hS q q' 0 0 (jm_ws_at hq) (jm_ws_at hq') rfl rfl rfl (by decide) (by decide) hi (by rw [z0, hN]; omega) (by rw [z0, hN]; omega) (fun _ _ => rfl) hR.1 hR.2 hd (fun H1 locs1 hP1 hD1 hS1 => ?_)
  refine kk ls H1 locs1 hl ?_ hS1
  rw [jm_ws_set hdj hq' (M' := jm_cp M t j t' j' N) ?_ ?_] at hP1
  · exact hP1
  · rw [jm_cell]
    have e2 : va_cpy (M t j) (M t' j') (0 : Int32).toNatClampNeg (0 : Int32).toNatClampNeg i.toNatClampNeg = jm_cp M t j t' j' N t' j' := by
      funext k
      rw [z0, hN]
      simp [jm_cp, va_cpy]
    simp only [e2]
  · intro a b hab
    funext k
    simp only [jm_cp]
    rw [if_neg (fun h => hab ⟨h.1, h.2.1⟩)]
def jm_max (x y : Int32) : Int32 := if x < y then y else x
def jm_min (x y : Int32) : Int32 := if y < x then y else x
def jm_abs (x : Int32) : Int32 := if 0 ≤ x then x else 0 - x
theorem jm_mmax {index : Nat} {x y : Int32} (F : jm_F E X own cc nL ret d n z w) (hd : jm_d cc pc (.invokestatic index) 3 pc') (hw1 : Cond.methodLink own index Lib.Math.max.name ∈ jm_tb) (hw2 : Cond.static Lib.Math.max.name ∈ jm_tb) (hw3 : Cond.initialized "java/lang/Math" ∈ jm_tb) (hw4 : Cond.code Lib.Math.max.name Lib.Math.max.code 2 (some .int) ∈ jm_tb) (hR : 1 ≤ d ∧ (st.map fun v => v.category).sum + 13 ≤ n) (k : jm_G w pc' lv (.int (jm_max x y) :: st) M o K) : jm_G w pc lv (.int y :: .int x :: st) M o K := by
  intro r h1 h2
  have k := k r h1 h2
  obtain ⟨p, e, s, m, args, below, meth, c, rfl, hx, hb, hml, hown, hts, hr, hlk, hK, hdj, hZ⟩ := F
  obtain ⟨hd, rfl⟩ := hd
  intro ls H locs hl hP hS
  exact va_mmax hx hb (hml.trans hl.1.symm) hown (hts _ hw1) (hts _ hw2) (hts _ hw3) (hts _ hw4) hR.1 hR.2 (Nat.zero_le _) (Nat.zero_le _) hd (k ls H locs hl hP hS)
theorem jm_mmin {index : Nat} {x y : Int32} (F : jm_F E X own cc nL ret d n z w) (hd : jm_d cc pc (.invokestatic index) 3 pc') (hw1 : Cond.methodLink own index Lib.Math.min.name ∈ jm_tb) (hw2 : Cond.static Lib.Math.min.name ∈ jm_tb) (hw3 : Cond.initialized "java/lang/Math" ∈ jm_tb) (hw4 : Cond.code Lib.Math.min.name Lib.Math.min.code 2 (some .int) ∈ jm_tb) (hR : 1 ≤ d ∧ (st.map fun v => v.category).sum + 13 ≤ n) (k : jm_G w pc' lv (.int (jm_min x y) :: st) M o K) : jm_G w pc lv (.int y :: .int x :: st) M o K := by
  intro r h1 h2
  have k := k r h1 h2
  obtain ⟨p, e, s, m, args, below, meth, c, rfl, hx, hb, hml, hown, hts, hr, hlk, hK, hdj, hZ⟩ := F
  obtain ⟨hd, rfl⟩ := hd
  intro ls H locs hl hP hS
  exact va_mmin hx hb (hml.trans hl.1.symm) hown (hts _ hw1) (hts _ hw2) (hts _ hw3) (hts _ hw4) hR.1 hR.2 (Nat.zero_le _) (Nat.zero_le _) hd (k ls H locs hl hP hS)
theorem jm_mabs {index : Nat} {x : Int32} (F : jm_F E X own cc nL ret d n z w) (hd : jm_d cc pc (.invokestatic index) 3 pc') (hw1 : Cond.methodLink own index Lib.Math.abs.name ∈ jm_tb) (hw2 : Cond.static Lib.Math.abs.name ∈ jm_tb) (hw3 : Cond.initialized "java/lang/Math" ∈ jm_tb) (hw4 : Cond.code Lib.Math.abs.name Lib.Math.abs.code 1 (some .int) ∈ jm_tb) (hR : 1 ≤ d ∧ (st.map fun v => v.category).sum + 13 ≤ n) (k : jm_G w pc' lv (.int (jm_abs x) :: st) M o K) : jm_G w pc lv (.int x :: st) M o K := by
  intro r h1 h2
  have k := k r h1 h2
  obtain ⟨p, e, s, m, args, below, meth, c, rfl, hx, hb, hml, hown, hts, hr, hlk, hK, hdj, hZ⟩ := F
  obtain ⟨hd, rfl⟩ := hd
  intro ls H locs hl hP hS
  exact va_mabs hx hb (hml.trans hl.1.symm) hown (hts _ hw1) (hts _ hw2) (hts _ hw3) (hts _ hw4) hR.1 hR.2 (Nat.zero_le _) (Nat.zero_le _) hd (k ls H locs hl hP hS)
end
/-! contracts -/
def jm_Pz (E : jm_Ev) (X : jm_Lay) (M : jm_M) (U : State) : Prop := va_P (jm_D E) jm_cl (jm_ws E X M) U.heap ∧ va_K (jm_D E) jm_cl (jm_tys E) U ∧ jm_Z E X U U.heap
def jm_Ct (E : jm_Ev) (X : jm_Lay) (y : MethodName) (cc : ByteArray) (maxL : Nat) (ret : Option FieldType) (d n : Nat) (av : List Value) (M : jm_M) (v : Option Value) (M' : jm_M) : Prop :=
  Met (jm_l E) y (Cond.code y cc maxL ret :: jm_tb) ({ frames := d, cells := 0, slots := 0, locals := n } : Room) (va_Pc av (jm_Pz E X M)) (jm_Qz E X (fun v' M'' => v' = v ∧ M'' = M')) 0 0 (jm_A E X)
theorem jm_enter {E : jm_Ev} {X : jm_Lay} {y : MethodName} {cc : ByteArray} {maxL : Nat} {ret : Option FieldType} {d n : Nat} {av : List Value} {M : jm_M} {v : Option Value} {M' : jm_M} {lv : jm_LV} (hE : jm_dj E X) (hy : plainName y.cls = true) (hn : (lg_sl av).length ≤ maxL) (hl0 : jm_pairs lv = lv_args 0 av) (body : ∀ z w, jm_F E X y.cls cc maxL ret d n z w → z v M' → w 0 lv [] M) : jm_Ct E X y cc maxL ret d n av M v M' := by
  refine Met.ofW (cc := cc) (maxL := maxL) (ret := ret) hy rfl ?_
  intro p e s m args below meth c s₁ B hml hv
  obtain ⟨rfl, hP, hK, hZ⟩ := hv
  have hts := atoms_spec (ws := Cond.code y cc maxL ret :: jm_tb) B.pre
  have hown : s.vm.findClass y.cls = some m.cls := findClass_of_methodNamed B.named
  have F : jm_F E X y.cls cc maxL ret d n (fun v' M'' => v' = v ∧ M'' = M') _ := ⟨p, e, s, m, av.toArray, below, meth, c, rfl, B.exec, B.bytes, hml, hown, fun w hw => hts w (List.mem_cons_of_mem _ hw), B.returns, B.notSynchronized, hK, hE, hZ⟩
  have hb := body _ _ F ⟨rfl, rfl⟩
  have hl := lv_entry av (n := maxL) hn
  rw [lg_entry_eq]
  generalize (lg_sl av ++ List.replicate (maxL - (lg_sl av).length) Slot.unset).toArray = ls at hl ⊢
  exact hb ls s.heap [] ⟨hl.1, hl.2.1, fun i v h => hl.2.2 (i, v) (by rw [← hl0]; exact jm_pairs_mem h)⟩ hP va_S.rf
def jm_CV (own : String) (index : Nat) (y : MethodName) (cc : ByteArray) (maxL : Nat) (ret : Option FieldType) (na : Nat) : Prop :=
  Cond.methodLink own index y ∈ jm_tb ∧ Cond.instanceMethod y ∈ jm_tb ∧ Cond.selects y.cls y y ∈ jm_tb ∧ Cond.initialized y.cls ∈ jm_tb ∧ Cond.code y cc maxL ret ∈ jm_tb ∧ y.cls ≠ "java/lang/invoke/MethodHandle" ∧ y.cls ≠ "java/lang/invoke/VarHandle" ∧ (parseMethodDescriptor y.desc).map (fun d => d.parameters.length) = some na
def jm_CS (own : String) (index : Nat) (y : MethodName) (cc : ByteArray) (maxL : Nat) (ret : Option FieldType) (na : Nat) : Prop :=
  Cond.methodLink own index y ∈ jm_tb ∧ Cond.static y ∈ jm_tb ∧ Cond.initialized y.cls ∈ jm_tb ∧ Cond.code y cc maxL ret ∈ jm_tb ∧ y.cls ≠ "java/lang/invoke/MethodHandle" ∧ y.cls ≠ "java/lang/invoke/VarHandle" ∧ (parseMethodDescriptor y.desc).map (fun d => d.parameters.length) = some na
theorem jm_tb_good {w : Cond} (h : w ∈ jm_tb) : (w.onTables && w.keeps) = true ∨ ∃ ty, w = .arrayClass ty := good_of_word (List.mem_filter.mp h).2
theorem jm_good {ws : List Cond} (h : ∀ w ∈ ws, w ∈ jm_tb) : GoodIn jm_tb ws := fun w hw => ⟨h w hw, jm_tb_good (h w hw)⟩
theorem jm_Pz_blind {E : jm_Ev} {X : jm_Lay} {M : jm_M} {av : List Value} : FrameBlind (va_Pc av (jm_Pz E X M)) := by
  intro a U g mk h
  obtain ⟨e, h1, h2, h3, h4⟩ := h
  exact ⟨e, h1, va_K.moved (u := U) (U := U.calling g mk a) (Vm.Alike.refl U.vm) h2, h3.moved (u := U) (U := U.calling g mk a) (Vm.Alike.refl U.vm), h4.moved (u := U) (U := U.calling g mk a) (Vm.Alike.refl U.vm)⟩
theorem jm_Pz_at {E : jm_Ev} {X : jm_Lay} {M : jm_M} {s U : State} {H : Heap} {locs : List Loc} (hU : U.heap = H) (hW : s.WarmedH U.vm) (hP : va_P (jm_D E) jm_cl (jm_ws E X M) H) (hK : va_K (jm_D E) jm_cl (jm_tys E) s) (hZ : jm_Z E X s s.heap) (hS : va_S (jm_A E X) s.heap H locs) : jm_Pz E X M U := by
  subst hU
  exact ⟨hP, va_K.moved hW.alike hK, (hZ.1.kept (fun a h1 h2 => hS.2.1 a h1 h2)).moved hW.alike, (hZ.2.kept (fun a h1 h2 => hS.2.1 a h1 h2)).moved hW.alike⟩
theorem jm_call {E : jm_Ev} {X : jm_Lay} {p : Program} {e : Env} {R : Room} {s : State} {m : MethodId} {args a : Array Value} {below : List Frame} {meth : Method} {c : Code} {H : Heap} {locs : List Loc} {Q : State → Prop} {pc : Nat} {ls : Array Slot} {rest st0 : List Value} {v : Option Value} {M' : jm_M}
    (hr : va_Run p (jm_l E) e R s m args below meth c H locs 0 0 0 0 (F0 m pc ls st0) rest (jm_Qz E X (fun v' M'' => v' = v ∧ M'' = M') a) (jm_A E X)) (hS : va_S (jm_A E X) s.heap H locs)
    (kk : ∀ (H1 : Heap) (locs1 : List Loc), va_P (jm_D E) jm_cl (jm_ws E X M') H1 → va_S (jm_A E X) s.heap H1 locs1 → W p (jm_l E) e R s m args below meth c H1 locs1 0 0 Q (F0 m (pc + 3) ls (v.toList ++ rest))) : W p (jm_l E) e R s m args below meth c H locs 0 0 Q (F0 m pc ls st0) := by
  intro T hT X0
  obtain ⟨v0, st₀, t, T', L, h0, X', hL, e1, e2, ⟨⟨v1, M1, hv, ⟨rfl, rfl⟩, hP1⟩, hz, hk⟩, stp⟩ := hr T hT X0
  cases hv
  rw [h0] at hz hk
  obtain ⟨t2, a1, b1⟩ := kk T'.heap (locs ++ L) (by rw [e1]; exact hP1) ⟨Nat.le_trans hS.1 (by rw [e1]; exact hz), fun q h1 h2 => by rw [e1, hk q (Nat.lt_of_lt_of_le h1 hS.1) h2]; exact hS.2.1 q h1 h2, fun q hq => by
      rcases List.mem_append.mp hq with h | h
      · exact hS.2.2 q h
      · exact hL q h⟩ T' rfl X'
  exact ⟨t2, stp t2 a1, b1⟩
section
variable {E : jm_Ev} {X : jm_Lay} {own : String} {cc : ByteArray} {nL d n : Nat} {ret : Option FieldType} {z : Option Value → jm_M → Prop} {w : Nat → jm_LV → List Value → jm_M → Prop}
variable {τ σ : Type} {pc pc' : Nat} {lv : jm_LV} {st stk : List Value} {M : jm_M} {K : τ → Prop}
theorem jm_callV {y : MethodName} {bytes : ByteArray} {maxL d' n' na index : Nat} {ret' : Option FieldType} {As : List Value} {f : Option σ} {g : σ → Option τ} {rv : σ → Option Value} {mm : σ → jm_M} {t ci q0 : Nat} {fs : List (Option (Nat × Nat))} (F : jm_F E X own cc nL ret d n z w) (hd : jm_d cc pc (.invokevirtual index) 3 pc') (hc : jm_CV own index y bytes maxL ret' na) (hna : As.length = na) (hX : jm_obj X t ci fs) (hci : (jm_cl[ci]?).map (fun q => q.1) = some y.cls) (hM : ∀ r, f = some r → jm_Ct E X y bytes maxL ret' d' n' (.ref (jm_a E t 0) :: As) M (rv r) (mm r)) (hst : stk = As.reverse ++ .ref (jm_a E t 0) :: st) (hw : (st.map fun v => v.category).sum ≤ 8) (hR : d' + 1 ≤ d ∧ 8 + (maxL + 11) + n' ≤ n) (kk : ∀ r, jm_G w pc' lv ((rv r).toList ++ st) (mm r) (g r) K) : jm_G w pc lv stk M (f.bind g) K := by
  intro r h1 h2
  cases hf : f with
  | none => rw [hf] at h1; cases h1
  | some r0 =>
  rw [hf] at h1
  have hM := hM r0 hf
  have kk := kk r0 r h1 h2
  obtain ⟨p, e, s, m, args, below, meth, c, rfl, hx, hb, hml, hown, hts, hr, hlk, hK, hdj, hZ⟩ := F
  obtain ⟨hd, rfl⟩ := hd
  obtain ⟨q, hq⟩ := hX
  obtain ⟨w1, w2, w3, w4, w5, w6, w7, w8⟩ := hc
  intro ls H locs hl hP hS
  subst hst
  have hG : GoodIn jm_tb (wsV own index y.cls y (Cond.code y bytes maxL ret' :: jm_tb)) := jm_good (fun w hw => by
    simp only [wsV, List.mem_append, List.mem_cons, List.not_mem_nil, or_false] at hw
    rcases hw with (rfl | rfl | rfl | rfl) | rfl | h
    · exact w1
    · exact w2
    · exact w3
    · exact w4
    · exact w5
    · exact h)
  have hrec : ∃ cell : Cell, H[jm_a E t 0]? = some cell ∧ cell.vm.isStatics = false ∧ s.vm.findClass y.cls = some cell.cls := by
    cases hcc : jm_cl[ci]? with
    | none => rw [hcc] at hci; cases hci
    | some q9 =>
      rw [hcc] at hci
      have e9 : q9.1 = y.cls := Option.some.inj hci
      rw [← e9]
      exact va_recv hK hP hcc (jm_ws_at hq)
  exact jm_call (va_runV (As := As) (rest := st) ⟨hx, hb, hml, hown, hts⟩ hM (cwV na hts hG rfl rfl rfl ⟨rfl, w6, w7, w8⟩ hR) ⟨jm_Pz_blind, hrec, fun U hU hW => ⟨rfl, jm_Pz_at hU hW hP hK hZ hS⟩⟩ rfl hna hl.1 rfl (lv_room hw) hd ⟨Nat.zero_le _, Nat.zero_le _⟩) hS (fun H1 locs1 hP1 hS1 => kk ls H1 locs1 hl hP1 hS1)
theorem jm_callS {y : MethodName} {bytes : ByteArray} {maxL d' n' na index : Nat} {ret' : Option FieldType} {As : List Value} {f : Option σ} {g : σ → Option τ} {rv : σ → Option Value} {mm : σ → jm_M} (F : jm_F E X own cc nL ret d n z w) (hd : jm_d cc pc (.invokestatic index) 3 pc') (hc : jm_CS own index y bytes maxL ret' na) (hna : As.length = na) (hM : ∀ r, f = some r → jm_Ct E X y bytes maxL ret' d' n' As M (rv r) (mm r)) (hst : stk = As.reverse ++ st) (hw : (st.map fun v => v.category).sum ≤ 8) (hR : d' + 1 ≤ d ∧ 8 + (maxL + 11) + n' ≤ n) (kk : ∀ r, jm_G w pc' lv ((rv r).toList ++ st) (mm r) (g r) K) : jm_G w pc lv stk M (f.bind g) K := by
  intro r h1 h2
  cases hf : f with
  | none => rw [hf] at h1; cases h1
  | some r0 =>
  rw [hf] at h1
  have hM := hM r0 hf
  have kk := kk r0 r h1 h2
  obtain ⟨p, e, s, m, args, below, meth, c, rfl, hx, hb, hml, hown, hts, hr, hlk, hK, hdj, hZ⟩ := F
  obtain ⟨hd, rfl⟩ := hd
  obtain ⟨w1, w2, w4, w5, w6, w7, w8⟩ := hc
  intro ls H locs hl hP hS
  subst hst
  have hG : GoodIn jm_tb (Cond.code y bytes maxL ret' :: jm_tb) := jm_good (fun w hw => by
    rcases List.mem_cons.mp hw with rfl | h
    · exact w5
    · exact h)
  exact jm_call (va_runS (As := As) (rest := st) ⟨hx, hb, hml, hown, hts⟩ hM ⟨callB_of na hts hG rfl rfl rfl (hts _ w4) (hts _ w1) ⟨w6, w7, w8⟩ hR, hts _ w2⟩ ⟨jm_Pz_blind, fun U hU hW => ⟨rfl, jm_Pz_at hU hW hP hK hZ hS⟩⟩ rfl hna hl.1 rfl (lv_room hw) hd ⟨Nat.zero_le _, Nat.zero_le _⟩) hS (fun H1 locs1 hP1 hS1 => kk ls H1 locs1 hl hP1 hS1)
end
end
