section
-- ===== PART A: goes FIRST, ahead of the names: the tables' words, and 'selects' of the private methods out of them =====
/-- a private method of a class that the tables say can be made, by its rows of tables_1 -/
def lw_okq (q : MethodName × Nat) : Prop := (q.1.cls ≠ "java/lang/invoke/MethodHandle" ∧ q.1.cls ≠ "java/lang/invoke/VarHandle") ∧ Cond.instantiable q.1.cls q.2 ∈ tables_1 ∧ Cond.privateMethod q.1 ∈ tables_1 ∧ Cond.instanceMethod q.1 ∈ tables_1
theorem lw_p0 : lw_okq (⟨"WeighedInBooks", "refuse", "(I)I"⟩, 12) := ⟨⟨by decide +kernel, by decide +kernel⟩, List.mem_of_getElem? (i := 15) (by decide +kernel), List.mem_of_getElem? (i := 263) (by decide +kernel), List.mem_of_getElem? (i := 264) (by decide +kernel)⟩
theorem lw_p1 : lw_okq (⟨"WeighedInBooks", "areTwo", "(II)Z"⟩, 12) := ⟨⟨by decide +kernel, by decide +kernel⟩, List.mem_of_getElem? (i := 15) (by decide +kernel), List.mem_of_getElem? (i := 534) (by decide +kernel), List.mem_of_getElem? (i := 535) (by decide +kernel)⟩
theorem lw_p2 : lw_okq (⟨"WeighedInBooks", "isNeither", "(I)Z"⟩, 12) := ⟨⟨by decide +kernel, by decide +kernel⟩, List.mem_of_getElem? (i := 15) (by decide +kernel), List.mem_of_getElem? (i := 565) (by decide +kernel), List.mem_of_getElem? (i := 566) (by decide +kernel)⟩
theorem lw_p3 : lw_okq (⟨"WeighedInBooks", "orderPan", "(II)I"⟩, 12) := ⟨⟨by decide +kernel, by decide +kernel⟩, List.mem_of_getElem? (i := 15) (by decide +kernel), List.mem_of_getElem? (i := 628) (by decide +kernel), List.mem_of_getElem? (i := 629) (by decide +kernel)⟩
theorem lw_p4 : lw_okq (⟨"WeighedInBooks", "isHeavier", "(IIII)Z"⟩, 12) := ⟨⟨by decide +kernel, by decide +kernel⟩, List.mem_of_getElem? (i := 15) (by decide +kernel), List.mem_of_getElem? (i := 633) (by decide +kernel), List.mem_of_getElem? (i := 634) (by decide +kernel)⟩
theorem lw_p5 : lw_okq (⟨"WeighedInBooksModel", "no", "(I)I"⟩, 44) := ⟨⟨by decide +kernel, by decide +kernel⟩, List.mem_of_getElem? (i := 872) (by decide +kernel), List.mem_of_getElem? (i := 1018) (by decide +kernel), List.mem_of_getElem? (i := 1019) (by decide +kernel)⟩
theorem lw_p6 : lw_okq (⟨"WeighedInBooksModel", "statement", "()Z"⟩, 44) := ⟨⟨by decide +kernel, by decide +kernel⟩, List.mem_of_getElem? (i := 872) (by decide +kernel), List.mem_of_getElem? (i := 1026) (by decide +kernel), List.mem_of_getElem? (i := 1027) (by decide +kernel)⟩
theorem lw_p7 : lw_okq (⟨"WeighedInBooksModel", "sign", "()I"⟩, 44) := ⟨⟨by decide +kernel, by decide +kernel⟩, List.mem_of_getElem? (i := 872) (by decide +kernel), List.mem_of_getElem? (i := 1030) (by decide +kernel), List.mem_of_getElem? (i := 1031) (by decide +kernel)⟩
theorem lw_p8 : lw_okq (⟨"WeighedInBooksModel", "readsAll", "(I)Z"⟩, 44) := ⟨⟨by decide +kernel, by decide +kernel⟩, List.mem_of_getElem? (i := 872) (by decide +kernel), List.mem_of_getElem? (i := 1034) (by decide +kernel), List.mem_of_getElem? (i := 1035) (by decide +kernel)⟩
theorem lw_p9 : lw_okq (⟨"WeighedInBooksModel", "readsDigits", "(I)Z"⟩, 44) := ⟨⟨by decide +kernel, by decide +kernel⟩, List.mem_of_getElem? (i := 872) (by decide +kernel), List.mem_of_getElem? (i := 1038) (by decide +kernel), List.mem_of_getElem? (i := 1039) (by decide +kernel)⟩
theorem lw_p10 : lw_okq (⟨"WeighedInBooksModel", "number", "(I)I"⟩, 44) := ⟨⟨by decide +kernel, by decide +kernel⟩, List.mem_of_getElem? (i := 872) (by decide +kernel), List.mem_of_getElem? (i := 1042) (by decide +kernel), List.mem_of_getElem? (i := 1043) (by decide +kernel)⟩
theorem lw_p11 : lw_okq (⟨"WeighedInBooksModel", "readsTitle", "()Z"⟩, 44) := ⟨⟨by decide +kernel, by decide +kernel⟩, List.mem_of_getElem? (i := 872) (by decide +kernel), List.mem_of_getElem? (i := 1049) (by decide +kernel), List.mem_of_getElem? (i := 1050) (by decide +kernel)⟩
theorem lw_p12 : lw_okq (⟨"WeighedInBooksModel", "readsSteps", "()Z"⟩, 44) := ⟨⟨by decide +kernel, by decide +kernel⟩, List.mem_of_getElem? (i := 872) (by decide +kernel), List.mem_of_getElem? (i := 1053) (by decide +kernel), List.mem_of_getElem? (i := 1054) (by decide +kernel)⟩
theorem lw_p13 : lw_okq (⟨"WeighedInBooksModel", "passesAll", "(IZ)V"⟩, 44) := ⟨⟨by decide +kernel, by decide +kernel⟩, List.mem_of_getElem? (i := 872) (by decide +kernel), List.mem_of_getElem? (i := 1060) (by decide +kernel), List.mem_of_getElem? (i := 1061) (by decide +kernel)⟩
theorem lw_p14 : lw_okq (⟨"WeighedInBooksModel", "passes", "([I)V"⟩, 44) := ⟨⟨by decide +kernel, by decide +kernel⟩, List.mem_of_getElem? (i := 872) (by decide +kernel), List.mem_of_getElem? (i := 1064) (by decide +kernel), List.mem_of_getElem? (i := 1065) (by decide +kernel)⟩
theorem lw_p15 : lw_okq (⟨"WeighedInBooksModel", "passOne", "(I)I"⟩, 44) := ⟨⟨by decide +kernel, by decide +kernel⟩, List.mem_of_getElem? (i := 872) (by decide +kernel), List.mem_of_getElem? (i := 1068) (by decide +kernel), List.mem_of_getElem? (i := 1069) (by decide +kernel)⟩
def lw_privs_1 : List (MethodName × Nat) := [(⟨"WeighedInBooks", "refuse", "(I)I"⟩, 12), (⟨"WeighedInBooks", "areTwo", "(II)Z"⟩, 12), (⟨"WeighedInBooks", "isNeither", "(I)Z"⟩, 12), (⟨"WeighedInBooks", "orderPan", "(II)I"⟩, 12), (⟨"WeighedInBooks", "isHeavier", "(IIII)Z"⟩, 12), (⟨"WeighedInBooksModel", "no", "(I)I"⟩, 44), (⟨"WeighedInBooksModel", "statement", "()Z"⟩, 44), (⟨"WeighedInBooksModel", "sign", "()I"⟩, 44), (⟨"WeighedInBooksModel", "readsAll", "(I)Z"⟩, 44), (⟨"WeighedInBooksModel", "readsDigits", "(I)Z"⟩, 44), (⟨"WeighedInBooksModel", "number", "(I)I"⟩, 44), (⟨"WeighedInBooksModel", "readsTitle", "()Z"⟩, 44), (⟨"WeighedInBooksModel", "readsSteps", "()Z"⟩, 44), (⟨"WeighedInBooksModel", "passesAll", "(IZ)V"⟩, 44), (⟨"WeighedInBooksModel", "passes", "([I)V"⟩, 44), (⟨"WeighedInBooksModel", "passOne", "(I)I"⟩, 44)]
theorem lw_r1 : ∀ q ∈ lw_privs_1, lw_okq q := List.forall_mem_cons.mpr ⟨lw_p0, List.forall_mem_cons.mpr ⟨lw_p1, List.forall_mem_cons.mpr ⟨lw_p2, List.forall_mem_cons.mpr ⟨lw_p3, List.forall_mem_cons.mpr ⟨lw_p4, List.forall_mem_cons.mpr ⟨lw_p5, List.forall_mem_cons.mpr ⟨lw_p6, List.forall_mem_cons.mpr ⟨lw_p7, List.forall_mem_cons.mpr ⟨lw_p8, List.forall_mem_cons.mpr ⟨lw_p9, List.forall_mem_cons.mpr ⟨lw_p10, List.forall_mem_cons.mpr ⟨lw_p11, List.forall_mem_cons.mpr ⟨lw_p12, List.forall_mem_cons.mpr ⟨lw_p13, List.forall_mem_cons.mpr ⟨lw_p14, List.forall_mem_cons.mpr ⟨lw_p15, fun _ h => absurd h List.not_mem_nil⟩⟩⟩⟩⟩⟩⟩⟩⟩⟩⟩⟩⟩⟩⟩⟩
theorem lw_p16 : lw_okq (⟨"WeighedInBooksModel", "comesTold", "(I)Z"⟩, 44) := ⟨⟨by decide +kernel, by decide +kernel⟩, List.mem_of_getElem? (i := 872) (by decide +kernel), List.mem_of_getElem? (i := 1072) (by decide +kernel), List.mem_of_getElem? (i := 1073) (by decide +kernel)⟩
theorem lw_p17 : lw_okq (⟨"WeighedInBooksModel", "comesPerson", "(I)Z"⟩, 44) := ⟨⟨by decide +kernel, by decide +kernel⟩, List.mem_of_getElem? (i := 872) (by decide +kernel), List.mem_of_getElem? (i := 1076) (by decide +kernel), List.mem_of_getElem? (i := 1077) (by decide +kernel)⟩
theorem lw_p18 : lw_okq (⟨"WeighedInBooksModel", "isMore", "(III)V"⟩, 44) := ⟨⟨by decide +kernel, by decide +kernel⟩, List.mem_of_getElem? (i := 872) (by decide +kernel), List.mem_of_getElem? (i := 1080) (by decide +kernel), List.mem_of_getElem? (i := 1081) (by decide +kernel)⟩
theorem lw_p19 : lw_okq (⟨"WeighedInBooksModel", "comesBook", "(II)Z"⟩, 44) := ⟨⟨by decide +kernel, by decide +kernel⟩, List.mem_of_getElem? (i := 872) (by decide +kernel), List.mem_of_getElem? (i := 1084) (by decide +kernel), List.mem_of_getElem? (i := 1085) (by decide +kernel)⟩
theorem lw_p20 : lw_okq (⟨"WeighedInBooksModel", "isPlace", "(I)Z"⟩, 44) := ⟨⟨by decide +kernel, by decide +kernel⟩, List.mem_of_getElem? (i := 872) (by decide +kernel), List.mem_of_getElem? (i := 1088) (by decide +kernel), List.mem_of_getElem? (i := 1089) (by decide +kernel)⟩
theorem lw_p21 : lw_okq (⟨"WeighedInBooksModel", "isPerson", "(I)Z"⟩, 44) := ⟨⟨by decide +kernel, by decide +kernel⟩, List.mem_of_getElem? (i := 872) (by decide +kernel), List.mem_of_getElem? (i := 1092) (by decide +kernel), List.mem_of_getElem? (i := 1093) (by decide +kernel)⟩
theorem lw_p22 : lw_okq (⟨"WeighedInBooksModel", "titledBy", "(I)I"⟩, 44) := ⟨⟨by decide +kernel, by decide +kernel⟩, List.mem_of_getElem? (i := 872) (by decide +kernel), List.mem_of_getElem? (i := 1096) (by decide +kernel), List.mem_of_getElem? (i := 1097) (by decide +kernel)⟩
theorem lw_p23 : lw_okq (⟨"WeighedInBooksModel", "isTitled", "(III)Z"⟩, 44) := ⟨⟨by decide +kernel, by decide +kernel⟩, List.mem_of_getElem? (i := 872) (by decide +kernel), List.mem_of_getElem? (i := 1100) (by decide +kernel), List.mem_of_getElem? (i := 1101) (by decide +kernel)⟩
theorem lw_p24 : lw_okq (⟨"WeighedInBooksModel", "isBrought", "(III)V"⟩, 44) := ⟨⟨by decide +kernel, by decide +kernel⟩, List.mem_of_getElem? (i := 872) (by decide +kernel), List.mem_of_getElem? (i := 1104) (by decide +kernel), List.mem_of_getElem? (i := 1105) (by decide +kernel)⟩
theorem lw_p25 : lw_okq (⟨"WeighedInBooksModel", "isTitledMore", "(I)V"⟩, 44) := ⟨⟨by decide +kernel, by decide +kernel⟩, List.mem_of_getElem? (i := 872) (by decide +kernel), List.mem_of_getElem? (i := 1108) (by decide +kernel), List.mem_of_getElem? (i := 1109) (by decide +kernel)⟩
theorem lw_p26 : lw_okq (⟨"WeighedInBooksModel", "comesReading", "(II)Z"⟩, 44) := ⟨⟨by decide +kernel, by decide +kernel⟩, List.mem_of_getElem? (i := 872) (by decide +kernel), List.mem_of_getElem? (i := 1112) (by decide +kernel), List.mem_of_getElem? (i := 1113) (by decide +kernel)⟩
theorem lw_p27 : lw_okq (⟨"WeighedInBooksModel", "comesHolding", "(II)Z"⟩, 44) := ⟨⟨by decide +kernel, by decide +kernel⟩, List.mem_of_getElem? (i := 872) (by decide +kernel), List.mem_of_getElem? (i := 1116) (by decide +kernel), List.mem_of_getElem? (i := 1117) (by decide +kernel)⟩
theorem lw_p28 : lw_okq (⟨"WeighedInBooksModel", "comesLaw", "(I)Z"⟩, 44) := ⟨⟨by decide +kernel, by decide +kernel⟩, List.mem_of_getElem? (i := 872) (by decide +kernel), List.mem_of_getElem? (i := 1120) (by decide +kernel), List.mem_of_getElem? (i := 1121) (by decide +kernel)⟩
theorem lw_p29 : lw_okq (⟨"WeighedInBooksModel", "comesWeeks", "(I)Z"⟩, 44) := ⟨⟨by decide +kernel, by decide +kernel⟩, List.mem_of_getElem? (i := 872) (by decide +kernel), List.mem_of_getElem? (i := 1124) (by decide +kernel), List.mem_of_getElem? (i := 1125) (by decide +kernel)⟩
theorem lw_p30 : lw_okq (⟨"WeighedInBooksModel", "goes", "(I)V"⟩, 44) := ⟨⟨by decide +kernel, by decide +kernel⟩, List.mem_of_getElem? (i := 872) (by decide +kernel), List.mem_of_getElem? (i := 1128) (by decide +kernel), List.mem_of_getElem? (i := 1129) (by decide +kernel)⟩
theorem lw_p31 : lw_okq (⟨"WeighedInBooksModel", "goesWeek", "()V"⟩, 44) := ⟨⟨by decide +kernel, by decide +kernel⟩, List.mem_of_getElem? (i := 872) (by decide +kernel), List.mem_of_getElem? (i := 1132) (by decide +kernel), List.mem_of_getElem? (i := 1133) (by decide +kernel)⟩
def lw_privs_2 : List (MethodName × Nat) := [(⟨"WeighedInBooksModel", "comesTold", "(I)Z"⟩, 44), (⟨"WeighedInBooksModel", "comesPerson", "(I)Z"⟩, 44), (⟨"WeighedInBooksModel", "isMore", "(III)V"⟩, 44), (⟨"WeighedInBooksModel", "comesBook", "(II)Z"⟩, 44), (⟨"WeighedInBooksModel", "isPlace", "(I)Z"⟩, 44), (⟨"WeighedInBooksModel", "isPerson", "(I)Z"⟩, 44), (⟨"WeighedInBooksModel", "titledBy", "(I)I"⟩, 44), (⟨"WeighedInBooksModel", "isTitled", "(III)Z"⟩, 44), (⟨"WeighedInBooksModel", "isBrought", "(III)V"⟩, 44), (⟨"WeighedInBooksModel", "isTitledMore", "(I)V"⟩, 44), (⟨"WeighedInBooksModel", "comesReading", "(II)Z"⟩, 44), (⟨"WeighedInBooksModel", "comesHolding", "(II)Z"⟩, 44), (⟨"WeighedInBooksModel", "comesLaw", "(I)Z"⟩, 44), (⟨"WeighedInBooksModel", "comesWeeks", "(I)Z"⟩, 44), (⟨"WeighedInBooksModel", "goes", "(I)V"⟩, 44), (⟨"WeighedInBooksModel", "goesWeek", "()V"⟩, 44)]
theorem lw_r2 : ∀ q ∈ lw_privs_2, lw_okq q := List.forall_mem_cons.mpr ⟨lw_p16, List.forall_mem_cons.mpr ⟨lw_p17, List.forall_mem_cons.mpr ⟨lw_p18, List.forall_mem_cons.mpr ⟨lw_p19, List.forall_mem_cons.mpr ⟨lw_p20, List.forall_mem_cons.mpr ⟨lw_p21, List.forall_mem_cons.mpr ⟨lw_p22, List.forall_mem_cons.mpr ⟨lw_p23, List.forall_mem_cons.mpr ⟨lw_p24, List.forall_mem_cons.mpr ⟨lw_p25, List.forall_mem_cons.mpr ⟨lw_p26, List.forall_mem_cons.mpr ⟨lw_p27, List.forall_mem_cons.mpr ⟨lw_p28, List.forall_mem_cons.mpr ⟨lw_p29, List.forall_mem_cons.mpr ⟨lw_p30, List.forall_mem_cons.mpr ⟨lw_p31, fun _ h => absurd h List.not_mem_nil⟩⟩⟩⟩⟩⟩⟩⟩⟩⟩⟩⟩⟩⟩⟩⟩
theorem lw_p32 : lw_okq (⟨"WeighedInBooksModel", "goesPerson", "(I)V"⟩, 44) := ⟨⟨by decide +kernel, by decide +kernel⟩, List.mem_of_getElem? (i := 872) (by decide +kernel), List.mem_of_getElem? (i := 1136) (by decide +kernel), List.mem_of_getElem? (i := 1137) (by decide +kernel)⟩
theorem lw_p33 : lw_okq (⟨"WeighedInBooksModel", "toRead", "(I)I"⟩, 44) := ⟨⟨by decide +kernel, by decide +kernel⟩, List.mem_of_getElem? (i := 872) (by decide +kernel), List.mem_of_getElem? (i := 1140) (by decide +kernel), List.mem_of_getElem? (i := 1141) (by decide +kernel)⟩
theorem lw_p34 : lw_okq (⟨"WeighedInBooksModel", "compares", "(II)I"⟩, 44) := ⟨⟨by decide +kernel, by decide +kernel⟩, List.mem_of_getElem? (i := 872) (by decide +kernel), List.mem_of_getElem? (i := 1147) (by decide +kernel), List.mem_of_getElem? (i := 1148) (by decide +kernel)⟩
theorem lw_p35 : lw_okq (⟨"WeighedInBooksModel", "manyRead", "(I)I"⟩, 44) := ⟨⟨by decide +kernel, by decide +kernel⟩, List.mem_of_getElem? (i := 872) (by decide +kernel), List.mem_of_getElem? (i := 1167) (by decide +kernel), List.mem_of_getElem? (i := 1168) (by decide +kernel)⟩
theorem lw_p36 : lw_okq (⟨"WeighedInBooksModel", "isBook", "(I)Z"⟩, 44) := ⟨⟨by decide +kernel, by decide +kernel⟩, List.mem_of_getElem? (i := 872) (by decide +kernel), List.mem_of_getElem? (i := 1178) (by decide +kernel), List.mem_of_getElem? (i := 1179) (by decide +kernel)⟩
theorem lw_p37 : lw_okq (⟨"WeighedInBooksModel", "weighs", "(I)I"⟩, 44) := ⟨⟨by decide +kernel, by decide +kernel⟩, List.mem_of_getElem? (i := 872) (by decide +kernel), List.mem_of_getElem? (i := 1182) (by decide +kernel), List.mem_of_getElem? (i := 1183) (by decide +kernel)⟩
theorem lw_p38 : lw_okq (⟨"WeighedInBooksModel", "asNovel", "(I)I"⟩, 44) := ⟨⟨by decide +kernel, by decide +kernel⟩, List.mem_of_getElem? (i := 872) (by decide +kernel), List.mem_of_getElem? (i := 1189) (by decide +kernel), List.mem_of_getElem? (i := 1190) (by decide +kernel)⟩
theorem lw_p39 : lw_okq (⟨"WeighedInBooksModel", "price", "(I)I"⟩, 44) := ⟨⟨by decide +kernel, by decide +kernel⟩, List.mem_of_getElem? (i := 872) (by decide +kernel), List.mem_of_getElem? (i := 1193) (by decide +kernel), List.mem_of_getElem? (i := 1194) (by decide +kernel)⟩
theorem lw_p40 : lw_okq (⟨"WeighedInBooksModel", "isLetterTitle", "(I)Z"⟩, 44) := ⟨⟨by decide +kernel, by decide +kernel⟩, List.mem_of_getElem? (i := 872) (by decide +kernel), List.mem_of_getElem? (i := 1209) (by decide +kernel), List.mem_of_getElem? (i := 1210) (by decide +kernel)⟩
theorem lw_p41 : lw_okq (⟨"WeighedInBooksModel", "remembers", "()V"⟩, 44) := ⟨⟨by decide +kernel, by decide +kernel⟩, List.mem_of_getElem? (i := 872) (by decide +kernel), List.mem_of_getElem? (i := 1217) (by decide +kernel), List.mem_of_getElem? (i := 1218) (by decide +kernel)⟩
theorem lw_p42 : lw_okq (⟨"WeighedInBooksModel", "areTwo", "(II)Z"⟩, 44) := ⟨⟨by decide +kernel, by decide +kernel⟩, List.mem_of_getElem? (i := 872) (by decide +kernel), List.mem_of_getElem? (i := 1249) (by decide +kernel), List.mem_of_getElem? (i := 1250) (by decide +kernel)⟩
theorem lw_p43 : lw_okq (⟨"WeighedInBooksModel", "overNow", "(II)I"⟩, 44) := ⟨⟨by decide +kernel, by decide +kernel⟩, List.mem_of_getElem? (i := 872) (by decide +kernel), List.mem_of_getElem? (i := 1253) (by decide +kernel), List.mem_of_getElem? (i := 1254) (by decide +kernel)⟩
theorem lw_p44 : lw_okq (⟨"WeighedInBooksModel", "overWith", "(III)I"⟩, 44) := ⟨⟨by decide +kernel, by decide +kernel⟩, List.mem_of_getElem? (i := 872) (by decide +kernel), List.mem_of_getElem? (i := 1257) (by decide +kernel), List.mem_of_getElem? (i := 1258) (by decide +kernel)⟩
theorem lw_p45 : lw_okq (⟨"WeighedInBooksModel", "isHeld", "(III)Z"⟩, 44) := ⟨⟨by decide +kernel, by decide +kernel⟩, List.mem_of_getElem? (i := 872) (by decide +kernel), List.mem_of_getElem? (i := 1261) (by decide +kernel), List.mem_of_getElem? (i := 1262) (by decide +kernel)⟩
theorem lw_p46 : lw_okq (⟨"WeighedInBooksModel", "comesTo", "(III)I"⟩, 44) := ⟨⟨by decide +kernel, by decide +kernel⟩, List.mem_of_getElem? (i := 872) (by decide +kernel), List.mem_of_getElem? (i := 1265) (by decide +kernel), List.mem_of_getElem? (i := 1266) (by decide +kernel)⟩
theorem lw_p47 : lw_okq (⟨"WeighedInBooksModel", "byStep", "(III)I"⟩, 44) := ⟨⟨by decide +kernel, by decide +kernel⟩, List.mem_of_getElem? (i := 872) (by decide +kernel), List.mem_of_getElem? (i := 1269) (by decide +kernel), List.mem_of_getElem? (i := 1270) (by decide +kernel)⟩
def lw_privs_3 : List (MethodName × Nat) := [(⟨"WeighedInBooksModel", "goesPerson", "(I)V"⟩, 44), (⟨"WeighedInBooksModel", "toRead", "(I)I"⟩, 44), (⟨"WeighedInBooksModel", "compares", "(II)I"⟩, 44), (⟨"WeighedInBooksModel", "manyRead", "(I)I"⟩, 44), (⟨"WeighedInBooksModel", "isBook", "(I)Z"⟩, 44), (⟨"WeighedInBooksModel", "weighs", "(I)I"⟩, 44), (⟨"WeighedInBooksModel", "asNovel", "(I)I"⟩, 44), (⟨"WeighedInBooksModel", "price", "(I)I"⟩, 44), (⟨"WeighedInBooksModel", "isLetterTitle", "(I)Z"⟩, 44), (⟨"WeighedInBooksModel", "remembers", "()V"⟩, 44), (⟨"WeighedInBooksModel", "areTwo", "(II)Z"⟩, 44), (⟨"WeighedInBooksModel", "overNow", "(II)I"⟩, 44), (⟨"WeighedInBooksModel", "overWith", "(III)I"⟩, 44), (⟨"WeighedInBooksModel", "isHeld", "(III)Z"⟩, 44), (⟨"WeighedInBooksModel", "comesTo", "(III)I"⟩, 44), (⟨"WeighedInBooksModel", "byStep", "(III)I"⟩, 44)]
theorem lw_r3 : ∀ q ∈ lw_privs_3, lw_okq q := List.forall_mem_cons.mpr ⟨lw_p32, List.forall_mem_cons.mpr ⟨lw_p33, List.forall_mem_cons.mpr ⟨lw_p34, List.forall_mem_cons.mpr ⟨lw_p35, List.forall_mem_cons.mpr ⟨lw_p36, List.forall_mem_cons.mpr ⟨lw_p37, List.forall_mem_cons.mpr ⟨lw_p38, List.forall_mem_cons.mpr ⟨lw_p39, List.forall_mem_cons.mpr ⟨lw_p40, List.forall_mem_cons.mpr ⟨lw_p41, List.forall_mem_cons.mpr ⟨lw_p42, List.forall_mem_cons.mpr ⟨lw_p43, List.forall_mem_cons.mpr ⟨lw_p44, List.forall_mem_cons.mpr ⟨lw_p45, List.forall_mem_cons.mpr ⟨lw_p46, List.forall_mem_cons.mpr ⟨lw_p47, fun _ h => absurd h List.not_mem_nil⟩⟩⟩⟩⟩⟩⟩⟩⟩⟩⟩⟩⟩⟩⟩⟩
theorem lw_p48 : lw_okq (⟨"WeighedInBooksModel", "lower", "(I)I"⟩, 44) := ⟨⟨by decide +kernel, by decide +kernel⟩, List.mem_of_getElem? (i := 872) (by decide +kernel), List.mem_of_getElem? (i := 1273) (by decide +kernel), List.mem_of_getElem? (i := 1274) (by decide +kernel)⟩
theorem lw_p49 : lw_okq (⟨"WeighedInBooksModel", "minds", "()V"⟩, 44) := ⟨⟨by decide +kernel, by decide +kernel⟩, List.mem_of_getElem? (i := 872) (by decide +kernel), List.mem_of_getElem? (i := 1286) (by decide +kernel), List.mem_of_getElem? (i := 1287) (by decide +kernel)⟩
theorem lw_p50 : lw_okq (⟨"WeighedInBooksModel", "forgets", "()V"⟩, 44) := ⟨⟨by decide +kernel, by decide +kernel⟩, List.mem_of_getElem? (i := 872) (by decide +kernel), List.mem_of_getElem? (i := 1290) (by decide +kernel), List.mem_of_getElem? (i := 1291) (by decide +kernel)⟩
theorem lw_p51 : lw_okq (⟨"WeighedInBooksModel", "whenFrom", "(II)I"⟩, 44) := ⟨⟨by decide +kernel, by decide +kernel⟩, List.mem_of_getElem? (i := 872) (by decide +kernel), List.mem_of_getElem? (i := 1302) (by decide +kernel), List.mem_of_getElem? (i := 1303) (by decide +kernel)⟩
theorem lw_p52 : lw_okq (⟨"WeighedInBooksModel", "comesDown", "(II)Z"⟩, 44) := ⟨⟨by decide +kernel, by decide +kernel⟩, List.mem_of_getElem? (i := 872) (by decide +kernel), List.mem_of_getElem? (i := 1306) (by decide +kernel), List.mem_of_getElem? (i := 1307) (by decide +kernel)⟩
theorem lw_p53 : lw_okq (⟨"WeighedInBooksModel", "marksDown", "()V"⟩, 44) := ⟨⟨by decide +kernel, by decide +kernel⟩, List.mem_of_getElem? (i := 872) (by decide +kernel), List.mem_of_getElem? (i := 1314) (by decide +kernel), List.mem_of_getElem? (i := 1315) (by decide +kernel)⟩
theorem lw_p54 : lw_okq (⟨"WeighedInBooksModel", "firstDown", "()I"⟩, 44) := ⟨⟨by decide +kernel, by decide +kernel⟩, List.mem_of_getElem? (i := 872) (by decide +kernel), List.mem_of_getElem? (i := 1318) (by decide +kernel), List.mem_of_getElem? (i := 1319) (by decide +kernel)⟩
theorem lw_p55 : lw_okq (⟨"WeighedInBooksModel", "ownedBy", "(I)I"⟩, 44) := ⟨⟨by decide +kernel, by decide +kernel⟩, List.mem_of_getElem? (i := 872) (by decide +kernel), List.mem_of_getElem? (i := 1326) (by decide +kernel), List.mem_of_getElem? (i := 1327) (by decide +kernel)⟩
theorem lw_p56 : lw_okq (⟨"WeighedInBooksModel", "isBetter", "(II)Z"⟩, 44) := ⟨⟨by decide +kernel, by decide +kernel⟩, List.mem_of_getElem? (i := 872) (by decide +kernel), List.mem_of_getElem? (i := 1330) (by decide +kernel), List.mem_of_getElem? (i := 1331) (by decide +kernel)⟩
theorem lw_p57 : lw_okq (⟨"WeighedInBooksModel", "pricesOf", "(I)I"⟩, 44) := ⟨⟨by decide +kernel, by decide +kernel⟩, List.mem_of_getElem? (i := 872) (by decide +kernel), List.mem_of_getElem? (i := 1334) (by decide +kernel), List.mem_of_getElem? (i := 1335) (by decide +kernel)⟩
theorem lw_p58 : lw_okq (⟨"WeighedInBooksModel", "findMost", "()V"⟩, 44) := ⟨⟨by decide +kernel, by decide +kernel⟩, List.mem_of_getElem? (i := 872) (by decide +kernel), List.mem_of_getElem? (i := 1350) (by decide +kernel), List.mem_of_getElem? (i := 1351) (by decide +kernel)⟩
theorem lw_p59 : lw_okq (⟨"WeighedInBooksModel", "findPartners", "()V"⟩, 44) := ⟨⟨by decide +kernel, by decide +kernel⟩, List.mem_of_getElem? (i := 872) (by decide +kernel), List.mem_of_getElem? (i := 1357) (by decide +kernel), List.mem_of_getElem? (i := 1358) (by decide +kernel)⟩
theorem lw_p60 : lw_okq (⟨"WeighedInBooksModel", "partnerFor", "(III)I"⟩, 44) := ⟨⟨by decide +kernel, by decide +kernel⟩, List.mem_of_getElem? (i := 872) (by decide +kernel), List.mem_of_getElem? (i := 1361) (by decide +kernel), List.mem_of_getElem? (i := 1362) (by decide +kernel)⟩
theorem lw_p61 : lw_okq (⟨"WeighedInBooksModel", "heavierThan", "(III)I"⟩, 44) := ⟨⟨by decide +kernel, by decide +kernel⟩, List.mem_of_getElem? (i := 872) (by decide +kernel), List.mem_of_getElem? (i := 1369) (by decide +kernel), List.mem_of_getElem? (i := 1370) (by decide +kernel)⟩
theorem lw_p62 : lw_okq (⟨"WeighedInBooksModel", "isHeavier", "(IIII)Z"⟩, 44) := ⟨⟨by decide +kernel, by decide +kernel⟩, List.mem_of_getElem? (i := 872) (by decide +kernel), List.mem_of_getElem? (i := 1373) (by decide +kernel), List.mem_of_getElem? (i := 1374) (by decide +kernel)⟩
theorem lw_p63 : lw_okq (⟨"WeighedInBooksModel", "wasSo", "(II)Z"⟩, 44) := ⟨⟨by decide +kernel, by decide +kernel⟩, List.mem_of_getElem? (i := 872) (by decide +kernel), List.mem_of_getElem? (i := 1381) (by decide +kernel), List.mem_of_getElem? (i := 1382) (by decide +kernel)⟩
def lw_privs_4 : List (MethodName × Nat) := [(⟨"WeighedInBooksModel", "lower", "(I)I"⟩, 44), (⟨"WeighedInBooksModel", "minds", "()V"⟩, 44), (⟨"WeighedInBooksModel", "forgets", "()V"⟩, 44), (⟨"WeighedInBooksModel", "whenFrom", "(II)I"⟩, 44), (⟨"WeighedInBooksModel", "comesDown", "(II)Z"⟩, 44), (⟨"WeighedInBooksModel", "marksDown", "()V"⟩, 44), (⟨"WeighedInBooksModel", "firstDown", "()I"⟩, 44), (⟨"WeighedInBooksModel", "ownedBy", "(I)I"⟩, 44), (⟨"WeighedInBooksModel", "isBetter", "(II)Z"⟩, 44), (⟨"WeighedInBooksModel", "pricesOf", "(I)I"⟩, 44), (⟨"WeighedInBooksModel", "findMost", "()V"⟩, 44), (⟨"WeighedInBooksModel", "findPartners", "()V"⟩, 44), (⟨"WeighedInBooksModel", "partnerFor", "(III)I"⟩, 44), (⟨"WeighedInBooksModel", "heavierThan", "(III)I"⟩, 44), (⟨"WeighedInBooksModel", "isHeavier", "(IIII)Z"⟩, 44), (⟨"WeighedInBooksModel", "wasSo", "(II)Z"⟩, 44)]
theorem lw_r4 : ∀ q ∈ lw_privs_4, lw_okq q := List.forall_mem_cons.mpr ⟨lw_p48, List.forall_mem_cons.mpr ⟨lw_p49, List.forall_mem_cons.mpr ⟨lw_p50, List.forall_mem_cons.mpr ⟨lw_p51, List.forall_mem_cons.mpr ⟨lw_p52, List.forall_mem_cons.mpr ⟨lw_p53, List.forall_mem_cons.mpr ⟨lw_p54, List.forall_mem_cons.mpr ⟨lw_p55, List.forall_mem_cons.mpr ⟨lw_p56, List.forall_mem_cons.mpr ⟨lw_p57, List.forall_mem_cons.mpr ⟨lw_p58, List.forall_mem_cons.mpr ⟨lw_p59, List.forall_mem_cons.mpr ⟨lw_p60, List.forall_mem_cons.mpr ⟨lw_p61, List.forall_mem_cons.mpr ⟨lw_p62, List.forall_mem_cons.mpr ⟨lw_p63, fun _ h => absurd h List.not_mem_nil⟩⟩⟩⟩⟩⟩⟩⟩⟩⟩⟩⟩⟩⟩⟩⟩
theorem lw_p64 : lw_okq (⟨"WeighedInBooksModel", "findEnds", "(III)V"⟩, 44) := ⟨⟨by decide +kernel, by decide +kernel⟩, List.mem_of_getElem? (i := 872) (by decide +kernel), List.mem_of_getElem? (i := 1389) (by decide +kernel), List.mem_of_getElem? (i := 1390) (by decide +kernel)⟩
theorem lw_p65 : lw_okq (⟨"WeighedInBooksModel", "gives", "(I)V"⟩, 44) := ⟨⟨by decide +kernel, by decide +kernel⟩, List.mem_of_getElem? (i := 872) (by decide +kernel), List.mem_of_getElem? (i := 1393) (by decide +kernel), List.mem_of_getElem? (i := 1394) (by decide +kernel)⟩
theorem lw_p66 : lw_okq (⟨"WeighedInBooksModel", "lowestOf", "(I)J"⟩, 44) := ⟨⟨by decide +kernel, by decide +kernel⟩, List.mem_of_getElem? (i := 872) (by decide +kernel), List.mem_of_getElem? (i := 1401) (by decide +kernel), List.mem_of_getElem? (i := 1402) (by decide +kernel)⟩
theorem lw_p67 : lw_okq (⟨"WeighedInBooksModel", "rankOf", "(I)I"⟩, 44) := ⟨⟨by decide +kernel, by decide +kernel⟩, List.mem_of_getElem? (i := 872) (by decide +kernel), List.mem_of_getElem? (i := 1416) (by decide +kernel), List.mem_of_getElem? (i := 1417) (by decide +kernel)⟩
theorem lw_p68 : lw_okq (⟨"WeighedInBooksModel", "ofRank", "(I)I"⟩, 44) := ⟨⟨by decide +kernel, by decide +kernel⟩, List.mem_of_getElem? (i := 872) (by decide +kernel), List.mem_of_getElem? (i := 1420) (by decide +kernel), List.mem_of_getElem? (i := 1421) (by decide +kernel)⟩
theorem lw_p69 : lw_okq (⟨"WeighedInBooksModel", "kindsOn", "(I)I"⟩, 44) := ⟨⟨by decide +kernel, by decide +kernel⟩, List.mem_of_getElem? (i := 872) (by decide +kernel), List.mem_of_getElem? (i := 1432) (by decide +kernel), List.mem_of_getElem? (i := 1433) (by decide +kernel)⟩
theorem lw_p70 : lw_okq (⟨"WeighedInBooksModel", "pricesOn", "(I)I"⟩, 44) := ⟨⟨by decide +kernel, by decide +kernel⟩, List.mem_of_getElem? (i := 872) (by decide +kernel), List.mem_of_getElem? (i := 1436) (by decide +kernel), List.mem_of_getElem? (i := 1437) (by decide +kernel)⟩
theorem lw_p71 : lw_okq (⟨"WeighedInBooksModel", "mostOn", "(I)I"⟩, 44) := ⟨⟨by decide +kernel, by decide +kernel⟩, List.mem_of_getElem? (i := 872) (by decide +kernel), List.mem_of_getElem? (i := 1440) (by decide +kernel), List.mem_of_getElem? (i := 1441) (by decide +kernel)⟩
theorem lw_p72 : lw_okq (⟨"WeighedInBooksModel", "manyOn", "(II)I"⟩, 44) := ⟨⟨by decide +kernel, by decide +kernel⟩, List.mem_of_getElem? (i := 872) (by decide +kernel), List.mem_of_getElem? (i := 1444) (by decide +kernel), List.mem_of_getElem? (i := 1445) (by decide +kernel)⟩
theorem lw_p73 : lw_okq (⟨"WeighedInBooksModel", "closest", "()I"⟩, 44) := ⟨⟨by decide +kernel, by decide +kernel⟩, List.mem_of_getElem? (i := 872) (by decide +kernel), List.mem_of_getElem? (i := 1452) (by decide +kernel), List.mem_of_getElem? (i := 1453) (by decide +kernel)⟩
theorem lw_p74 : lw_okq (⟨"WeighedInBooksModel", "poor", "()I"⟩, 44) := ⟨⟨by decide +kernel, by decide +kernel⟩, List.mem_of_getElem? (i := 872) (by decide +kernel), List.mem_of_getElem? (i := 1459) (by decide +kernel), List.mem_of_getElem? (i := 1460) (by decide +kernel)⟩
theorem lw_p75 : lw_okq (⟨"WeighedInBooksModel", "unread", "()I"⟩, 44) := ⟨⟨by decide +kernel, by decide +kernel⟩, List.mem_of_getElem? (i := 872) (by decide +kernel), List.mem_of_getElem? (i := 1463) (by decide +kernel), List.mem_of_getElem? (i := 1464) (by decide +kernel)⟩
theorem lw_p76 : lw_okq (⟨"WeighedInBooksModel", "lent", "()I"⟩, 44) := ⟨⟨by decide +kernel, by decide +kernel⟩, List.mem_of_getElem? (i := 872) (by decide +kernel), List.mem_of_getElem? (i := 1467) (by decide +kernel), List.mem_of_getElem? (i := 1468) (by decide +kernel)⟩
theorem lw_p77 : lw_okq (⟨"WeighedInBooksModel", "allRead", "()I"⟩, 44) := ⟨⟨by decide +kernel, by decide +kernel⟩, List.mem_of_getElem? (i := 872) (by decide +kernel), List.mem_of_getElem? (i := 1499) (by decide +kernel), List.mem_of_getElem? (i := 1500) (by decide +kernel)⟩
theorem lw_p78 : lw_okq (⟨"WeighedInBooksModel", "draw", "(I)I"⟩, 44) := ⟨⟨by decide +kernel, by decide +kernel⟩, List.mem_of_getElem? (i := 872) (by decide +kernel), List.mem_of_getElem? (i := 1503) (by decide +kernel), List.mem_of_getElem? (i := 1504) (by decide +kernel)⟩
theorem lw_p79 : lw_okq (⟨"WeighedInBooksModel", "manyDown", "()I"⟩, 44) := ⟨⟨by decide +kernel, by decide +kernel⟩, List.mem_of_getElem? (i := 872) (by decide +kernel), List.mem_of_getElem? (i := 1510) (by decide +kernel), List.mem_of_getElem? (i := 1511) (by decide +kernel)⟩
def lw_privs_5 : List (MethodName × Nat) := [(⟨"WeighedInBooksModel", "findEnds", "(III)V"⟩, 44), (⟨"WeighedInBooksModel", "gives", "(I)V"⟩, 44), (⟨"WeighedInBooksModel", "lowestOf", "(I)J"⟩, 44), (⟨"WeighedInBooksModel", "rankOf", "(I)I"⟩, 44), (⟨"WeighedInBooksModel", "ofRank", "(I)I"⟩, 44), (⟨"WeighedInBooksModel", "kindsOn", "(I)I"⟩, 44), (⟨"WeighedInBooksModel", "pricesOn", "(I)I"⟩, 44), (⟨"WeighedInBooksModel", "mostOn", "(I)I"⟩, 44), (⟨"WeighedInBooksModel", "manyOn", "(II)I"⟩, 44), (⟨"WeighedInBooksModel", "closest", "()I"⟩, 44), (⟨"WeighedInBooksModel", "poor", "()I"⟩, 44), (⟨"WeighedInBooksModel", "unread", "()I"⟩, 44), (⟨"WeighedInBooksModel", "lent", "()I"⟩, 44), (⟨"WeighedInBooksModel", "allRead", "()I"⟩, 44), (⟨"WeighedInBooksModel", "draw", "(I)I"⟩, 44), (⟨"WeighedInBooksModel", "manyDown", "()I"⟩, 44)]
theorem lw_r5 : ∀ q ∈ lw_privs_5, lw_okq q := List.forall_mem_cons.mpr ⟨lw_p64, List.forall_mem_cons.mpr ⟨lw_p65, List.forall_mem_cons.mpr ⟨lw_p66, List.forall_mem_cons.mpr ⟨lw_p67, List.forall_mem_cons.mpr ⟨lw_p68, List.forall_mem_cons.mpr ⟨lw_p69, List.forall_mem_cons.mpr ⟨lw_p70, List.forall_mem_cons.mpr ⟨lw_p71, List.forall_mem_cons.mpr ⟨lw_p72, List.forall_mem_cons.mpr ⟨lw_p73, List.forall_mem_cons.mpr ⟨lw_p74, List.forall_mem_cons.mpr ⟨lw_p75, List.forall_mem_cons.mpr ⟨lw_p76, List.forall_mem_cons.mpr ⟨lw_p77, List.forall_mem_cons.mpr ⟨lw_p78, List.forall_mem_cons.mpr ⟨lw_p79, fun _ h => absurd h List.not_mem_nil⟩⟩⟩⟩⟩⟩⟩⟩⟩⟩⟩⟩⟩⟩⟩⟩
theorem lw_p80 : lw_okq (⟨"WeighedInBooksModel", "allWeights", "()I"⟩, 44) := ⟨⟨by decide +kernel, by decide +kernel⟩, List.mem_of_getElem? (i := 872) (by decide +kernel), List.mem_of_getElem? (i := 1518) (by decide +kernel), List.mem_of_getElem? (i := 1519) (by decide +kernel)⟩
def lw_privs_6 : List (MethodName × Nat) := [(⟨"WeighedInBooksModel", "allWeights", "()I"⟩, 44)]
theorem lw_r6 : ∀ q ∈ lw_privs_6, lw_okq q := List.forall_mem_cons.mpr ⟨lw_p80, fun _ h => absurd h List.not_mem_nil⟩
def lw_privs : List (MethodName × Nat) := lw_privs_1 ++ (lw_privs_2 ++ (lw_privs_3 ++ (lw_privs_4 ++ (lw_privs_5 ++ (lw_privs_6)))))
def lw_tbl : List Cond := k2_sels lw_privs ++ tables_1
theorem lw_privs_ok : ∀ q ∈ lw_privs, lw_okq q := by
  show ∀ q ∈ lw_privs_1 ++ (lw_privs_2 ++ (lw_privs_3 ++ (lw_privs_4 ++ (lw_privs_5 ++ (lw_privs_6))))), lw_okq q
  exact List.forall_mem_append.mpr ⟨lw_r1, List.forall_mem_append.mpr ⟨lw_r2, List.forall_mem_append.mpr ⟨lw_r3, List.forall_mem_append.mpr ⟨lw_r4, List.forall_mem_append.mpr ⟨lw_r5, lw_r6⟩⟩⟩⟩⟩

def RX0 : String := "WeighedInBooks$Bargain"
def TX0 : u_T := fun k => match k with
  | 0 => ("WeighedInBooks$Bargain", "price", "[I", true)
  | 1 => ("WeighedInBooks$Bargain", "heavy", "[I", true)
  | 2 => ("WeighedInBooks$Bargain", "set", "I", false)
  | _ => ("WeighedInBooks$Bargain", "prices", "I", false)
def tyX0 : Nat → FieldType := fun k => match k with
  | 0 => .array .int
  | 1 => .array .int
  | 2 => .int
  | _ => .int
abbrev wsX00 : List Cond := u_ws RX0 TX0 4
theorem nmX0 : ∀ a, a < 4 → ∀ b, b < 4 → a ≠ b → (TX0 a).2.1 ≠ (TX0 b).2.1 := by decide +kernel
theorem tyX0_ok : ∀ k, k < 4 → parseFieldDescriptor (TX0 k).2.2.1 = some (tyX0 k) := by decide +kernel
abbrev cX0_init : ByteArray := prog_2_method_1_code
def yX0_init : MethodName := ⟨RX0, "<init>", "()V"⟩
abbrev cX0_seek : ByteArray := prog_2_method_2_code
def yX0_seek : MethodName := ⟨RX0, "seek", "(LWeighedInBooks$Town;II)V"⟩
abbrev cX0_offer : ByteArray := prog_2_method_3_code
def yX0_offer : MethodName := ⟨RX0, "offer", "(LWeighedInBooks$Town;II)I"⟩
abbrev cX0_sumOf : ByteArray := prog_2_method_4_code
def yX0_sumOf : MethodName := ⟨RX0, "sumOf", "([III)I"⟩
abbrev cX0_takeIfBetter : ByteArray := prog_2_method_5_code
def yX0_takeIfBetter : MethodName := ⟨RX0, "takeIfBetter", "(II)V"⟩
def RX1 : String := "WeighedInBooks$Couples"
def TX1 : u_T := fun k => match k with
  | 0 => ("WeighedInBooks$Couples", "down", "[I", true)
  | 1 => ("WeighedInBooks$Couples", "most", "[I", true)
  | 2 => ("WeighedInBooks$Couples", "partner", "[I", true)
  | _ => ("WeighedInBooks$Couples", "many", "I", false)
def tyX1 : Nat → FieldType := fun k => match k with
  | 0 => .array .int
  | 1 => .array .int
  | 2 => .array .int
  | _ => .int
abbrev wsX10 : List Cond := u_ws RX1 TX1 4
theorem nmX1 : ∀ a, a < 4 → ∀ b, b < 4 → a ≠ b → (TX1 a).2.1 ≠ (TX1 b).2.1 := by decide +kernel
theorem tyX1_ok : ∀ k, k < 4 → parseFieldDescriptor (TX1 k).2.2.1 = some (tyX1 k) := by decide +kernel
abbrev cX1_init : ByteArray := prog_3_method_1_code
def yX1_init : MethodName := ⟨RX1, "<init>", "()V"⟩
abbrev cX1_choose : ByteArray := prog_3_method_2_code
def yX1_choose : MethodName := ⟨RX1, "choose", "(LWeighedInBooks$Town;)V"⟩
abbrev cX1_weighAll : ByteArray := prog_3_method_3_code
def yX1_weighAll : MethodName := ⟨RX1, "weighAll", "(LWeighedInBooks$Town;)V"⟩
abbrev cX1_mostAmong : ByteArray := prog_3_method_4_code
def yX1_mostAmong : MethodName := ⟨RX1, "mostAmong", "(II)I"⟩
abbrev cX1_firstOf : ByteArray := prog_3_method_5_code
def yX1_firstOf : MethodName := ⟨RX1, "firstOf", "(II)I"⟩
abbrev cX1_pair : ByteArray := prog_3_method_6_code
def yX1_pair : MethodName := ⟨RX1, "pair", "(II)V"⟩
abbrev cX1_firstPartner : ByteArray := prog_3_method_7_code
def yX1_firstPartner : MethodName := ⟨RX1, "firstPartner", "(III)I"⟩
def RX2 : String := "WeighedInBooks$Foresight"
def TX2 : u_T := fun k => match k with
  | 0 => ("WeighedInBooks$Foresight", "mind", "LWeighedInBooks$Town;", true)
  | 1 => ("WeighedInBooks$Foresight", "onesGain", "[I", true)
  | 2 => ("WeighedInBooks$Foresight", "othersGain", "[I", true)
  | 3 => ("WeighedInBooks$Foresight", "loan", "I", false)
  | 4 => ("WeighedInBooks$Foresight", "loanWeeks", "I", false)
  | 5 => ("WeighedInBooks$Foresight", "springReadings", "I", false)
  | _ => ("WeighedInBooks$Foresight", "springTwos", "I", false)
def tyX2 : Nat → FieldType := fun k => match k with
  | 0 => .object "WeighedInBooks$Town"
  | 1 => .array .int
  | 2 => .array .int
  | 3 => .int
  | 4 => .int
  | 5 => .int
  | _ => .int
abbrev wsX20 : List Cond := u_ws RX2 TX2 7
theorem nmX2 : ∀ a, a < 7 → ∀ b, b < 7 → a ≠ b → (TX2 a).2.1 ≠ (TX2 b).2.1 := by decide +kernel
theorem tyX2_ok : ∀ k, k < 7 → parseFieldDescriptor (TX2 k).2.2.1 = some (tyX2 k) := by decide +kernel
abbrev cX2_init : ByteArray := prog_4_method_1_code
def yX2_init : MethodName := ⟨RX2, "<init>", "()V"⟩
abbrev cX2_think : ByteArray := prog_4_method_2_code
def yX2_think : MethodName := ⟨RX2, "think", "(LWeighedInBooks$Town;)V"⟩
abbrev cX2_after : ByteArray := prog_4_method_3_code
def yX2_after : MethodName := ⟨RX2, "after", "(LWeighedInBooks$Town;I)LWeighedInBooks$Town;"⟩
abbrev cX2_whenDown : ByteArray := prog_4_method_4_code
def yX2_whenDown : MethodName := ⟨RX2, "whenDown", "(LWeighedInBooks$Town;II)I"⟩
abbrev cX2_weeksTillDown : ByteArray := prog_4_method_5_code
def yX2_weeksTillDown : MethodName := ⟨RX2, "weeksTillDown", "(III)I"⟩
abbrev cX2_firstDown : ByteArray := prog_4_method_6_code
def yX2_firstDown : MethodName := ⟨RX2, "firstDown", "(LWeighedInBooks$Town;)I"⟩
abbrev cX2_firstFreshlyDown : ByteArray := prog_4_method_7_code
def yX2_firstFreshlyDown : MethodName := ⟨RX2, "firstFreshlyDown", "(LWeighedInBooks$Town;)I"⟩
abbrev cX2_seekLoan : ByteArray := prog_4_method_8_code
def yX2_seekLoan : MethodName := ⟨RX2, "seekLoan", "(LWeighedInBooks$Town;II)V"⟩
abbrev cX2_bestTaught : ByteArray := prog_4_method_9_code
def yX2_bestTaught : MethodName := ⟨RX2, "bestTaught", "(LWeighedInBooks$Town;IIII)I"⟩
abbrev cX2_bitsBy : ByteArray := prog_4_method_10_code
def yX2_bitsBy : MethodName := ⟨RX2, "bitsBy", "([IIIIIZ)I"⟩
abbrev cX2_steadyPair : ByteArray := prog_4_method_11_code
def yX2_steadyPair : MethodName := ⟨RX2, "steadyPair", "(LWeighedInBooks$Town;III)I"⟩
abbrev cX2_weighChoice : ByteArray := prog_4_method_12_code
def yX2_weighChoice : MethodName := ⟨RX2, "weighChoice", "(LWeighedInBooks$Town;IIII)V"⟩
abbrev cX2_dampCases : ByteArray := prog_4_method_13_code
def yX2_dampCases : MethodName := ⟨RX2, "dampCases", "(LWeighedInBooks$Town;IIII)J"⟩
abbrev cX2_drawSprings : ByteArray := prog_4_method_14_code
def yX2_drawSprings : MethodName := ⟨RX2, "drawSprings", "(LWeighedInBooks$Town;II)V"⟩
abbrev cX2_keeperDrawn : ByteArray := prog_4_method_15_code
def yX2_keeperDrawn : MethodName := ⟨RX2, "keeperDrawn", "(I)I"⟩
def RX3 : String := "WeighedInBooks$Fractions"
def TX3 : u_T := fun k => match k with
  | _ => ("", "", "", false)
def tyX3 : Nat → FieldType := fun k => match k with
  | _ => .int
abbrev wsX30 : List Cond := u_ws RX3 TX3 0
theorem nmX3 : ∀ a, a < 0 → ∀ b, b < 0 → a ≠ b → (TX3 a).2.1 ≠ (TX3 b).2.1 := by decide +kernel
theorem tyX3_ok : ∀ k, k < 0 → parseFieldDescriptor (TX3 k).2.2.1 = some (tyX3 k) := by decide +kernel
abbrev cX3_part : ByteArray := prog_5_method_2_code
def yX3_part : MethodName := ⟨RX3, "part", "(JJI)J"⟩
abbrev cX3_sharedDivisor : ByteArray := prog_5_method_3_code
def yX3_sharedDivisor : MethodName := ⟨RX3, "sharedDivisor", "(JJ)J"⟩
abbrev cX3_power : ByteArray := prog_5_method_4_code
def yX3_power : MethodName := ⟨RX3, "power", "(JI)J"⟩
def RX4 : String := "WeighedInBooks$Past"
def TX4 : u_T := fun k => match k with
  | 0 => ("WeighedInBooks$Past", "kept", "[LWeighedInBooks$Town;", true)
  | 1 => ("WeighedInBooks$Past", "latest", "I", false)
  | _ => ("WeighedInBooks$Past", "many", "I", false)
def tyX4 : Nat → FieldType := fun k => match k with
  | 0 => .array (.object "WeighedInBooks$Town")
  | 1 => .int
  | _ => .int
abbrev wsX40 : List Cond := u_ws RX4 TX4 3
theorem nmX4 : ∀ a, a < 3 → ∀ b, b < 3 → a ≠ b → (TX4 a).2.1 ≠ (TX4 b).2.1 := by decide +kernel
theorem tyX4_ok : ∀ k, k < 3 → parseFieldDescriptor (TX4 k).2.2.1 = some (tyX4 k) := by decide +kernel
abbrev cX4_init : ByteArray := prog_6_method_1_code
def yX4_init : MethodName := ⟨RX4, "<init>", "()V"⟩
abbrev cX4_keep : ByteArray := prog_6_method_2_code
def yX4_keep : MethodName := ⟨RX4, "keep", "(LWeighedInBooks$Town;)V"⟩
abbrev cX4_giveBack : ByteArray := prog_6_method_3_code
def yX4_giveBack : MethodName := ⟨RX4, "giveBack", "(LWeighedInBooks$Town;)V"⟩
abbrev cX4_forget : ByteArray := prog_6_method_4_code
def yX4_forget : MethodName := ⟨RX4, "forget", "()V"⟩
def RX5 : String := "WeighedInBooks$Statements"
def TX5 : u_T := fun k => match k with
  | 0 => ("WeighedInBooks$Statements", "letter", "[I", true)
  | 1 => ("WeighedInBooks$Statements", "letters", "I", false)
  | 2 => ("WeighedInBooks$Statements", "place", "I", false)
  | _ => ("WeighedInBooks$Statements", "draft", "LWeighedInBooks$Town;", true)
def tyX5 : Nat → FieldType := fun k => match k with
  | 0 => .array .int
  | 1 => .int
  | 2 => .int
  | _ => .object "WeighedInBooks$Town"
abbrev wsX50 : List Cond := u_ws RX5 TX5 4
theorem nmX5 : ∀ a, a < 4 → ∀ b, b < 4 → a ≠ b → (TX5 a).2.1 ≠ (TX5 b).2.1 := by decide +kernel
theorem tyX5_ok : ∀ k, k < 4 → parseFieldDescriptor (TX5 k).2.2.1 = some (tyX5 k) := by decide +kernel
abbrev cX5_init : ByteArray := prog_7_method_1_code
def yX5_init : MethodName := ⟨RX5, "<init>", "()V"⟩
abbrev cX5_addLetter : ByteArray := prog_7_method_2_code
def yX5_addLetter : MethodName := ⟨RX5, "addLetter", "(I)I"⟩
abbrev cX5_tellTo : ByteArray := prog_7_method_3_code
def yX5_tellTo : MethodName := ⟨RX5, "tellTo", "(LWeighedInBooks$Town;)I"⟩
abbrev cX5_canBeRead : ByteArray := prog_7_method_4_code
def yX5_canBeRead : MethodName := ⟨RX5, "canBeRead", "()Z"⟩
abbrev cX5_passStatement : ByteArray := prog_7_method_5_code
def yX5_passStatement : MethodName := ⟨RX5, "passStatement", "()Z"⟩
abbrev cX5_passBody : ByteArray := prog_7_method_6_code
def yX5_passBody : MethodName := ⟨RX5, "passBody", "(I)Z"⟩
abbrev cX5_passSteps : ByteArray := prog_7_method_7_code
def yX5_passSteps : MethodName := ⟨RX5, "passSteps", "()Z"⟩
abbrev cX5_passTitle : ByteArray := prog_7_method_8_code
def yX5_passTitle : MethodName := ⟨RX5, "passTitle", "()Z"⟩
abbrev cX5_passDigits : ByteArray := prog_7_method_9_code
def yX5_passDigits : MethodName := ⟨RX5, "passDigits", "(I)Z"⟩
abbrev cX5_passLetter : ByteArray := prog_7_method_10_code
def yX5_passLetter : MethodName := ⟨RX5, "passLetter", "(I)Z"⟩
abbrev cX5_here : ByteArray := prog_7_method_11_code
def yX5_here : MethodName := ⟨RX5, "here", "()I"⟩
abbrev cX5_stepHere : ByteArray := prog_7_method_12_code
def yX5_stepHere : MethodName := ⟨RX5, "stepHere", "()I"⟩
abbrev cX5_isTitleLetter : ByteArray := prog_7_method_13_code
def yX5_isTitleLetter : MethodName := ⟨RX5, "isTitleLetter", "(I)Z"⟩
abbrev cX5_takeBody : ByteArray := prog_7_method_14_code
def yX5_takeBody : MethodName := ⟨RX5, "takeBody", "(I)Z"⟩
abbrev cX5_takePerson : ByteArray := prog_7_method_15_code
def yX5_takePerson : MethodName := ⟨RX5, "takePerson", "()Z"⟩
abbrev cX5_takeBook : ByteArray := prog_7_method_16_code
def yX5_takeBook : MethodName := ⟨RX5, "takeBook", "()Z"⟩
abbrev cX5_takeReading : ByteArray := prog_7_method_17_code
def yX5_takeReading : MethodName := ⟨RX5, "takeReading", "()Z"⟩
abbrev cX5_takeHolder : ByteArray := prog_7_method_18_code
def yX5_takeHolder : MethodName := ⟨RX5, "takeHolder", "()Z"⟩
abbrev cX5_takeLaw : ByteArray := prog_7_method_19_code
def yX5_takeLaw : MethodName := ⟨RX5, "takeLaw", "()Z"⟩
abbrev cX5_takeWeeks : ByteArray := prog_7_method_20_code
def yX5_takeWeeks : MethodName := ⟨RX5, "takeWeeks", "()Z"⟩
abbrev cX5_takeNumber : ByteArray := prog_7_method_21_code
def yX5_takeNumber : MethodName := ⟨RX5, "takeNumber", "(I)I"⟩
abbrev cX5_takeTitle : ByteArray := prog_7_method_22_code
def yX5_takeTitle : MethodName := ⟨RX5, "takeTitle", "()I"⟩
def RX6 : String := "WeighedInBooks$Titles"
def TX6 : u_T := fun k => match k with
  | _ => ("", "", "", false)
def tyX6 : Nat → FieldType := fun k => match k with
  | _ => .int
abbrev wsX60 : List Cond := u_ws RX6 TX6 0
theorem nmX6 : ∀ a, a < 0 → ∀ b, b < 0 → a ≠ b → (TX6 a).2.1 ≠ (TX6 b).2.1 := by decide +kernel
theorem tyX6_ok : ∀ k, k < 0 → parseFieldDescriptor (TX6 k).2.2.1 = some (tyX6 k) := by decide +kernel
abbrev cX6_ofLetter : ByteArray := prog_8_method_2_code
def yX6_ofLetter : MethodName := ⟨RX6, "ofLetter", "(I)I"⟩
abbrev cX6_longer : ByteArray := prog_8_method_3_code
def yX6_longer : MethodName := ⟨RX6, "longer", "(III)I"⟩
abbrev cX6_letterAt : ByteArray := prog_8_method_4_code
def yX6_letterAt : MethodName := ⟨RX6, "letterAt", "(II)I"⟩
abbrev cX6_lengthOf : ByteArray := prog_8_method_5_code
def yX6_lengthOf : MethodName := ⟨RX6, "lengthOf", "(I)I"⟩
def RX7 : String := "WeighedInBooks$Town"
def TX7 : u_T := fun k => match k with
  | 0 => ("WeighedInBooks$Town", "people", "I", false)
  | 1 => ("WeighedInBooks$Town", "weight", "[I", true)
  | 2 => ("WeighedInBooks$Town", "appetite", "[I", true)
  | 3 => ("WeighedInBooks$Town", "purse", "[I", true)
  | 4 => ("WeighedInBooks$Town", "books", "I", false)
  | 5 => ("WeighedInBooks$Town", "kind", "[I", true)
  | 6 => ("WeighedInBooks$Town", "figure", "[I", true)
  | 7 => ("WeighedInBooks$Town", "owner", "[I", true)
  | 8 => ("WeighedInBooks$Town", "holder", "[I", true)
  | 9 => ("WeighedInBooks$Town", "readers", "[I", true)
  | 10 => ("WeighedInBooks$Town", "title", "[I", true)
  | 11 => ("WeighedInBooks$Town", "week", "I", false)
  | 12 => ("WeighedInBooks$Town", "steps", "I", false)
  | 13 => ("WeighedInBooks$Town", "step", "[I", true)
  | _ => ("WeighedInBooks$Town", "stepNumber", "[I", true)
def tyX7 : Nat → FieldType := fun k => match k with
  | 0 => .int
  | 1 => .array .int
  | 2 => .array .int
  | 3 => .array .int
  | 4 => .int
  | 5 => .array .int
  | 6 => .array .int
  | 7 => .array .int
  | 8 => .array .int
  | 9 => .array .int
  | 10 => .array .int
  | 11 => .int
  | 12 => .int
  | 13 => .array .int
  | _ => .array .int
abbrev wsX70 : List Cond := u_ws RX7 TX7 15
theorem nmX7 : ∀ a, a < 15 → ∀ b, b < 15 → a ≠ b → (TX7 a).2.1 ≠ (TX7 b).2.1 := by decide +kernel
theorem tyX7_ok : ∀ k, k < 15 → parseFieldDescriptor (TX7 k).2.2.1 = some (tyX7 k) := by decide +kernel
abbrev cX7_init : ByteArray := prog_9_method_1_code
def yX7_init : MethodName := ⟨RX7, "<init>", "()V"⟩
abbrev cX7_copyFrom : ByteArray := prog_9_method_2_code
def yX7_copyFrom : MethodName := ⟨RX7, "copyFrom", "(LWeighedInBooks$Town;)V"⟩
abbrev cX7_hasPerson : ByteArray := prog_9_method_3_code
def yX7_hasPerson : MethodName := ⟨RX7, "hasPerson", "(I)Z"⟩
abbrev cX7_hasKeeper : ByteArray := prog_9_method_4_code
def yX7_hasKeeper : MethodName := ⟨RX7, "hasKeeper", "(I)Z"⟩
abbrev cX7_hasBook : ByteArray := prog_9_method_5_code
def yX7_hasBook : MethodName := ⟨RX7, "hasBook", "(I)Z"⟩
abbrev cX7_addPerson : ByteArray := prog_9_method_6_code
def yX7_addPerson : MethodName := ⟨RX7, "addPerson", "(III)I"⟩
abbrev cX7_addBook : ByteArray := prog_9_method_7_code
def yX7_addBook : MethodName := ⟨RX7, "addBook", "(IIII)I"⟩
abbrev cX7_addStep : ByteArray := prog_9_method_8_code
def yX7_addStep : MethodName := ⟨RX7, "addStep", "(II)V"⟩
abbrev cX7_weighs : ByteArray := prog_9_method_9_code
def yX7_weighs : MethodName := ⟨RX7, "weighs", "(I)I"⟩
abbrev cX7_priceOf : ByteArray := prog_9_method_10_code
def yX7_priceOf : MethodName := ⟨RX7, "priceOf", "(I)I"⟩
abbrev cX7_hasRead : ByteArray := prog_9_method_11_code
def yX7_hasRead : MethodName := ⟨RX7, "hasRead", "(II)I"⟩
abbrev cX7_isOnPan : ByteArray := prog_9_method_12_code
def yX7_isOnPan : MethodName := ⟨RX7, "isOnPan", "(III)Z"⟩
abbrev cX7_comesTo : ByteArray := prog_9_method_13_code
def yX7_comesTo : MethodName := ⟨RX7, "comesTo", "(III)I"⟩
abbrev cX7_stepped : ByteArray := prog_9_method_14_code
def yX7_stepped : MethodName := ⟨RX7, "stepped", "(III)I"⟩
abbrev cX7_overOf : ByteArray := prog_9_method_15_code
def yX7_overOf : MethodName := ⟨RX7, "overOf", "(II)I"⟩
abbrev cX7_comesDown : ByteArray := prog_9_method_16_code
def yX7_comesDown : MethodName := ⟨RX7, "comesDown", "(II)Z"⟩
abbrev cX7_twosDown : ByteArray := prog_9_method_17_code
def yX7_twosDown : MethodName := ⟨RX7, "twosDown", "()I"⟩
abbrev cX7_closestTwo : ByteArray := prog_9_method_18_code
def yX7_closestTwo : MethodName := ⟨RX7, "closestTwo", "()I"⟩
abbrev cX7_weeksPass : ByteArray := prog_9_method_19_code
def yX7_weeksPass : MethodName := ⟨RX7, "weeksPass", "(I)V"⟩
abbrev cX7_weekPasses : ByteArray := prog_9_method_20_code
def yX7_weekPasses : MethodName := ⟨RX7, "weekPasses", "(Z)V"⟩
abbrev cX7_readNext : ByteArray := prog_9_method_21_code
def yX7_readNext : MethodName := ⟨RX7, "readNext", "(I)V"⟩
abbrev cX7_givesBack : ByteArray := prog_9_method_22_code
def yX7_givesBack : MethodName := ⟨RX7, "givesBack", "(I)V"⟩
abbrev cX7_bookWithTitle : ByteArray := prog_9_method_23_code
def yX7_bookWithTitle : MethodName := ⟨RX7, "bookWithTitle", "(I)I"⟩
abbrev cX7_rankOf : ByteArray := prog_9_method_24_code
def yX7_rankOf : MethodName := ⟨RX7, "rankOf", "(I)I"⟩
abbrev cX7_firstTitleFrom : ByteArray := prog_9_method_25_code
def yX7_firstTitleFrom : MethodName := ⟨RX7, "firstTitleFrom", "(I)I"⟩
abbrev cX7_readings : ByteArray := prog_9_method_26_code
def yX7_readings : MethodName := ⟨RX7, "readings", "()I"⟩
abbrev cX7_readingsOf : ByteArray := prog_9_method_27_code
def yX7_readingsOf : MethodName := ⟨RX7, "readingsOf", "(I)I"⟩
abbrev cX7_booksReadBy : ByteArray := prog_9_method_28_code
def yX7_booksReadBy : MethodName := ⟨RX7, "booksReadBy", "(I)I"⟩
abbrev cX7_unreadBooks : ByteArray := prog_9_method_29_code
def yX7_unreadBooks : MethodName := ⟨RX7, "unreadBooks", "()I"⟩
abbrev cX7_lentBooks : ByteArray := prog_9_method_30_code
def yX7_lentBooks : MethodName := ⟨RX7, "lentBooks", "()I"⟩
abbrev cX7_booksWith : ByteArray := prog_9_method_31_code
def yX7_booksWith : MethodName := ⟨RX7, "booksWith", "([II)I"⟩
abbrev cX7_kindsHeldBy : ByteArray := prog_9_method_32_code
def yX7_kindsHeldBy : MethodName := ⟨RX7, "kindsHeldBy", "(I)I"⟩
abbrev cX7_pricesHeldBy : ByteArray := prog_9_method_33_code
def yX7_pricesHeldBy : MethodName := ⟨RX7, "pricesHeldBy", "(I)I"⟩
abbrev cX7_mostHeldKind : ByteArray := prog_9_method_34_code
def yX7_mostHeldKind : MethodName := ⟨RX7, "mostHeldKind", "(I)I"⟩
abbrev cX7_weightOfAll : ByteArray := prog_9_method_35_code
def yX7_weightOfAll : MethodName := ⟨RX7, "weightOfAll", "()I"⟩
abbrev cX7_poorPeople : ByteArray := prog_9_method_36_code
def yX7_poorPeople : MethodName := ⟨RX7, "poorPeople", "()I"⟩
abbrev cX7_leastTownPrice : ByteArray := prog_9_method_37_code
def yX7_leastTownPrice : MethodName := ⟨RX7, "leastTownPrice", "()I"⟩
def RX8 : String := "WeighedInBooks"
def TX8 : u_T := fun k => match k with
  | 0 => ("WeighedInBooks", "now", "LWeighedInBooks$Town;", true)
  | 1 => ("WeighedInBooks", "past", "LWeighedInBooks$Past;", true)
  | 2 => ("WeighedInBooks", "imaged", "LWeighedInBooks$Town;", true)
  | 3 => ("WeighedInBooks", "hasImage", "Z", false)
  | 4 => ("WeighedInBooks", "told", "LWeighedInBooks$Statements;", true)
  | 5 => ("WeighedInBooks", "foresight", "LWeighedInBooks$Foresight;", true)
  | 6 => ("WeighedInBooks", "bargain", "LWeighedInBooks$Bargain;", true)
  | 7 => ("WeighedInBooks", "matched", "LWeighedInBooks$Couples;", true)
  | 8 => ("WeighedInBooks", "ordered", "[I", true)
  | 9 => ("WeighedInBooks", "toldRow", "[I", true)
  | 10 => ("WeighedInBooks", "inRow", "I", false)
  | _ => ("WeighedInBooks", "refused", "[I", true)
def tyX8 : Nat → FieldType := fun k => match k with
  | 0 => .object "WeighedInBooks$Town"
  | 1 => .object "WeighedInBooks$Past"
  | 2 => .object "WeighedInBooks$Town"
  | 3 => .boolean
  | 4 => .object "WeighedInBooks$Statements"
  | 5 => .object "WeighedInBooks$Foresight"
  | 6 => .object "WeighedInBooks$Bargain"
  | 7 => .object "WeighedInBooks$Couples"
  | 8 => .array .int
  | 9 => .array .int
  | 10 => .int
  | _ => .array .int
abbrev wsX80 : List Cond := u_ws RX8 TX8 12
theorem nmX8 : ∀ a, a < 12 → ∀ b, b < 12 → a ≠ b → (TX8 a).2.1 ≠ (TX8 b).2.1 := by decide +kernel
theorem tyX8_ok : ∀ k, k < 12 → parseFieldDescriptor (TX8 k).2.2.1 = some (tyX8 k) := by decide +kernel
abbrev cX8_init : ByteArray := prog_1_method_1_code
def yX8_init : MethodName := ⟨RX8, "<init>", "()V"⟩
abbrev cX8_feed : ByteArray := prog_1_method_2_code
def yX8_feed : MethodName := ⟨RX8, "feed", "(I)I"⟩
abbrev cX8_town : ByteArray := prog_1_method_3_code
def yX8_town : MethodName := ⟨RX8, "town", "()I"⟩
abbrev cX8_comes : ByteArray := prog_1_method_4_code
def yX8_comes : MethodName := ⟨RX8, "comes", "(III)I"⟩
abbrev cX8_brings : ByteArray := prog_1_method_5_code
def yX8_brings : MethodName := ⟨RX8, "brings", "(IIII)I"⟩
abbrev cX8_person : ByteArray := prog_1_method_6_code
def yX8_person : MethodName := ⟨RX8, "person", "(II)I"⟩
abbrev cX8_book : ByteArray := prog_1_method_7_code
def yX8_book : MethodName := ⟨RX8, "book", "(II)I"⟩
abbrev cX8_title : ByteArray := prog_1_method_8_code
def yX8_title : MethodName := ⟨RX8, "title", "(II)I"⟩
abbrev cX8_eats : ByteArray := prog_1_method_9_code
def yX8_eats : MethodName := ⟨RX8, "eats", "(II)I"⟩
abbrev cX8_reads : ByteArray := prog_1_method_10_code
def yX8_reads : MethodName := ⟨RX8, "reads", "(II)I"⟩
abbrev cX8_lends : ByteArray := prog_1_method_11_code
def yX8_lends : MethodName := ⟨RX8, "lends", "(II)I"⟩
abbrev cX8_buys : ByteArray := prog_1_method_12_code
def yX8_buys : MethodName := ⟨RX8, "buys", "(II)I"⟩
abbrev cX8_step : ByteArray := prog_1_method_13_code
def yX8_step : MethodName := ⟨RX8, "step", "(II)I"⟩
abbrev cX8_clearLaw : ByteArray := prog_1_method_14_code
def yX8_clearLaw : MethodName := ⟨RX8, "clearLaw", "()I"⟩
abbrev cX8_weeks : ByteArray := prog_1_method_15_code
def yX8_weeks : MethodName := ⟨RX8, "weeks", "(I)I"⟩
abbrev cX8_back : ByteArray := prog_1_method_16_code
def yX8_back : MethodName := ⟨RX8, "back", "()I"⟩
abbrev cX8_over : ByteArray := prog_1_method_17_code
def yX8_over : MethodName := ⟨RX8, "over", "(II)I"⟩
abbrev cX8_pan : ByteArray := prog_1_method_18_code
def yX8_pan : MethodName := ⟨RX8, "pan", "(III)I"⟩
abbrev cX8_buy : ByteArray := prog_1_method_19_code
def yX8_buy : MethodName := ⟨RX8, "buy", "(III)I"⟩
abbrev cX8_couples : ByteArray := prog_1_method_20_code
def yX8_couples : MethodName := ⟨RX8, "couples", "(I)I"⟩
abbrev cX8_heaviest : ByteArray := prog_1_method_21_code
def yX8_heaviest : MethodName := ⟨RX8, "heaviest", "(III)I"⟩
abbrev cX8_overThen : ByteArray := prog_1_method_22_code
def yX8_overThen : MethodName := ⟨RX8, "overThen", "(III)I"⟩
abbrev cX8_then : ByteArray := prog_1_method_23_code
def yX8_then : MethodName := ⟨RX8, "then", "(III)I"⟩
abbrev cX8_when : ByteArray := prog_1_method_24_code
def yX8_when : MethodName := ⟨RX8, "when", "(II)I"⟩
abbrev cX8_first : ByteArray := prog_1_method_25_code
def yX8_first : MethodName := ⟨RX8, "first", "()I"⟩
abbrev cX8_borrow : ByteArray := prog_1_method_26_code
def yX8_borrow : MethodName := ⟨RX8, "borrow", "(III)I"⟩
abbrev cX8_taught : ByteArray := prog_1_method_27_code
def yX8_taught : MethodName := ⟨RX8, "taught", "(IIII)I"⟩
abbrev cX8_whatKind : ByteArray := prog_1_method_28_code
def yX8_whatKind : MethodName := ⟨RX8, "whatKind", "(IIII)I"⟩
abbrev cX8_two : ByteArray := prog_1_method_29_code
def yX8_two : MethodName := ⟨RX8, "two", "(III)I"⟩
abbrev cX8_damp : ByteArray := prog_1_method_30_code
def yX8_damp : MethodName := ⟨RX8, "damp", "(IIIII)J"⟩
abbrev cX8_lots : ByteArray := prog_1_method_31_code
def yX8_lots : MethodName := ⟨RX8, "lots", "(III)I"⟩
abbrev cX8_titles : ByteArray := prog_1_method_32_code
def yX8_titles : MethodName := ⟨RX8, "titles", "(II)I"⟩
abbrev cX8_from : ByteArray := prog_1_method_33_code
def yX8_from : MethodName := ⟨RX8, "from", "(I)I"⟩
abbrev cX8_shelf : ByteArray := prog_1_method_34_code
def yX8_shelf : MethodName := ⟨RX8, "shelf", "(II)I"⟩
abbrev cX8_sight : ByteArray := prog_1_method_35_code
def yX8_sight : MethodName := ⟨RX8, "sight", "(I)I"⟩
abbrev cX8_share : ByteArray := prog_1_method_36_code
def yX8_share : MethodName := ⟨RX8, "share", "(II)J"⟩
abbrev cX8_byHeart : ByteArray := prog_1_method_37_code
def yX8_byHeart : MethodName := ⟨RX8, "byHeart", "(II)I"⟩
abbrev cX8_kinds : ByteArray := prog_1_method_38_code
def yX8_kinds : MethodName := ⟨RX8, "kinds", "(I)I"⟩
abbrev cX8_row : ByteArray := prog_1_method_39_code
def yX8_row : MethodName := ⟨RX8, "row", "(I)I"⟩
abbrev cX8_judge : ByteArray := prog_1_method_40_code
def yX8_judge : MethodName := ⟨RX8, "judge", "()I"⟩
abbrev cX8_clear : ByteArray := prog_1_method_41_code
def yX8_clear : MethodName := ⟨RX8, "clear", "()I"⟩
abbrev cX8_image : ByteArray := prog_1_method_42_code
def yX8_image : MethodName := ⟨RX8, "image", "()I"⟩
abbrev cX8_restore : ByteArray := prog_1_method_43_code
def yX8_restore : MethodName := ⟨RX8, "restore", "()I"⟩
abbrev cX8_count : ByteArray := prog_1_method_44_code
def yX8_count : MethodName := ⟨RX8, "count", "(I)I"⟩
abbrev cX8_refuse : ByteArray := prog_1_method_45_code
def yX8_refuse : MethodName := ⟨RX8, "refuse", "(I)I"⟩
abbrev cX8_isNeither : ByteArray := prog_1_method_46_code
def yX8_isNeither : MethodName := ⟨RX8, "isNeither", "(I)Z"⟩
abbrev cX8_areTwo : ByteArray := prog_1_method_47_code
def yX8_areTwo : MethodName := ⟨RX8, "areTwo", "(II)Z"⟩
abbrev cX8_orderPan : ByteArray := prog_1_method_48_code
def yX8_orderPan : MethodName := ⟨RX8, "orderPan", "(II)I"⟩
abbrev cX8_isHeavier : ByteArray := prog_1_method_49_code
def yX8_isHeavier : MethodName := ⟨RX8, "isHeavier", "(IIII)Z"⟩
def RX9 : String := "WeighedInBooksModel"
def TX9 : u_T := fun k => match k with
  | 0 => ("WeighedInBooksModel", "refused", "[I", true)
  | 1 => ("WeighedInBooksModel", "weight", "[I", true)
  | 2 => ("WeighedInBooksModel", "appetite", "[I", true)
  | 3 => ("WeighedInBooksModel", "purse", "[I", true)
  | 4 => ("WeighedInBooksModel", "kind", "[I", true)
  | 5 => ("WeighedInBooksModel", "figure", "[I", true)
  | 6 => ("WeighedInBooksModel", "owner", "[I", true)
  | 7 => ("WeighedInBooksModel", "holder", "[I", true)
  | 8 => ("WeighedInBooksModel", "readBy", "[I", true)
  | 9 => ("WeighedInBooksModel", "titleMany", "[I", true)
  | 10 => ("WeighedInBooksModel", "title", "[I", true)
  | 11 => ("WeighedInBooksModel", "stepKind", "[I", true)
  | 12 => ("WeighedInBooksModel", "stepN", "[I", true)
  | 13 => ("WeighedInBooksModel", "people", "I", false)
  | 14 => ("WeighedInBooksModel", "books", "I", false)
  | 15 => ("WeighedInBooksModel", "week", "I", false)
  | 16 => ("WeighedInBooksModel", "steps", "I", false)
  | 17 => ("WeighedInBooksModel", "isDamp", "Z", false)
  | 18 => ("WeighedInBooksModel", "tape", "[I", true)
  | 19 => ("WeighedInBooksModel", "sort", "[I", true)
  | 20 => ("WeighedInBooksModel", "sortAt", "[I", true)
  | 21 => ("WeighedInBooksModel", "told", "[I", true)
  | 22 => ("WeighedInBooksModel", "saidAt", "[I", true)
  | 23 => ("WeighedInBooksModel", "saidMany", "[I", true)
  | 24 => ("WeighedInBooksModel", "lawKind", "[I", true)
  | 25 => ("WeighedInBooksModel", "lawN", "[I", true)
  | 26 => ("WeighedInBooksModel", "taped", "I", false)
  | 27 => ("WeighedInBooksModel", "reading", "I", false)
  | 28 => ("WeighedInBooksModel", "statements", "I", false)
  | 29 => ("WeighedInBooksModel", "telling", "I", false)
  | 30 => ("WeighedInBooksModel", "lawTold", "I", false)
  | 31 => ("WeighedInBooksModel", "kept", "[I", true)
  | 32 => ("WeighedInBooksModel", "hasImage", "Z", false)
  | 33 => ("WeighedInBooksModel", "isKeeping", "Z", false)
  | 34 => ("WeighedInBooksModel", "cursor", "I", false)
  | 35 => ("WeighedInBooksModel", "firstBack", "I", false)
  | 36 => ("WeighedInBooksModel", "backs", "I", false)
  | 37 => ("WeighedInBooksModel", "wasDown", "[I", true)
  | 38 => ("WeighedInBooksModel", "most", "[I", true)
  | 39 => ("WeighedInBooksModel", "partner", "[I", true)
  | 40 => ("WeighedInBooksModel", "row", "[I", true)
  | 41 => ("WeighedInBooksModel", "rowMany", "I", false)
  | 42 => ("WeighedInBooksModel", "ends", "[I", true)
  | _ => ("WeighedInBooksModel", "lots", "I", false)
def tyX9 : Nat → FieldType := fun k => match k with
  | 0 => .array .int
  | 1 => .array .int
  | 2 => .array .int
  | 3 => .array .int
  | 4 => .array .int
  | 5 => .array .int
  | 6 => .array .int
  | 7 => .array .int
  | 8 => .array .int
  | 9 => .array .int
  | 10 => .array .int
  | 11 => .array .int
  | 12 => .array .int
  | 13 => .int
  | 14 => .int
  | 15 => .int
  | 16 => .int
  | 17 => .boolean
  | 18 => .array .int
  | 19 => .array .int
  | 20 => .array .int
  | 21 => .array .int
  | 22 => .array .int
  | 23 => .array .int
  | 24 => .array .int
  | 25 => .array .int
  | 26 => .int
  | 27 => .int
  | 28 => .int
  | 29 => .int
  | 30 => .int
  | 31 => .array .int
  | 32 => .boolean
  | 33 => .boolean
  | 34 => .int
  | 35 => .int
  | 36 => .int
  | 37 => .array .int
  | 38 => .array .int
  | 39 => .array .int
  | 40 => .array .int
  | 41 => .int
  | 42 => .array .int
  | _ => .int
abbrev wsX90 : List Cond := u_ws RX9 TX9 44
theorem nmX9 : ∀ a, a < 44 → ∀ b, b < 44 → a ≠ b → (TX9 a).2.1 ≠ (TX9 b).2.1 := by decide +kernel
theorem tyX9_ok : ∀ k, k < 44 → parseFieldDescriptor (TX9 k).2.2.1 = some (tyX9 k) := by decide +kernel
abbrev cX9_init : ByteArray := prog_11_method_1_code
def yX9_init : MethodName := ⟨RX9, "<init>", "()V"⟩
abbrev cX9_no : ByteArray := prog_11_method_2_code
def yX9_no : MethodName := ⟨RX9, "no", "(I)I"⟩
abbrev cX9_lower : ByteArray := prog_11_method_3_code
def yX9_lower : MethodName := ⟨RX9, "lower", "(I)I"⟩
abbrev cX9_lowestOf : ByteArray := prog_11_method_4_code
def yX9_lowestOf : MethodName := ⟨RX9, "lowestOf", "(I)J"⟩
abbrev cX9_isIn : ByteArray := prog_11_method_5_code
def yX9_isIn : MethodName := ⟨RX9, "isIn", "(III)Z"⟩
abbrev cX9_bound : ByteArray := prog_11_method_6_code
def yX9_bound : MethodName := ⟨RX9, "bound", "(III)I"⟩
abbrev cX9_has : ByteArray := prog_11_method_7_code
def yX9_has : MethodName := ⟨RX9, "has", "(II)Z"⟩
abbrev cX9_bits : ByteArray := prog_11_method_8_code
def yX9_bits : MethodName := ⟨RX9, "bits", "(I)I"⟩
abbrev cX9_isPerson : ByteArray := prog_11_method_9_code
def yX9_isPerson : MethodName := ⟨RX9, "isPerson", "(I)Z"⟩
abbrev cX9_isPlace : ByteArray := prog_11_method_10_code
def yX9_isPlace : MethodName := ⟨RX9, "isPlace", "(I)Z"⟩
abbrev cX9_isBook : ByteArray := prog_11_method_11_code
def yX9_isBook : MethodName := ⟨RX9, "isBook", "(I)Z"⟩
abbrev cX9_areTwo : ByteArray := prog_11_method_12_code
def yX9_areTwo : MethodName := ⟨RX9, "areTwo", "(II)Z"⟩
abbrev cX9_asNovel : ByteArray := prog_11_method_13_code
def yX9_asNovel : MethodName := ⟨RX9, "asNovel", "(I)I"⟩
abbrev cX9_weighs : ByteArray := prog_11_method_14_code
def yX9_weighs : MethodName := ⟨RX9, "weighs", "(I)I"⟩
abbrev cX9_price : ByteArray := prog_11_method_15_code
def yX9_price : MethodName := ⟨RX9, "price", "(I)I"⟩
abbrev cX9_byStep : ByteArray := prog_11_method_16_code
def yX9_byStep : MethodName := ⟨RX9, "byStep", "(III)I"⟩
abbrev cX9_comesTo : ByteArray := prog_11_method_17_code
def yX9_comesTo : MethodName := ⟨RX9, "comesTo", "(III)I"⟩
abbrev cX9_isHeld : ByteArray := prog_11_method_18_code
def yX9_isHeld : MethodName := ⟨RX9, "isHeld", "(III)Z"⟩
abbrev cX9_overWith : ByteArray := prog_11_method_19_code
def yX9_overWith : MethodName := ⟨RX9, "overWith", "(III)I"⟩
abbrev cX9_overNow : ByteArray := prog_11_method_20_code
def yX9_overNow : MethodName := ⟨RX9, "overNow", "(II)I"⟩
abbrev cX9_comesDown : ByteArray := prog_11_method_21_code
def yX9_comesDown : MethodName := ⟨RX9, "comesDown", "(II)Z"⟩
abbrev cX9_compares : ByteArray := prog_11_method_22_code
def yX9_compares : MethodName := ⟨RX9, "compares", "(II)I"⟩
abbrev cX9_rankOf : ByteArray := prog_11_method_23_code
def yX9_rankOf : MethodName := ⟨RX9, "rankOf", "(I)I"⟩
abbrev cX9_ofRank : ByteArray := prog_11_method_24_code
def yX9_ofRank : MethodName := ⟨RX9, "ofRank", "(I)I"⟩
abbrev cX9_toRead : ByteArray := prog_11_method_25_code
def yX9_toRead : MethodName := ⟨RX9, "toRead", "(I)I"⟩
abbrev cX9_goesPerson : ByteArray := prog_11_method_26_code
def yX9_goesPerson : MethodName := ⟨RX9, "goesPerson", "(I)V"⟩
abbrev cX9_goesWeek : ByteArray := prog_11_method_27_code
def yX9_goesWeek : MethodName := ⟨RX9, "goesWeek", "()V"⟩
abbrev cX9_goes : ByteArray := prog_11_method_28_code
def yX9_goes : MethodName := ⟨RX9, "goes", "(I)V"⟩
abbrev cX9_feed : ByteArray := prog_11_method_29_code
def yX9_feed : MethodName := ⟨RX9, "feed", "(I)I"⟩
abbrev cX9_sign : ByteArray := prog_11_method_30_code
def yX9_sign : MethodName := ⟨RX9, "sign", "()I"⟩
abbrev cX9_number : ByteArray := prog_11_method_31_code
def yX9_number : MethodName := ⟨RX9, "number", "(I)I"⟩
abbrev cX9_readsDigits : ByteArray := prog_11_method_32_code
def yX9_readsDigits : MethodName := ⟨RX9, "readsDigits", "(I)Z"⟩
abbrev cX9_readsTitle : ByteArray := prog_11_method_33_code
def yX9_readsTitle : MethodName := ⟨RX9, "readsTitle", "()Z"⟩
abbrev cX9_stepOf : ByteArray := prog_11_method_34_code
def yX9_stepOf : MethodName := ⟨RX9, "stepOf", "(I)I"⟩
abbrev cX9_readsSteps : ByteArray := prog_11_method_35_code
def yX9_readsSteps : MethodName := ⟨RX9, "readsSteps", "()Z"⟩
abbrev cX9_readsAll : ByteArray := prog_11_method_36_code
def yX9_readsAll : MethodName := ⟨RX9, "readsAll", "(I)Z"⟩
abbrev cX9_statement : ByteArray := prog_11_method_37_code
def yX9_statement : MethodName := ⟨RX9, "statement", "()Z"⟩
abbrev cX9_isTitled : ByteArray := prog_11_method_38_code
def yX9_isTitled : MethodName := ⟨RX9, "isTitled", "(III)Z"⟩
abbrev cX9_titledBy : ByteArray := prog_11_method_39_code
def yX9_titledBy : MethodName := ⟨RX9, "titledBy", "(I)I"⟩
abbrev cX9_isMore : ByteArray := prog_11_method_40_code
def yX9_isMore : MethodName := ⟨RX9, "isMore", "(III)V"⟩
abbrev cX9_isBrought : ByteArray := prog_11_method_41_code
def yX9_isBrought : MethodName := ⟨RX9, "isBrought", "(III)V"⟩
abbrev cX9_isTitledMore : ByteArray := prog_11_method_42_code
def yX9_isTitledMore : MethodName := ⟨RX9, "isTitledMore", "(I)V"⟩
abbrev cX9_comesPerson : ByteArray := prog_11_method_43_code
def yX9_comesPerson : MethodName := ⟨RX9, "comesPerson", "(I)Z"⟩
abbrev cX9_comesBook : ByteArray := prog_11_method_44_code
def yX9_comesBook : MethodName := ⟨RX9, "comesBook", "(II)Z"⟩
abbrev cX9_comesReading : ByteArray := prog_11_method_45_code
def yX9_comesReading : MethodName := ⟨RX9, "comesReading", "(II)Z"⟩
abbrev cX9_comesHolding : ByteArray := prog_11_method_46_code
def yX9_comesHolding : MethodName := ⟨RX9, "comesHolding", "(II)Z"⟩
abbrev cX9_comesLaw : ByteArray := prog_11_method_47_code
def yX9_comesLaw : MethodName := ⟨RX9, "comesLaw", "(I)Z"⟩
abbrev cX9_comesWeeks : ByteArray := prog_11_method_48_code
def yX9_comesWeeks : MethodName := ⟨RX9, "comesWeeks", "(I)Z"⟩
abbrev cX9_comesTold : ByteArray := prog_11_method_49_code
def yX9_comesTold : MethodName := ⟨RX9, "comesTold", "(I)Z"⟩
abbrev cX9_town : ByteArray := prog_11_method_50_code
def yX9_town : MethodName := ⟨RX9, "town", "()I"⟩
abbrev cX9_passes : ByteArray := prog_11_method_51_code
def yX9_passes : MethodName := ⟨RX9, "passes", "([I)V"⟩
abbrev cX9_passOne : ByteArray := prog_11_method_52_code
def yX9_passOne : MethodName := ⟨RX9, "passOne", "(I)I"⟩
abbrev cX9_passesAll : ByteArray := prog_11_method_53_code
def yX9_passesAll : MethodName := ⟨RX9, "passesAll", "(IZ)V"⟩
abbrev cX9_minds : ByteArray := prog_11_method_54_code
def yX9_minds : MethodName := ⟨RX9, "minds", "()V"⟩
abbrev cX9_forgets : ByteArray := prog_11_method_55_code
def yX9_forgets : MethodName := ⟨RX9, "forgets", "()V"⟩
abbrev cX9_remembers : ByteArray := prog_11_method_56_code
def yX9_remembers : MethodName := ⟨RX9, "remembers", "()V"⟩
abbrev cX9_back : ByteArray := prog_11_method_57_code
def yX9_back : MethodName := ⟨RX9, "back", "()I"⟩
abbrev cX9_image : ByteArray := prog_11_method_58_code
def yX9_image : MethodName := ⟨RX9, "image", "()I"⟩
abbrev cX9_restore : ByteArray := prog_11_method_59_code
def yX9_restore : MethodName := ⟨RX9, "restore", "()I"⟩
abbrev cX9_manyRead : ByteArray := prog_11_method_60_code
def yX9_manyRead : MethodName := ⟨RX9, "manyRead", "(I)I"⟩
abbrev cX9_manyIn : ByteArray := prog_11_method_61_code
def yX9_manyIn : MethodName := ⟨RX9, "manyIn", "([III)I"⟩
abbrev cX9_person : ByteArray := prog_11_method_62_code
def yX9_person : MethodName := ⟨RX9, "person", "(II)I"⟩
abbrev cX9_book : ByteArray := prog_11_method_63_code
def yX9_book : MethodName := ⟨RX9, "book", "(II)I"⟩
abbrev cX9_title : ByteArray := prog_11_method_64_code
def yX9_title : MethodName := ⟨RX9, "title", "(II)I"⟩
abbrev cX9_comes : ByteArray := prog_11_method_65_code
def yX9_comes : MethodName := ⟨RX9, "comes", "(III)I"⟩
abbrev cX9_isLetterTitle : ByteArray := prog_11_method_66_code
def yX9_isLetterTitle : MethodName := ⟨RX9, "isLetterTitle", "(I)Z"⟩
abbrev cX9_brings : ByteArray := prog_11_method_67_code
def yX9_brings : MethodName := ⟨RX9, "brings", "(IIII)I"⟩
abbrev cX9_eats : ByteArray := prog_11_method_68_code
def yX9_eats : MethodName := ⟨RX9, "eats", "(II)I"⟩
abbrev cX9_reads : ByteArray := prog_11_method_69_code
def yX9_reads : MethodName := ⟨RX9, "reads", "(II)I"⟩
abbrev cX9_lends : ByteArray := prog_11_method_70_code
def yX9_lends : MethodName := ⟨RX9, "lends", "(II)I"⟩
abbrev cX9_buys : ByteArray := prog_11_method_71_code
def yX9_buys : MethodName := ⟨RX9, "buys", "(II)I"⟩
abbrev cX9_step : ByteArray := prog_11_method_72_code
def yX9_step : MethodName := ⟨RX9, "step", "(II)I"⟩
abbrev cX9_clearLaw : ByteArray := prog_11_method_73_code
def yX9_clearLaw : MethodName := ⟨RX9, "clearLaw", "()I"⟩
abbrev cX9_weeks : ByteArray := prog_11_method_74_code
def yX9_weeks : MethodName := ⟨RX9, "weeks", "(I)I"⟩
abbrev cX9_over : ByteArray := prog_11_method_75_code
def yX9_over : MethodName := ⟨RX9, "over", "(II)I"⟩
abbrev cX9_pan : ByteArray := prog_11_method_76_code
def yX9_pan : MethodName := ⟨RX9, "pan", "(III)I"⟩
abbrev cX9_overThen : ByteArray := prog_11_method_77_code
def yX9_overThen : MethodName := ⟨RX9, "overThen", "(III)I"⟩
abbrev cX9_then : ByteArray := prog_11_method_78_code
def yX9_then : MethodName := ⟨RX9, "then", "(III)I"⟩
abbrev cX9_whenFrom : ByteArray := prog_11_method_79_code
def yX9_whenFrom : MethodName := ⟨RX9, "whenFrom", "(II)I"⟩
abbrev cX9_when : ByteArray := prog_11_method_80_code
def yX9_when : MethodName := ⟨RX9, "when", "(II)I"⟩
abbrev cX9_marksDown : ByteArray := prog_11_method_81_code
def yX9_marksDown : MethodName := ⟨RX9, "marksDown", "()V"⟩
abbrev cX9_firstDown : ByteArray := prog_11_method_82_code
def yX9_firstDown : MethodName := ⟨RX9, "firstDown", "()I"⟩
abbrev cX9_first : ByteArray := prog_11_method_83_code
def yX9_first : MethodName := ⟨RX9, "first", "()I"⟩
abbrev cX9_pricesOf : ByteArray := prog_11_method_84_code
def yX9_pricesOf : MethodName := ⟨RX9, "pricesOf", "(I)I"⟩
abbrev cX9_ownedBy : ByteArray := prog_11_method_85_code
def yX9_ownedBy : MethodName := ⟨RX9, "ownedBy", "(I)I"⟩
abbrev cX9_isBetter : ByteArray := prog_11_method_86_code
def yX9_isBetter : MethodName := ⟨RX9, "isBetter", "(II)Z"⟩
abbrev cX9_buy : ByteArray := prog_11_method_87_code
def yX9_buy : MethodName := ⟨RX9, "buy", "(III)I"⟩
abbrev cX9_borrow : ByteArray := prog_11_method_88_code
def yX9_borrow : MethodName := ⟨RX9, "borrow", "(III)I"⟩
abbrev cX9_taught : ByteArray := prog_11_method_89_code
def yX9_taught : MethodName := ⟨RX9, "taught", "(IIII)I"⟩
abbrev cX9_leastIn : ByteArray := prog_11_method_90_code
def yX9_leastIn : MethodName := ⟨RX9, "leastIn", "(I)I"⟩
abbrev cX9_findMost : ByteArray := prog_11_method_91_code
def yX9_findMost : MethodName := ⟨RX9, "findMost", "()V"⟩
abbrev cX9_partnerFor : ByteArray := prog_11_method_92_code
def yX9_partnerFor : MethodName := ⟨RX9, "partnerFor", "(III)I"⟩
abbrev cX9_findPartners : ByteArray := prog_11_method_93_code
def yX9_findPartners : MethodName := ⟨RX9, "findPartners", "()V"⟩
abbrev cX9_couples : ByteArray := prog_11_method_94_code
def yX9_couples : MethodName := ⟨RX9, "couples", "(I)I"⟩
abbrev cX9_isHeavier : ByteArray := prog_11_method_95_code
def yX9_isHeavier : MethodName := ⟨RX9, "isHeavier", "(IIII)Z"⟩
abbrev cX9_heavierThan : ByteArray := prog_11_method_96_code
def yX9_heavierThan : MethodName := ⟨RX9, "heavierThan", "(III)I"⟩
abbrev cX9_heaviest : ByteArray := prog_11_method_97_code
def yX9_heaviest : MethodName := ⟨RX9, "heaviest", "(III)I"⟩
abbrev cX9_wasSo : ByteArray := prog_11_method_98_code
def yX9_wasSo : MethodName := ⟨RX9, "wasSo", "(II)Z"⟩
abbrev cX9_whatKind : ByteArray := prog_11_method_99_code
def yX9_whatKind : MethodName := ⟨RX9, "whatKind", "(IIII)I"⟩
abbrev cX9_gives : ByteArray := prog_11_method_100_code
def yX9_gives : MethodName := ⟨RX9, "gives", "(I)V"⟩
abbrev cX9_findEnds : ByteArray := prog_11_method_101_code
def yX9_findEnds : MethodName := ⟨RX9, "findEnds", "(III)V"⟩
abbrev cX9_two : ByteArray := prog_11_method_102_code
def yX9_two : MethodName := ⟨RX9, "two", "(III)I"⟩
abbrev cX9_divisor : ByteArray := prog_11_method_103_code
def yX9_divisor : MethodName := ⟨RX9, "divisor", "(JJ)J"⟩
abbrev cX9_partOf : ByteArray := prog_11_method_104_code
def yX9_partOf : MethodName := ⟨RX9, "partOf", "(JJI)J"⟩
abbrev cX9_damp : ByteArray := prog_11_method_105_code
def yX9_damp : MethodName := ⟨RX9, "damp", "(IIIII)J"⟩
abbrev cX9_titles : ByteArray := prog_11_method_106_code
def yX9_titles : MethodName := ⟨RX9, "titles", "(II)I"⟩
abbrev cX9_from : ByteArray := prog_11_method_107_code
def yX9_from : MethodName := ⟨RX9, "from", "(I)I"⟩
abbrev cX9_kindsOn : ByteArray := prog_11_method_108_code
def yX9_kindsOn : MethodName := ⟨RX9, "kindsOn", "(I)I"⟩
abbrev cX9_manyOn : ByteArray := prog_11_method_109_code
def yX9_manyOn : MethodName := ⟨RX9, "manyOn", "(II)I"⟩
abbrev cX9_mostOn : ByteArray := prog_11_method_110_code
def yX9_mostOn : MethodName := ⟨RX9, "mostOn", "(I)I"⟩
abbrev cX9_pricesOn : ByteArray := prog_11_method_111_code
def yX9_pricesOn : MethodName := ⟨RX9, "pricesOn", "(I)I"⟩
abbrev cX9_shelf : ByteArray := prog_11_method_112_code
def yX9_shelf : MethodName := ⟨RX9, "shelf", "(II)I"⟩
abbrev cX9_sizeOf : ByteArray := prog_11_method_113_code
def yX9_sizeOf : MethodName := ⟨RX9, "sizeOf", "(I)I"⟩
abbrev cX9_closest : ByteArray := prog_11_method_114_code
def yX9_closest : MethodName := ⟨RX9, "closest", "()I"⟩
abbrev cX9_poor : ByteArray := prog_11_method_115_code
def yX9_poor : MethodName := ⟨RX9, "poor", "()I"⟩
abbrev cX9_unread : ByteArray := prog_11_method_116_code
def yX9_unread : MethodName := ⟨RX9, "unread", "()I"⟩
abbrev cX9_lent : ByteArray := prog_11_method_117_code
def yX9_lent : MethodName := ⟨RX9, "lent", "()I"⟩
abbrev cX9_sight : ByteArray := prog_11_method_118_code
def yX9_sight : MethodName := ⟨RX9, "sight", "(I)I"⟩
abbrev cX9_share : ByteArray := prog_11_method_119_code
def yX9_share : MethodName := ⟨RX9, "share", "(II)J"⟩
abbrev cX9_byHeart : ByteArray := prog_11_method_120_code
def yX9_byHeart : MethodName := ⟨RX9, "byHeart", "(II)I"⟩
abbrev cX9_kinds : ByteArray := prog_11_method_121_code
def yX9_kinds : MethodName := ⟨RX9, "kinds", "(I)I"⟩
abbrev cX9_row : ByteArray := prog_11_method_122_code
def yX9_row : MethodName := ⟨RX9, "row", "(I)I"⟩
abbrev cX9_judge : ByteArray := prog_11_method_123_code
def yX9_judge : MethodName := ⟨RX9, "judge", "()I"⟩
abbrev cX9_clear : ByteArray := prog_11_method_124_code
def yX9_clear : MethodName := ⟨RX9, "clear", "()I"⟩
abbrev cX9_draw : ByteArray := prog_11_method_125_code
def yX9_draw : MethodName := ⟨RX9, "draw", "(I)I"⟩
abbrev cX9_allRead : ByteArray := prog_11_method_126_code
def yX9_allRead : MethodName := ⟨RX9, "allRead", "()I"⟩
abbrev cX9_manyDown : ByteArray := prog_11_method_127_code
def yX9_manyDown : MethodName := ⟨RX9, "manyDown", "()I"⟩
abbrev cX9_lots : ByteArray := prog_11_method_128_code
def yX9_lots : MethodName := ⟨RX9, "lots", "(III)I"⟩
abbrev cX9_count : ByteArray := prog_11_method_129_code
def yX9_count : MethodName := ⟨RX9, "count", "(I)I"⟩
abbrev cX9_allWeights : ByteArray := prog_11_method_130_code
def yX9_allWeights : MethodName := ⟨RX9, "allWeights", "()I"⟩
def RJ6 : String := "java/lang/Integer"
abbrev cJ6_bitCount_0f7a4 : ByteArray := prog_12_method_49_code
def yJ6_bitCount_0f7a4 : MethodName := ⟨RJ6, "bitCount", "(I)I"⟩
def RL : String := "WeighedInBooksLaw"
abbrev cL_law : ByteArray := code
def yL_law : MethodName := ⟨RL, "law", "([I)Z"⟩
def jm_off : Nat := 81
end
section
abbrev jm_LV : Type := List (Option Value)
abbrev jm_M : Type := Nat → Nat → Nat → Int32
abbrev jm_Dsc : Type := Nat ⊕ ((Nat × List (Option (Nat × Nat))) ⊕ List (Nat × Nat))
abbrev jm_Lay : Type := List ((Nat × Nat) × jm_Dsc)
abbrev jm_Ev : Type := Launch × va_G × ClassId × ClassId × Nat × (Nat → Nat → Nat)
def jm_l (E : jm_Ev) : Launch := E.1
def jm_D (E : jm_Ev) : va_G := E.2.1
def jm_cI (E : jm_Ev) : ClassId := E.2.2.1
def jm_cT (E : jm_Ev) : ClassId := E.2.2.2.1
def jm_tS (E : jm_Ev) : Nat := E.2.2.2.2.1
def jm_a (E : jm_Ev) (t j : Nat) : Nat := E.2.2.2.2.2 t j
abbrev jm_cl : List vw_C := [(RX0, TX0, 4), (RX1, TX1, 4), (RX2, TX2, 7), (RX4, TX4, 3), (RX5, TX5, 4), (RX7, TX7, 15), (RX8, TX8, 12), (RX9, TX9, 44)]
abbrev jm_tys (E : jm_Ev) : List (ClassId × FieldType) := [(jm_cI E, .int), (jm_cT E, .object "WeighedInBooks$Town")]
def jm_fv (E : jm_Ev) (f : Nat → Int32) : List (Option (Nat × Nat)) → Nat → List Value
  | [], _ => []
  | none :: r, k => .int (f k) :: jm_fv E f r (k + 1)
  | some q :: r, k => .ref (jm_a E q.1 q.2) :: jm_fv E f r (k + 1)
def jm_cell (E : jm_Ev) (M : jm_M) (q : (Nat × Nat) × jm_Dsc) : Nat × va_E :=
  (jm_a E q.1.1 q.1.2, match q.2 with
    | .inl n => .inl (jm_cI E, n, .inl (M q.1.1 q.1.2))
    | .inr (.inl o) => .inr (o.1, jm_fv E (M q.1.1 q.1.2) o.2 0)
    | .inr (.inr rs) => .inl (jm_cT E, rs.length, .inr (.inr (.inr (.inr (fun i => (rs[i]?).map (fun r => jm_a E r.1 r.2)))))))
def jm_ws (E : jm_Ev) (X : jm_Lay) (M : jm_M) : va_W := X.map (jm_cell E M)
def jm_A (E : jm_Ev) (X : jm_Lay) : Nat → Prop := fun q => ∃ r ∈ X, q = jm_a E r.1.1 r.1.2
def jm_dj (E : jm_Ev) (X : jm_Lay) : Prop := ∀ (i j : Nat) (p q : (Nat × Nat) × jm_Dsc), X[i]? = some p → X[j]? = some q → jm_a E p.1.1 p.1.2 = jm_a E q.1.1 q.1.2 → i = j
def jm_up (M : jm_M) (t j i : Nat) (v : Int32) : jm_M := fun a b k => if a = t ∧ b = j ∧ k = i then v else M a b k
def jm_cp (M : jm_M) (t j t' j' n : Nat) : jm_M := fun a b k => if a = t' ∧ b = j' ∧ k < n then M t j k else M a b k
def jm_rd (n : Nat) (f : Nat → Int32) (i : Int32) : Option Int32 := if i < 0 ∨ n ≤ i.toNatClampNeg then none else some (f i.toNatClampNeg)
def jm_wa (n : Nat) (M : jm_M) (t j : Nat) (i v : Int32) : Option jm_M := if i < 0 ∨ n ≤ i.toNatClampNeg then none else some (jm_up M t j i.toNatClampNeg v)
def jm_wf (M : jm_M) (t k : Nat) (v : Int32) : Option jm_M := some (jm_up M t 0 k v)
def jm_wz (M : jm_M) (t k : Nat) (v : Int32) : Option jm_M := if v = 0 ∨ v = 1 then some (jm_up M t 0 k v) else none
def jm_dv (x y : Int32) : Option Int32 := if y = 0 then none else some (x / y)
def jm_rm (x y : Int32) : Option Int32 := if y = 0 then none else some (x - x / y * y)
def jm_ldv (x y : Int64) : Option Int64 := if y = 0 then none else some (x / y)
def jm_lrm (x y : Int64) : Option Int64 := if y = 0 then none else some (x - x / y * y)
def jm_bz (v : Int32) : Option Int32 := if v = 0 ∨ v = 1 then some v else none
def jm_len (X : jm_Lay) (r : Nat × Nat) : Option Nat := match X.find? (fun q => q.1.1 == r.1 && q.1.2 == r.2) with
  | some (_, .inl n) => some n
  | _ => none
def jm_loop {σ ε : Type} (f : σ → Option (σ ⊕ ε)) : Nat → σ → Option ε
  | 0, _ => none
  | n + 1, s => match f s with
    | some (.inl s') => jm_loop f n s'
    | some (.inr e) => some e
    | none => none
def jm_N : Nat := 1000000
def jm_SL : Nat → Int32 := fun k => if k = 0 then 97 else if k = 1 then 108 else if k = 2 then 99 else if k = 3 then 116 else if k = 4 then 100 else if k = 5 then 117 else if k = 6 then 104 else 111
/-! locals -/
def jm_lv (ls : Array Slot) (nL : Nat) (lv : jm_LV) : Prop := ls.size = nL ∧ lv_wf ls ∧ ∀ (i : Nat) (v : Value), lv[i]? = some (some v) → ls[i]? = some (.val v)
def jm_pairs (lv : jm_LV) : List (Nat × Value) := (List.range lv.length).filterMap (fun i => (lv.getD i none).map (fun v => (i, v)))
theorem jm_pairs_mem {lv : jm_LV} {i : Nat} {v : Value} (h : lv[i]? = some (some v)) : (i, v) ∈ jm_pairs lv := by
  refine List.mem_filterMap.mpr ⟨i, List.mem_range.mpr (List.getElem?_eq_some_iff.mp h).1, ?_⟩
  rw [List.getD_eq_getElem?_getD, h]
  rfl
theorem jm_pairs_of {lv : jm_LV} {q : Nat × Value} (h : q ∈ jm_pairs lv) : lv[q.1]? = some (some q.2) := by
  obtain ⟨i, -, e⟩ := List.mem_filterMap.mp h
  rw [List.getD_eq_getElem?_getD] at e
  cases hx : lv[i]? with
  | none => rw [hx] at e; cases e
  | some o =>
    rw [hx] at e
    cases o with
    | none => cases e
    | some v => cases e; exact hx
theorem jm_lv_has {ls : Array Slot} {nL : Nat} {lv : jm_LV} (h : jm_lv ls nL lv) : lv_has ls nL (jm_pairs lv) := ⟨h.1, h.2.1, fun q hq => h.2.2 _ _ (jm_pairs_of hq)⟩
def jm_c1 (lv : jm_LV) (i : Nat) : Bool := match i with
  | 0 => true
  | k + 1 => match lv[k]? with
    | some (some v) => v.category == 1
    | _ => true
theorem jm_c1_ne {lv : jm_LV} {j i : Nat} {w : Value} (h1 : jm_c1 lv i = true) (hj : lv[j]? = some (some w)) (hji : j + 1 = i) : (w.category == 2) = false := by
  subst hji
  simp only [jm_c1, hj] at h1
  rw [beq_iff_eq] at h1
  rw [h1]
  rfl
theorem jm_lv_st1 {ls : Array Slot} {nL i : Nat} {lv : jm_LV} {v : Value} (h1 : jm_c1 lv i = true) (h : lv_has ls nL ((i, v) :: (jm_pairs lv).filter (fun q => !(q.1 == i) && !(q.1 + 1 == i && q.2.category == 2)))) : jm_lv ls nL (lv.set i (some v)) := by
  refine ⟨h.1, h.2.1, fun j w hj => ?_⟩
  rw [List.getElem?_set] at hj
  split at hj
  next hij =>
    subst hij
    split at hj
    · cases hj; exact h.2.2 (i, v) List.mem_cons_self
    · cases hj
  next hij =>
    refine h.2.2 (j, w) (List.mem_cons_of_mem _ (List.mem_filter.mpr ⟨jm_pairs_mem hj, ?_⟩))
    have e1 : (j == i) = false := by simpa using fun e => hij e.symm
    by_cases hji : j + 1 = i
    · have e2 := jm_c1_ne h1 hj hji
      simp [e1, e2]
    · have e3 : (j + 1 == i) = false := by simpa using hji
      simp [e1, e3]
theorem jm_lv_st2 {ls : Array Slot} {nL i : Nat} {lv : jm_LV} {v : Value} (h1 : jm_c1 lv i = true) (h : lv_has ls nL ((i, v) :: (jm_pairs lv).filter (fun q => !(q.1 == i) && (!(q.1 == i + 1) && !(q.1 + 1 == i && q.2.category == 2))))) : jm_lv ls nL ((lv.set i (some v)).set (i + 1) none) := by
  refine ⟨h.1, h.2.1, fun j w hj => ?_⟩
  rw [List.getElem?_set] at hj
  split at hj
  next hij => split at hj <;> cases hj
  next hij2 =>
    rw [List.getElem?_set] at hj
    split at hj
    next hij =>
      subst hij
      split at hj
      · cases hj; exact h.2.2 (i, v) List.mem_cons_self
      · cases hj
    next hij =>
      refine h.2.2 (j, w) (List.mem_cons_of_mem _ (List.mem_filter.mpr ⟨jm_pairs_mem hj, ?_⟩))
      have e1 : (j == i) = false := by simpa using fun e => hij e.symm
      have e4 : (j == i + 1) = false := by simpa using fun e => hij2 e.symm
      by_cases hji : j + 1 = i
      · have e2 := jm_c1_ne h1 hj hji
        simp [e1, e2, e4]
      · have e3 : (j + 1 == i) = false := by simpa using hji
        simp [e1, e3, e4]
/-! worlds -/
theorem jm_ws_at {E : jm_Ev} {X : jm_Lay} {M : jm_M} {q : Nat} {r : (Nat × Nat) × jm_Dsc} (h : X[q]? = some r) : (jm_ws E X M)[q]? = some (jm_cell E M r) := by
  rw [jm_ws, List.getElem?_map, h]; rfl
theorem jm_ws_set {E : jm_Ev} {X : jm_Lay} (hd : jm_dj E X) {M M' : jm_M} {q : Nat} {r : (Nat × Nat) × jm_Dsc} {x : Nat × va_E} (h : X[q]? = some r) (hx : x = jm_cell E M' r) (hM : ∀ a b, ¬ (a = r.1.1 ∧ b = r.1.2) → M' a b = M a b) : (jm_ws E X M).set q x = jm_ws E X M' := by
  apply List.ext_getElem?
  intro k
  rw [List.getElem?_set]
  split
  next hk =>
    subst hk
    rw [jm_ws_at h, hx]
    have hl : q < (jm_ws E X M).length := by
      rw [jm_ws, List.length_map]
      exact (List.getElem?_eq_some_iff.mp h).1
    rw [if_pos hl]
  next hk =>
    cases hp : X[k]? with
    | none => rw [jm_ws, jm_ws, List.getElem?_map, List.getElem?_map, hp]; rfl
    | some p =>
      rw [jm_ws_at hp, jm_ws_at hp]
      have hne : ¬ (p.1.1 = r.1.1 ∧ p.1.2 = r.1.2) := fun e => hk (hd q k r p h hp (by rw [e.1, e.2]))
      have e := hM _ _ hne
      rw [jm_cell, jm_cell, e]
theorem jm_D_of {E : jm_Ev} {X : jm_Lay} (hd : jm_dj E X) (M : jm_M) : va_D (jm_A E X) (jm_ws E X M) := by
  have key : ∀ (k : Nat) (p : Nat × va_E), (jm_ws E X M)[k]? = some p → ∃ r, X[k]? = some r ∧ p.1 = jm_a E r.1.1 r.1.2 := by
    intro k p h
    rw [jm_ws, List.getElem?_map] at h
    cases hr : X[k]? with
    | none => rw [hr] at h; cases h
    | some r => rw [hr] at h; cases h; exact ⟨r, rfl, rfl⟩
  refine ⟨fun i j p q hp hq e => ?_, fun k q h => ?_⟩
  · obtain ⟨r1, h1, e1⟩ := key i p hp
    obtain ⟨r2, h2, e2⟩ := key j q hq
    exact hd i j r1 r2 h1 h2 (by rw [← e1, ← e2, e])
  · obtain ⟨r, h1, e1⟩ := key k q h
    exact ⟨r, List.mem_of_getElem? h1, e1⟩
theorem jm_fv_int {E : jm_Ev} {f : Nat → Int32} (fs : List (Option (Nat × Nat))) : ∀ (c k : Nat), fs[k]? = some none → (jm_fv E f fs c)[k]? = some (.int (f (c + k))) := by
  induction fs with
  | nil => intro c k h; simp at h
  | cons o r ih =>
    intro c k h
    cases k with
    | zero => simp only [List.getElem?_cons_zero, Option.some.injEq] at h; subst h; simp [jm_fv]
    | succ k =>
      simp only [List.getElem?_cons_succ] at h
      have h2 := ih (c + 1) k h
      rw [show c + 1 + k = c + (k + 1) by omega] at h2
      cases o with
      | none => simpa [jm_fv] using h2
      | some q => simpa [jm_fv] using h2
theorem jm_fv_ref {E : jm_Ev} {f : Nat → Int32} (fs : List (Option (Nat × Nat))) : ∀ (c k : Nat) {q : Nat × Nat}, fs[k]? = some (some q) → (jm_fv E f fs c)[k]? = some (.ref (jm_a E q.1 q.2)) := by
  induction fs with
  | nil => intro c k q h; simp at h
  | cons o r ih =>
    intro c k q h
    cases k with
    | zero => simp only [List.getElem?_cons_zero, Option.some.injEq] at h; subst h; simp [jm_fv]
    | succ k =>
      simp only [List.getElem?_cons_succ] at h
      have h2 := ih (c + 1) k h
      cases o with
      | none => simpa [jm_fv] using h2
      | some q => simpa [jm_fv] using h2
theorem jm_fv_len {E : jm_Ev} {f : Nat → Int32} (fs : List (Option (Nat × Nat))) : ∀ c, (jm_fv E f fs c).length = fs.length := by
  induction fs with
  | nil => intro c; rfl
  | cons o r ih =>
    intro c
    cases o <;> simp [jm_fv, ih]
theorem jm_fv_set {E : jm_Ev} {f : Nat → Int32} {v : Int32} (fs : List (Option (Nat × Nat))) : ∀ (c k : Nat), fs[k]? = some none → (jm_fv E f fs c).set k (.int v) = jm_fv E (fun j => if j = c + k then v else f j) fs c := by
  have same : ∀ (fs : List (Option (Nat × Nat))) (c d : Nat), d < c → jm_fv E (fun j => if j = d then v else f j) fs c = jm_fv E f fs c := by
    intro fs
    induction fs with
    | nil => intro c d _; rfl
    | cons o r ih =>
      intro c d h
      have h1 := ih (c + 1) d (by omega)
      have h2 : ¬ c = d := by omega
      cases o <;> simp [jm_fv, h1, h2]
  induction fs with
  | nil => intro c k h; simp at h
  | cons o r ih =>
    intro c k h
    cases k with
    | zero =>
      simp only [List.getElem?_cons_zero, Option.some.injEq] at h
      subst h
      simp [jm_fv, same r (c + 1) c (by omega)]
    | succ k =>
      simp only [List.getElem?_cons_succ] at h
      have h2 := ih (c + 1) k h
      rw [show c + 1 + k = c + (k + 1) by omega] at h2
      have h3 : ¬ c = c + (k + 1) := by omega
      cases o with
      | none => simp [jm_fv, h2, h3]
      | some q => simp [jm_fv, h2]
/-! the walk -/
def jm_Z (E : jm_Ev) (X : jm_Lay) (U : State) (H : Heap) : Prop := va_Z "WeighedInBooks$Statements" "STEP_LETTERS" "[C" (.ref (jm_tS E)) (jm_A E X) U H ∧ va_T .char (jm_tS E) 8 (fun k => .int (jm_SL k)) (jm_A E X) U H
def jm_tb : List Cond := lw_tbl.filter goodWord
def jm_W (E : jm_Ev) (X : jm_Lay) (p : Program) (e : Env) (R : Room) (s : State) (m : MethodId) (args : Array Value) (below : List Frame) (meth : Method) (c : Code) (Q : State → Prop) (nL : Nat) (pc : Nat) (lv : jm_LV) (st : List Value) (M : jm_M) : Prop :=
  ∀ (ls : Array Slot) (H : Heap) (locs : List Loc), jm_lv ls nL lv → va_P (jm_D E) jm_cl (jm_ws E X M) H → va_S (jm_A E X) s.heap H locs → W p (jm_l E) e R s m args below meth c H locs 0 0 Q (F0 m pc ls st)
def jm_Qz (E : jm_Ev) (X : jm_Lay) (z : Option Value → jm_M → Prop) : Array Value → State → Outcome → State → Prop := fun _ st oc t => (∃ (v : Option Value) (M : jm_M), oc = .returned v ∧ z v M ∧ va_P (jm_D E) jm_cl (jm_ws E X M) t.heap) ∧ va_F (jm_A E X) st t
def jm_F (E : jm_Ev) (X : jm_Lay) (own : String) (cc : ByteArray) (nL : Nat) (ret : Option FieldType) (d n : Nat) (z : Option Value → jm_M → Prop) (w : Nat → jm_LV → List Value → jm_M → Prop) : Prop :=
  ∃ (p : Program) (e : Env) (s : State) (m : MethodId) (args : Array Value) (below : List Frame) (meth : Method) (c : Code),
    w = jm_W E X p e ({ frames := d, cells := 0, slots := 0, locals := n } : Room) s m args below meth c (MQ below (jm_Qz E X z) args s 0 0 (jm_A E X)) nL ∧
    p.tables.exec = Jvm.exec ∧ c.code = cc ∧ c.maxLocals = nL ∧ s.vm.findClass own = some m.cls ∧ (∀ w ∈ jm_tb, w.before args s = true) ∧ meth.sig.returnType = ret ∧ meth.locks = false ∧
    va_K (jm_D E) jm_cl (jm_tys E) s ∧ jm_dj E X ∧ jm_Z E X s s.heap
def jm_G {τ : Type} (w : Nat → jm_LV → List Value → jm_M → Prop) (pc : Nat) (lv : jm_LV) (st : List Value) (M : jm_M) (o : Option τ) (K : τ → Prop) : Prop := ∀ r, o = some r → K r → w pc lv st M
def jm_d (cc : ByteArray) (pc : Nat) (i : Instr) (len nxt : Nat) : Prop := decode cc pc = .ok (i, len) ∧ pc + len = nxt
def jm_b (cc : ByteArray) (pc : Nat) (i : Int → Instr) (nxt tgt : Nat) : Prop := ∃ off : Int, decode cc pc = .ok (i off, 3) ∧ pc + 3 = nxt ∧ (pc : Int) + off = (tgt : Int)
def jm_obj (X : jm_Lay) (t ci : Nat) (fs : List (Option (Nat × Nat))) : Prop := ∃ q : Nat, X[q]? = some (((t, 0), Sum.inr (Sum.inl (ci, fs))) : (Nat × Nat) × jm_Dsc)
def jm_arr (X : jm_Lay) (t j n : Nat) : Prop := ∃ q : Nat, X[q]? = some (((t, j), Sum.inl n) : (Nat × Nat) × jm_Dsc)
def jm_rar (X : jm_Lay) (t j : Nat) (rs : List (Nat × Nat)) : Prop := ∃ q : Nat, X[q]? = some (((t, j), Sum.inr (Sum.inr rs)) : (Nat × Nat) × jm_Dsc)
def jm_Fl (own : String) (index ci k : Nat) : Prop := ∃ (C : String) (T : u_T) (N : Nat), jm_cl[ci]? = some (C, T, N) ∧ k < N ∧ (∀ w ∈ u_ws C T N, w ∈ jm_tb) ∧ Cond.fieldLink own index (T k).1 (T k).2.1 (T k).2.2.1 ∈ jm_tb
def jm_Fp (own : String) (index ci k : Nat) (ty : FieldType) : Prop := ∃ (C : String) (T : u_T) (N : Nat) (ty0 : Nat → FieldType), jm_cl[ci]? = some (C, T, N) ∧ k < N ∧ (∀ w ∈ u_ws C T N, w ∈ jm_tb) ∧ Cond.fieldLink own index (T k).1 (T k).2.1 (T k).2.2.1 ∈ jm_tb ∧ (∀ k, k < N → parseFieldDescriptor (T k).2.2.1 = some (ty0 k)) ∧ (∀ a, a < N → ∀ b, b < N → a ≠ b → (T a).2.1 ≠ (T b).2.1) ∧ (T k).2.2.2 = false ∧ parseFieldDescriptor (T k).2.2.1 = some ty

section
variable {E : jm_Ev} {X : jm_Lay} {own : String} {cc : ByteArray} {nL d n : Nat} {ret : Option FieldType} {z : Option Value → jm_M → Prop} {w : Nat → jm_LV → List Value → jm_M → Prop}
variable {τ : Type} {pc pc' : Nat} {lv : jm_LV} {st : List Value} {M : jm_M} {o : Option τ} {K : τ → Prop}

theorem jm_iconst {q : Int} {v : Int32} (F : jm_F E X own cc nL ret d n z w) (hd : jm_d cc pc (.iconst q) 1 pc') (hv : Int32.ofInt q = v) (k : jm_G w pc' lv (.int v :: st) M o K) : jm_G w pc lv (st) M o K := by
  intro r h1 h2
  have k := k r h1 h2
  obtain ⟨p, e, s, m, args, below, meth, c, rfl, hx, hb, hml, hown, hts, hr, hlk, hK, hdj, hZ⟩ := F
  obtain ⟨hd, rfl⟩ := hd
  intro ls H locs hl hP hS
  exact lv_iconst hx hb hd hv (k ls H locs hl hP hS)
theorem jm_bipush {q : Int} {v : Int32} (F : jm_F E X own cc nL ret d n z w) (hd : jm_d cc pc (.bipush q) 2 pc') (hv : (Int8.ofInt q).toInt32 = v) (k : jm_G w pc' lv (.int v :: st) M o K) : jm_G w pc lv (st) M o K := by
  intro r h1 h2
  have k := k r h1 h2
  obtain ⟨p, e, s, m, args, below, meth, c, rfl, hx, hb, hml, hown, hts, hr, hlk, hK, hdj, hZ⟩ := F
  obtain ⟨hd, rfl⟩ := hd
  intro ls H locs hl hP hS
  exact lv_bipush hx hb hd hv (k ls H locs hl hP hS)
theorem jm_sipush {q : Int} {v : Int32} (F : jm_F E X own cc nL ret d n z w) (hd : jm_d cc pc (.sipush q) 3 pc') (hv : (Int16.ofInt q).toInt32 = v) (k : jm_G w pc' lv (.int v :: st) M o K) : jm_G w pc lv (st) M o K := by
  intro r h1 h2
  have k := k r h1 h2
  obtain ⟨p, e, s, m, args, below, meth, c, rfl, hx, hb, hml, hown, hts, hr, hlk, hK, hdj, hZ⟩ := F
  obtain ⟨hd, rfl⟩ := hd
  intro ls H locs hl hP hS
  exact lv_sipush hx hb hd hv (k ls H locs hl hP hS)
theorem jm_lconst {q : Fin 2} {v : Int64} (F : jm_F E X own cc nL ret d n z w) (hd : jm_d cc pc (.lconst q) 1 pc') (hv : Int64.ofNat (q : Nat) = v) (k : jm_G w pc' lv (.long v :: st) M o K) : jm_G w pc lv (st) M o K := by
  intro r h1 h2
  have k := k r h1 h2
  obtain ⟨p, e, s, m, args, below, meth, c, rfl, hx, hb, hml, hown, hts, hr, hlk, hK, hdj, hZ⟩ := F
  obtain ⟨hd, rfl⟩ := hd
  intro ls H locs hl hP hS
  exact lv_lconst hx hb hd hv (k ls H locs hl hP hS)
theorem jm_iload_n {q : Fin 4} {i : Nat} {x : Int32} (F : jm_F E X own cc nL ret d n z w) (hd : jm_d cc pc (.iload_n q) 1 pc') (hi : (q : Nat) = i) (hv : lv[i]? = some (some (.int x))) (k : jm_G w pc' lv (.int x :: st) M o K) : jm_G w pc lv (st) M o K := by
  intro r h1 h2
  have k := k r h1 h2
  obtain ⟨p, e, s, m, args, below, meth, c, rfl, hx, hb, hml, hown, hts, hr, hlk, hK, hdj, hZ⟩ := F
  obtain ⟨hd, rfl⟩ := hd
  intro ls H locs hl hP hS
  exact lv_iload_n hx hb hd hi (hl.2.2 i _ hv) (k ls H locs hl hP hS)
theorem jm_iload {i : Nat} {x : Int32} (F : jm_F E X own cc nL ret d n z w) (hd : jm_d cc pc (.iload i) 2 pc') (hv : lv[i]? = some (some (.int x))) (k : jm_G w pc' lv (.int x :: st) M o K) : jm_G w pc lv (st) M o K := by
  intro r h1 h2
  have k := k r h1 h2
  obtain ⟨p, e, s, m, args, below, meth, c, rfl, hx, hb, hml, hown, hts, hr, hlk, hK, hdj, hZ⟩ := F
  obtain ⟨hd, rfl⟩ := hd
  intro ls H locs hl hP hS
  exact lv_iload hx hb hd (hl.2.2 i _ hv) (k ls H locs hl hP hS)
theorem jm_lload_n {q : Fin 4} {i : Nat} {x : Int64} (F : jm_F E X own cc nL ret d n z w) (hd : jm_d cc pc (.lload_n q) 1 pc') (hi : (q : Nat) = i) (hv : lv[i]? = some (some (.long x))) (k : jm_G w pc' lv (.long x :: st) M o K) : jm_G w pc lv (st) M o K := by
  intro r h1 h2
  have k := k r h1 h2
  obtain ⟨p, e, s, m, args, below, meth, c, rfl, hx, hb, hml, hown, hts, hr, hlk, hK, hdj, hZ⟩ := F
  obtain ⟨hd, rfl⟩ := hd
  intro ls H locs hl hP hS
  exact lv_lload_n hx hb hd hi (hl.2.2 i _ hv) (k ls H locs hl hP hS)
theorem jm_lload {i : Nat} {x : Int64} (F : jm_F E X own cc nL ret d n z w) (hd : jm_d cc pc (.lload i) 2 pc') (hv : lv[i]? = some (some (.long x))) (k : jm_G w pc' lv (.long x :: st) M o K) : jm_G w pc lv (st) M o K := by
  intro r h1 h2
  have k := k r h1 h2
  obtain ⟨p, e, s, m, args, below, meth, c, rfl, hx, hb, hml, hown, hts, hr, hlk, hK, hdj, hZ⟩ := F
  obtain ⟨hd, rfl⟩ := hd
  intro ls H locs hl hP hS
  exact lv_lload hx hb hd (hl.2.2 i _ hv) (k ls H locs hl hP hS)
theorem jm_aload_n {q : Fin 4} {i : Nat} {x : Nat} (F : jm_F E X own cc nL ret d n z w) (hd : jm_d cc pc (.aload_n q) 1 pc') (hi : (q : Nat) = i) (hv : lv[i]? = some (some (.ref x))) (k : jm_G w pc' lv (.ref x :: st) M o K) : jm_G w pc lv (st) M o K := by
  intro r h1 h2
  have k := k r h1 h2
  obtain ⟨p, e, s, m, args, below, meth, c, rfl, hx, hb, hml, hown, hts, hr, hlk, hK, hdj, hZ⟩ := F
  obtain ⟨hd, rfl⟩ := hd
  intro ls H locs hl hP hS
  exact lv_aload_n hx hb hd hi (hl.2.2 i _ hv) (k ls H locs hl hP hS)
theorem jm_aload {i : Nat} {x : Nat} (F : jm_F E X own cc nL ret d n z w) (hd : jm_d cc pc (.aload i) 2 pc') (hv : lv[i]? = some (some (.ref x))) (k : jm_G w pc' lv (.ref x :: st) M o K) : jm_G w pc lv (st) M o K := by
  intro r h1 h2
  have k := k r h1 h2
  obtain ⟨p, e, s, m, args, below, meth, c, rfl, hx, hb, hml, hown, hts, hr, hlk, hK, hdj, hZ⟩ := F
  obtain ⟨hd, rfl⟩ := hd
  intro ls H locs hl hP hS
  exact lv_aload hx hb hd (hl.2.2 i _ hv) (k ls H locs hl hP hS)
theorem jm_iadd {x y : Int32} (F : jm_F E X own cc nL ret d n z w) (hd : jm_d cc pc (.iadd) 1 pc') (k : jm_G w pc' lv (.int (x + y) :: st) M o K) : jm_G w pc lv (.int y :: .int x :: st) M o K := by
  intro r h1 h2
  have k := k r h1 h2
  obtain ⟨p, e, s, m, args, below, meth, c, rfl, hx, hb, hml, hown, hts, hr, hlk, hK, hdj, hZ⟩ := F
  obtain ⟨hd, rfl⟩ := hd
  intro ls H locs hl hP hS
  exact lv_iadd hx hb hd (k ls H locs hl hP hS)
theorem jm_isub {x y : Int32} (F : jm_F E X own cc nL ret d n z w) (hd : jm_d cc pc (.isub) 1 pc') (k : jm_G w pc' lv (.int (x - y) :: st) M o K) : jm_G w pc lv (.int y :: .int x :: st) M o K := by
  intro r h1 h2
  have k := k r h1 h2
  obtain ⟨p, e, s, m, args, below, meth, c, rfl, hx, hb, hml, hown, hts, hr, hlk, hK, hdj, hZ⟩ := F
  obtain ⟨hd, rfl⟩ := hd
  intro ls H locs hl hP hS
  exact lv_isub hx hb hd (k ls H locs hl hP hS)
theorem jm_imul {x y : Int32} (F : jm_F E X own cc nL ret d n z w) (hd : jm_d cc pc (.imul) 1 pc') (k : jm_G w pc' lv (.int (x * y) :: st) M o K) : jm_G w pc lv (.int y :: .int x :: st) M o K := by
  intro r h1 h2
  have k := k r h1 h2
  obtain ⟨p, e, s, m, args, below, meth, c, rfl, hx, hb, hml, hown, hts, hr, hlk, hK, hdj, hZ⟩ := F
  obtain ⟨hd, rfl⟩ := hd
  intro ls H locs hl hP hS
  exact lv_imul hx hb hd (k ls H locs hl hP hS)
theorem jm_iand {x y : Int32} (F : jm_F E X own cc nL ret d n z w) (hd : jm_d cc pc (.iand) 1 pc') (k : jm_G w pc' lv (.int (x &&& y) :: st) M o K) : jm_G w pc lv (.int y :: .int x :: st) M o K := by
  intro r h1 h2
  have k := k r h1 h2
  obtain ⟨p, e, s, m, args, below, meth, c, rfl, hx, hb, hml, hown, hts, hr, hlk, hK, hdj, hZ⟩ := F
  obtain ⟨hd, rfl⟩ := hd
  intro ls H locs hl hP hS
  exact lv_iand hx hb hd (k ls H locs hl hP hS)
theorem jm_ior {x y : Int32} (F : jm_F E X own cc nL ret d n z w) (hd : jm_d cc pc (.ior) 1 pc') (k : jm_G w pc' lv (.int (x ||| y) :: st) M o K) : jm_G w pc lv (.int y :: .int x :: st) M o K := by
  intro r h1 h2
  have k := k r h1 h2
  obtain ⟨p, e, s, m, args, below, meth, c, rfl, hx, hb, hml, hown, hts, hr, hlk, hK, hdj, hZ⟩ := F
  obtain ⟨hd, rfl⟩ := hd
  intro ls H locs hl hP hS
  exact lv_ior hx hb hd (k ls H locs hl hP hS)
theorem jm_ixor {x y : Int32} (F : jm_F E X own cc nL ret d n z w) (hd : jm_d cc pc (.ixor) 1 pc') (k : jm_G w pc' lv (.int (x ^^^ y) :: st) M o K) : jm_G w pc lv (.int y :: .int x :: st) M o K := by
  intro r h1 h2
  have k := k r h1 h2
  obtain ⟨p, e, s, m, args, below, meth, c, rfl, hx, hb, hml, hown, hts, hr, hlk, hK, hdj, hZ⟩ := F
  obtain ⟨hd, rfl⟩ := hd
  intro ls H locs hl hP hS
  exact lv_ixor hx hb hd (k ls H locs hl hP hS)
theorem jm_ishl {x y : Int32} (F : jm_F E X own cc nL ret d n z w) (hd : jm_d cc pc (.ishl) 1 pc') (k : jm_G w pc' lv (.int (x <<< (y &&& 31)) :: st) M o K) : jm_G w pc lv (.int y :: .int x :: st) M o K := by
  intro r h1 h2
  have k := k r h1 h2
  obtain ⟨p, e, s, m, args, below, meth, c, rfl, hx, hb, hml, hown, hts, hr, hlk, hK, hdj, hZ⟩ := F
  obtain ⟨hd, rfl⟩ := hd
  intro ls H locs hl hP hS
  exact lv_ishl hx hb hd (k ls H locs hl hP hS)
theorem jm_ishr {x y : Int32} (F : jm_F E X own cc nL ret d n z w) (hd : jm_d cc pc (.ishr) 1 pc') (k : jm_G w pc' lv (.int (x >>> (y &&& 31)) :: st) M o K) : jm_G w pc lv (.int y :: .int x :: st) M o K := by
  intro r h1 h2
  have k := k r h1 h2
  obtain ⟨p, e, s, m, args, below, meth, c, rfl, hx, hb, hml, hown, hts, hr, hlk, hK, hdj, hZ⟩ := F
  obtain ⟨hd, rfl⟩ := hd
  intro ls H locs hl hP hS
  exact lv_ishr hx hb hd (k ls H locs hl hP hS)
theorem jm_ladd {x y : Int64} (F : jm_F E X own cc nL ret d n z w) (hd : jm_d cc pc (.ladd) 1 pc') (k : jm_G w pc' lv (.long (x + y) :: st) M o K) : jm_G w pc lv (.long y :: .long x :: st) M o K := by
  intro r h1 h2
  have k := k r h1 h2
  obtain ⟨p, e, s, m, args, below, meth, c, rfl, hx, hb, hml, hown, hts, hr, hlk, hK, hdj, hZ⟩ := F
  obtain ⟨hd, rfl⟩ := hd
  intro ls H locs hl hP hS
  exact lv_ladd hx hb hd (k ls H locs hl hP hS)
theorem jm_lsub {x y : Int64} (F : jm_F E X own cc nL ret d n z w) (hd : jm_d cc pc (.lsub) 1 pc') (k : jm_G w pc' lv (.long (x - y) :: st) M o K) : jm_G w pc lv (.long y :: .long x :: st) M o K := by
  intro r h1 h2
  have k := k r h1 h2
  obtain ⟨p, e, s, m, args, below, meth, c, rfl, hx, hb, hml, hown, hts, hr, hlk, hK, hdj, hZ⟩ := F
  obtain ⟨hd, rfl⟩ := hd
  intro ls H locs hl hP hS
  exact lv_lsub hx hb hd (k ls H locs hl hP hS)
theorem jm_lmul {x y : Int64} (F : jm_F E X own cc nL ret d n z w) (hd : jm_d cc pc (.lmul) 1 pc') (k : jm_G w pc' lv (.long (x * y) :: st) M o K) : jm_G w pc lv (.long y :: .long x :: st) M o K := by
  intro r h1 h2
  have k := k r h1 h2
  obtain ⟨p, e, s, m, args, below, meth, c, rfl, hx, hb, hml, hown, hts, hr, hlk, hK, hdj, hZ⟩ := F
  obtain ⟨hd, rfl⟩ := hd
  intro ls H locs hl hP hS
  exact lv_lmul hx hb hd (k ls H locs hl hP hS)
theorem jm_iushr {x y : Int32} (F : jm_F E X own cc nL ret d n z w) (hd : jm_d cc pc (.iushr) 1 pc') (k : jm_G w pc' lv (.int (x.toUInt32 >>> (y.toUInt32 &&& Int32.toUInt32 31)).toInt32 :: st) M o K) : jm_G w pc lv (.int y :: .int x :: st) M o K := by
  intro r h1 h2
  have k := k r h1 h2
  obtain ⟨p, e, s, m, args, below, meth, c, rfl, hx, hb, hml, hown, hts, hr, hlk, hK, hdj, hZ⟩ := F
  obtain ⟨hd, rfl⟩ := hd
  intro ls H locs hl hP hS
  exact lv_iushr hx hb hd rfl (k ls H locs hl hP hS)
theorem jm_ineg {x : Int32} (F : jm_F E X own cc nL ret d n z w) (hd : jm_d cc pc (.ineg) 1 pc') (k : jm_G w pc' lv (.int (-x) :: st) M o K) : jm_G w pc lv (.int x :: st) M o K := by
  intro r h1 h2
  have k := k r h1 h2
  obtain ⟨p, e, s, m, args, below, meth, c, rfl, hx, hb, hml, hown, hts, hr, hlk, hK, hdj, hZ⟩ := F
  obtain ⟨hd, rfl⟩ := hd
  intro ls H locs hl hP hS
  exact lv_ineg hx hb hd (k ls H locs hl hP hS)
theorem jm_i2l {x : Int32} (F : jm_F E X own cc nL ret d n z w) (hd : jm_d cc pc (.i2l) 1 pc') (k : jm_G w pc' lv (.long x.toInt64 :: st) M o K) : jm_G w pc lv (.int x :: st) M o K := by
  intro r h1 h2
  have k := k r h1 h2
  obtain ⟨p, e, s, m, args, below, meth, c, rfl, hx, hb, hml, hown, hts, hr, hlk, hK, hdj, hZ⟩ := F
  obtain ⟨hd, rfl⟩ := hd
  intro ls H locs hl hP hS
  exact lv_i2l hx hb hd rfl (k ls H locs hl hP hS)
theorem jm_lcmp {x y : Int64} (F : jm_F E X own cc nL ret d n z w) (hd : jm_d cc pc (.lcmp) 1 pc') (k : jm_G w pc' lv (.int (lg_cmp x y) :: st) M o K) : jm_G w pc lv (.long y :: .long x :: st) M o K := by
  intro r h1 h2
  have k := k r h1 h2
  obtain ⟨p, e, s, m, args, below, meth, c, rfl, hx, hb, hml, hown, hts, hr, hlk, hK, hdj, hZ⟩ := F
  obtain ⟨hd, rfl⟩ := hd
  intro ls H locs hl hP hS
  exact W.lcmp hx hb hd (k ls H locs hl hP hS)
theorem jm_dup {v : Value} (F : jm_F E X own cc nL ret d n z w) (hd : jm_d cc pc (.dup) 1 pc') (hv : v.category = 1) (k : jm_G w pc' lv (v :: v :: st) M o K) : jm_G w pc lv (v :: st) M o K := by
  intro r h1 h2
  have k := k r h1 h2
  obtain ⟨p, e, s, m, args, below, meth, c, rfl, hx, hb, hml, hown, hts, hr, hlk, hK, hdj, hZ⟩ := F
  obtain ⟨hd, rfl⟩ := hd
  intro ls H locs hl hP hS
  exact lv_dup hx hb hd hv (k ls H locs hl hP hS)
theorem jm_dup2 {u v : Value} (F : jm_F E X own cc nL ret d n z w) (hd : jm_d cc pc (.dup2) 1 pc') (hu : u.category = 1) (hv : v.category = 1) (k : jm_G w pc' lv (u :: v :: u :: v :: st) M o K) : jm_G w pc lv (u :: v :: st) M o K := by
  intro r h1 h2
  have k := k r h1 h2
  obtain ⟨p, e, s, m, args, below, meth, c, rfl, hx, hb, hml, hown, hts, hr, hlk, hK, hdj, hZ⟩ := F
  obtain ⟨hd, rfl⟩ := hd
  intro ls H locs hl hP hS
  exact lv_dup2_11 hx hb hd hu hv (k ls H locs hl hP hS)
theorem jm_pop {v : Value} (F : jm_F E X own cc nL ret d n z w) (hd : jm_d cc pc (.pop) 1 pc') (hv : v.category = 1) (k : jm_G w pc' lv (st) M o K) : jm_G w pc lv (v :: st) M o K := by
  intro r h1 h2
  have k := k r h1 h2
  obtain ⟨p, e, s, m, args, below, meth, c, rfl, hx, hb, hml, hown, hts, hr, hlk, hK, hdj, hZ⟩ := F
  obtain ⟨hd, rfl⟩ := hd
  intro ls H locs hl hP hS
  exact lv_pop hx hb hd hv (k ls H locs hl hP hS)
theorem jm_ldc {q : Nat} {v : Int32} (F : jm_F E X own cc nL ret d n z w) (hd : jm_d cc pc (.ldc q) 2 pc') (hv : Cond.constant own q v ∈ jm_tb) (k : jm_G w pc' lv (.int v :: st) M o K) : jm_G w pc lv (st) M o K := by
  intro r h1 h2
  have k := k r h1 h2
  obtain ⟨p, e, s, m, args, below, meth, c, rfl, hx, hb, hml, hown, hts, hr, hlk, hK, hdj, hZ⟩ := F
  obtain ⟨hd, rfl⟩ := hd
  intro ls H locs hl hP hS
  exact lv_ldc hx hb hown (hts _ hv) hd (k ls H locs hl hP hS)
theorem jm_ldcw {q : Nat} {v : Int32} (F : jm_F E X own cc nL ret d n z w) (hd : jm_d cc pc (.ldc_w q) 3 pc') (hv : Cond.constant own q v ∈ jm_tb) (k : jm_G w pc' lv (.int v :: st) M o K) : jm_G w pc lv (st) M o K := by
  intro r h1 h2
  have k := k r h1 h2
  obtain ⟨p, e, s, m, args, below, meth, c, rfl, hx, hb, hml, hown, hts, hr, hlk, hK, hdj, hZ⟩ := F
  obtain ⟨hd, rfl⟩ := hd
  intro ls H locs hl hP hS
  exact lv_ldcw hx hb hown (hts _ hv) hd (k ls H locs hl hP hS)
theorem jm_ldc2 {q : Nat} {v : Int64} (F : jm_F E X own cc nL ret d n z w) (hd : jm_d cc pc (.ldc2_w q) 3 pc') (hv : Cond.constantLong own q v ∈ jm_tb) (k : jm_G w pc' lv (.long v :: st) M o K) : jm_G w pc lv (st) M o K := by
  intro r h1 h2
  have k := k r h1 h2
  obtain ⟨p, e, s, m, args, below, meth, c, rfl, hx, hb, hml, hown, hts, hr, hlk, hK, hdj, hZ⟩ := F
  obtain ⟨hd, rfl⟩ := hd
  intro ls H locs hl hP hS
  exact lv_ldc2 hx hb hown (hts _ hv) hd (k ls H locs hl hP hS)
theorem jm_idiv {x y : Int32} {g : Int32 → Option τ} (F : jm_F E X own cc nL ret d n z w) (hd : jm_d cc pc .idiv 1 pc') (k : ∀ v, jm_G w pc' lv (.int v :: st) M (g v) K) : jm_G w pc lv (.int y :: .int x :: st) M ((jm_dv x y).bind g) K := by
  intro r h1 h2
  unfold jm_dv at h1
  split at h1
  · cases h1
  next hy =>
  have k := k _ r h1 h2
  obtain ⟨p, e, s, m, args, below, meth, c, rfl, hx, hb, hml, hown, hts, hr, hlk, hK, hdj, hZ⟩ := F
  obtain ⟨hd, rfl⟩ := hd
  intro ls H locs hl hP hS
  exact lv_idiv hx hb hd hy (k ls H locs hl hP hS)
theorem jm_irem {x y : Int32} {g : Int32 → Option τ} (F : jm_F E X own cc nL ret d n z w) (hd : jm_d cc pc .irem 1 pc') (k : ∀ v, jm_G w pc' lv (.int v :: st) M (g v) K) : jm_G w pc lv (.int y :: .int x :: st) M ((jm_rm x y).bind g) K := by
  intro r h1 h2
  unfold jm_rm at h1
  split at h1
  · cases h1
  next hy =>
  have k := k _ r h1 h2
  obtain ⟨p, e, s, m, args, below, meth, c, rfl, hx, hb, hml, hown, hts, hr, hlk, hK, hdj, hZ⟩ := F
  obtain ⟨hd, rfl⟩ := hd
  intro ls H locs hl hP hS
  exact lv_irem hx hb hd hy (k ls H locs hl hP hS)
theorem jm_ldiv {x y : Int64} {g : Int64 → Option τ} (F : jm_F E X own cc nL ret d n z w) (hd : jm_d cc pc .ldiv 1 pc') (k : ∀ v, jm_G w pc' lv (.long v :: st) M (g v) K) : jm_G w pc lv (.long y :: .long x :: st) M ((jm_ldv x y).bind g) K := by
  intro r h1 h2
  unfold jm_ldv at h1
  split at h1
  · cases h1
  next hy =>
  have k := k _ r h1 h2
  obtain ⟨p, e, s, m, args, below, meth, c, rfl, hx, hb, hml, hown, hts, hr, hlk, hK, hdj, hZ⟩ := F
  obtain ⟨hd, rfl⟩ := hd
  intro ls H locs hl hP hS
  exact lv_ldiv hx hb hd hy (k ls H locs hl hP hS)
theorem jm_lrem {x y : Int64} {g : Int64 → Option τ} (F : jm_F E X own cc nL ret d n z w) (hd : jm_d cc pc .lrem 1 pc') (k : ∀ v, jm_G w pc' lv (.long v :: st) M (g v) K) : jm_G w pc lv (.long y :: .long x :: st) M ((jm_lrm x y).bind g) K := by
  intro r h1 h2
  unfold jm_lrm at h1
  split at h1
  · cases h1
  next hy =>
  have k := k _ r h1 h2
  obtain ⟨p, e, s, m, args, below, meth, c, rfl, hx, hb, hml, hown, hts, hr, hlk, hK, hdj, hZ⟩ := F
  obtain ⟨hd, rfl⟩ := hd
  intro ls H locs hl hP hS
  exact lv_lrem hx hb hd hy (k ls H locs hl hP hS)
theorem jm_istore_n {q : Fin 4} {i : Nat} {x : Int32} {lv' : jm_LV} (F : jm_F E X own cc nL ret d n z w) (hd : jm_d cc pc (.istore_n q) 1 pc') (hi : (q : Nat) = i) (hn : i < nL) (hc : jm_c1 lv i = true) (hs : lv.set i (some (.int x)) = lv') (k : jm_G w pc' lv' st M o K) : jm_G w pc lv (.int x :: st) M o K := by
  intro r h1 h2
  have k := k r h1 h2
  obtain ⟨p, e, s, m, args, below, meth, c, rfl, hx, hb, hml, hown, hts, hr, hlk, hK, hdj, hZ⟩ := F
  obtain ⟨hd, rfl⟩ := hd
  subst hs
  intro ls H locs hl hP hS
  exact lv_istore_n hx hb hd hi (jm_lv_has hl) hn rfl (fun ls' hl' => k ls' H locs (jm_lv_st1 hc hl') hP hS)
theorem jm_istore {i : Nat} {x : Int32} {lv' : jm_LV} (F : jm_F E X own cc nL ret d n z w) (hd : jm_d cc pc (.istore i) 2 pc') (hn : i < nL) (hc : jm_c1 lv i = true) (hs : lv.set i (some (.int x)) = lv') (k : jm_G w pc' lv' st M o K) : jm_G w pc lv (.int x :: st) M o K := by
  intro r h1 h2
  have k := k r h1 h2
  obtain ⟨p, e, s, m, args, below, meth, c, rfl, hx, hb, hml, hown, hts, hr, hlk, hK, hdj, hZ⟩ := F
  obtain ⟨hd, rfl⟩ := hd
  subst hs
  intro ls H locs hl hP hS
  exact lv_istore hx hb hd (jm_lv_has hl) hn rfl (fun ls' hl' => k ls' H locs (jm_lv_st1 hc hl') hP hS)
theorem jm_astore_n {q : Fin 4} {i : Nat} {x : Nat} {lv' : jm_LV} (F : jm_F E X own cc nL ret d n z w) (hd : jm_d cc pc (.astore_n q) 1 pc') (hi : (q : Nat) = i) (hn : i < nL) (hc : jm_c1 lv i = true) (hs : lv.set i (some (.ref x)) = lv') (k : jm_G w pc' lv' st M o K) : jm_G w pc lv (.ref x :: st) M o K := by
  intro r h1 h2
  have k := k r h1 h2
  obtain ⟨p, e, s, m, args, below, meth, c, rfl, hx, hb, hml, hown, hts, hr, hlk, hK, hdj, hZ⟩ := F
  obtain ⟨hd, rfl⟩ := hd
  subst hs
  intro ls H locs hl hP hS
  exact lv_astore_n hx hb hd hi (jm_lv_has hl) hn rfl (fun ls' hl' => k ls' H locs (jm_lv_st1 hc hl') hP hS)
theorem jm_astore {i : Nat} {x : Nat} {lv' : jm_LV} (F : jm_F E X own cc nL ret d n z w) (hd : jm_d cc pc (.astore i) 2 pc') (hn : i < nL) (hc : jm_c1 lv i = true) (hs : lv.set i (some (.ref x)) = lv') (k : jm_G w pc' lv' st M o K) : jm_G w pc lv (.ref x :: st) M o K := by
  intro r h1 h2
  have k := k r h1 h2
  obtain ⟨p, e, s, m, args, below, meth, c, rfl, hx, hb, hml, hown, hts, hr, hlk, hK, hdj, hZ⟩ := F
  obtain ⟨hd, rfl⟩ := hd
  subst hs
  intro ls H locs hl hP hS
  exact lv_astore hx hb hd (jm_lv_has hl) hn rfl (fun ls' hl' => k ls' H locs (jm_lv_st1 hc hl') hP hS)
theorem jm_lstore_n {q : Fin 4} {i : Nat} {x : Int64} {lv' : jm_LV} (F : jm_F E X own cc nL ret d n z w) (hd : jm_d cc pc (.lstore_n q) 1 pc') (hi : (q : Nat) = i) (hn : i + 1 < nL) (hc : jm_c1 lv i = true) (hs : (lv.set i (some (.long x))).set (i + 1) none = lv') (k : jm_G w pc' lv' st M o K) : jm_G w pc lv (.long x :: st) M o K := by
  intro r h1 h2
  have k := k r h1 h2
  obtain ⟨p, e, s, m, args, below, meth, c, rfl, hx, hb, hml, hown, hts, hr, hlk, hK, hdj, hZ⟩ := F
  obtain ⟨hd, rfl⟩ := hd
  subst hs
  intro ls H locs hl hP hS
  exact lv_lstore_n hx hb hd hi (jm_lv_has hl) hn rfl (fun ls' hl' => k ls' H locs (jm_lv_st2 hc hl') hP hS)
theorem jm_lstore {i : Nat} {x : Int64} {lv' : jm_LV} (F : jm_F E X own cc nL ret d n z w) (hd : jm_d cc pc (.lstore i) 2 pc') (hn : i + 1 < nL) (hc : jm_c1 lv i = true) (hs : (lv.set i (some (.long x))).set (i + 1) none = lv') (k : jm_G w pc' lv' st M o K) : jm_G w pc lv (.long x :: st) M o K := by
  intro r h1 h2
  have k := k r h1 h2
  obtain ⟨p, e, s, m, args, below, meth, c, rfl, hx, hb, hml, hown, hts, hr, hlk, hK, hdj, hZ⟩ := F
  obtain ⟨hd, rfl⟩ := hd
  subst hs
  intro ls H locs hl hP hS
  exact lv_lstore hx hb hd (jm_lv_has hl) hn rfl (fun ls' hl' => k ls' H locs (jm_lv_st2 hc hl') hP hS)
theorem jm_iinc {i : Nat} {q : Int} {x v : Int32} {lv' : jm_LV} (F : jm_F E X own cc nL ret d n z w) (hd : jm_d cc pc (.iinc i q) 3 pc') (hv : Int32.ofInt q = v) (hx0 : lv[i]? = some (some (.int x))) (hn : i < nL) (hc : jm_c1 lv i = true) (hs : lv.set i (some (.int (x + v))) = lv') (k : jm_G w pc' lv' st M o K) : jm_G w pc lv st M o K := by
  intro r h1 h2
  have k := k r h1 h2
  obtain ⟨p, e, s, m, args, below, meth, c, rfl, hx, hb, hml, hown, hts, hr, hlk, hK, hdj, hZ⟩ := F
  obtain ⟨hd, rfl⟩ := hd
  subst hs
  subst hv
  intro ls H locs hl hP hS
  obtain ⟨j, hj⟩ := List.getElem?_of_mem (jm_pairs_mem hx0)
  exact lv_iinc hx hb hd (jm_lv_has hl) hj rfl hn rfl (fun ls' hl' => k ls' H locs (jm_lv_st1 hc hl') hP hS)
theorem jm_nameI {x : Int32} {g : Int32 → Option τ} {f : Int32 → List Value} (k : ∀ x, jm_G w pc lv (f x) M (g x) K) (hs : st = f x) : jm_G w pc lv st M ((some x).bind g) K := by
  subst hs
  exact k x
theorem jm_nameL {x : Int64} {g : Int64 → Option τ} {f : Int64 → List Value} (k : ∀ x, jm_G w pc lv (f x) M (g x) K) (hs : st = f x) : jm_G w pc lv st M ((some x).bind g) K := by
  subst hs
  exact k x
theorem jm_if_eq {x : Int32} {tgt : Nat} {A B : Option τ} (F : jm_F E X own cc nL ret d n z w) (hd : jm_b cc pc (.ifCond .eq) pc' tgt) (kt : x = 0 → jm_G w tgt lv st M A K) (kf : ¬ x = 0 → jm_G w pc' lv st M B K) : jm_G w pc lv (.int x :: st) M (if x = 0 then A else B) K := by
  intro r h1 h2
  obtain ⟨off, hd, rfl, ht⟩ := hd
  by_cases hc : x = 0
  · rw [if_pos hc] at h1
    have k := kt hc r h1 h2
    obtain ⟨p, e, s, m, args, below, meth, c, rfl, hx, hb, hml, hown, hts, hr, hlk, hK, hdj, hZ⟩ := F
    intro ls H locs hl hP hS
    exact lv_if_eq hx hb hd ht (fun _ => (k ls H locs hl hP hS)) (fun h => absurd hc h)
  · rw [if_neg hc] at h1
    have k := kf hc r h1 h2
    obtain ⟨p, e, s, m, args, below, meth, c, rfl, hx, hb, hml, hown, hts, hr, hlk, hK, hdj, hZ⟩ := F
    intro ls H locs hl hP hS
    exact lv_if_eq hx hb hd ht (fun h => absurd h hc) (fun _ => (k ls H locs hl hP hS))
theorem jm_if_ne {x : Int32} {tgt : Nat} {A B : Option τ} (F : jm_F E X own cc nL ret d n z w) (hd : jm_b cc pc (.ifCond .ne) pc' tgt) (kf : x = 0 → jm_G w pc' lv st M A K) (kt : ¬ x = 0 → jm_G w tgt lv st M B K) : jm_G w pc lv (.int x :: st) M (if x = 0 then A else B) K := by
  intro r h1 h2
  obtain ⟨off, hd, rfl, ht⟩ := hd
  by_cases hc : x = 0
  · rw [if_pos hc] at h1
    have k := kf hc r h1 h2
    obtain ⟨p, e, s, m, args, below, meth, c, rfl, hx, hb, hml, hown, hts, hr, hlk, hK, hdj, hZ⟩ := F
    intro ls H locs hl hP hS
    exact lv_if_ne hx hb hd ht (fun h => absurd hc h) (fun _ => (k ls H locs hl hP hS))
  · rw [if_neg hc] at h1
    have k := kt hc r h1 h2
    obtain ⟨p, e, s, m, args, below, meth, c, rfl, hx, hb, hml, hown, hts, hr, hlk, hK, hdj, hZ⟩ := F
    intro ls H locs hl hP hS
    exact lv_if_ne hx hb hd ht (fun _ => (k ls H locs hl hP hS)) (fun h => absurd h hc)
theorem jm_if_lt {x : Int32} {tgt : Nat} {A B : Option τ} (F : jm_F E X own cc nL ret d n z w) (hd : jm_b cc pc (.ifCond .lt) pc' tgt) (kt : x < 0 → jm_G w tgt lv st M A K) (kf : ¬ x < 0 → jm_G w pc' lv st M B K) : jm_G w pc lv (.int x :: st) M (if x < 0 then A else B) K := by
  intro r h1 h2
  obtain ⟨off, hd, rfl, ht⟩ := hd
  by_cases hc : x < 0
  · rw [if_pos hc] at h1
    have k := kt hc r h1 h2
    obtain ⟨p, e, s, m, args, below, meth, c, rfl, hx, hb, hml, hown, hts, hr, hlk, hK, hdj, hZ⟩ := F
    intro ls H locs hl hP hS
    exact lv_if_lt hx hb hd ht (fun _ => (k ls H locs hl hP hS)) (fun h => absurd hc h)
  · rw [if_neg hc] at h1
    have k := kf hc r h1 h2
    obtain ⟨p, e, s, m, args, below, meth, c, rfl, hx, hb, hml, hown, hts, hr, hlk, hK, hdj, hZ⟩ := F
    intro ls H locs hl hP hS
    exact lv_if_lt hx hb hd ht (fun h => absurd h hc) (fun _ => (k ls H locs hl hP hS))
theorem jm_if_ge {x : Int32} {tgt : Nat} {A B : Option τ} (F : jm_F E X own cc nL ret d n z w) (hd : jm_b cc pc (.ifCond .ge) pc' tgt) (kt : 0 ≤ x → jm_G w tgt lv st M A K) (kf : ¬ 0 ≤ x → jm_G w pc' lv st M B K) : jm_G w pc lv (.int x :: st) M (if 0 ≤ x then A else B) K := by
  intro r h1 h2
  obtain ⟨off, hd, rfl, ht⟩ := hd
  by_cases hc : 0 ≤ x
  · rw [if_pos hc] at h1
    have k := kt hc r h1 h2
    obtain ⟨p, e, s, m, args, below, meth, c, rfl, hx, hb, hml, hown, hts, hr, hlk, hK, hdj, hZ⟩ := F
    intro ls H locs hl hP hS
    exact lv_if_ge hx hb hd ht (fun _ => (k ls H locs hl hP hS)) (fun h => absurd hc h)
  · rw [if_neg hc] at h1
    have k := kf hc r h1 h2
    obtain ⟨p, e, s, m, args, below, meth, c, rfl, hx, hb, hml, hown, hts, hr, hlk, hK, hdj, hZ⟩ := F
    intro ls H locs hl hP hS
    exact lv_if_ge hx hb hd ht (fun h => absurd h hc) (fun _ => (k ls H locs hl hP hS))
theorem jm_if_gt {x : Int32} {tgt : Nat} {A B : Option τ} (F : jm_F E X own cc nL ret d n z w) (hd : jm_b cc pc (.ifCond .gt) pc' tgt) (kt : 0 < x → jm_G w tgt lv st M A K) (kf : ¬ 0 < x → jm_G w pc' lv st M B K) : jm_G w pc lv (.int x :: st) M (if 0 < x then A else B) K := by
  intro r h1 h2
  obtain ⟨off, hd, rfl, ht⟩ := hd
  by_cases hc : 0 < x
  · rw [if_pos hc] at h1
    have k := kt hc r h1 h2
    obtain ⟨p, e, s, m, args, below, meth, c, rfl, hx, hb, hml, hown, hts, hr, hlk, hK, hdj, hZ⟩ := F
    intro ls H locs hl hP hS
    exact lv_if_gt hx hb hd ht (fun _ => (k ls H locs hl hP hS)) (fun h => absurd hc h)
  · rw [if_neg hc] at h1
    have k := kf hc r h1 h2
    obtain ⟨p, e, s, m, args, below, meth, c, rfl, hx, hb, hml, hown, hts, hr, hlk, hK, hdj, hZ⟩ := F
    intro ls H locs hl hP hS
    exact lv_if_gt hx hb hd ht (fun h => absurd h hc) (fun _ => (k ls H locs hl hP hS))
theorem jm_if_le {x : Int32} {tgt : Nat} {A B : Option τ} (F : jm_F E X own cc nL ret d n z w) (hd : jm_b cc pc (.ifCond .le) pc' tgt) (kt : x ≤ 0 → jm_G w tgt lv st M A K) (kf : ¬ x ≤ 0 → jm_G w pc' lv st M B K) : jm_G w pc lv (.int x :: st) M (if x ≤ 0 then A else B) K := by
  intro r h1 h2
  obtain ⟨off, hd, rfl, ht⟩ := hd
  by_cases hc : x ≤ 0
  · rw [if_pos hc] at h1
    have k := kt hc r h1 h2
    obtain ⟨p, e, s, m, args, below, meth, c, rfl, hx, hb, hml, hown, hts, hr, hlk, hK, hdj, hZ⟩ := F
    intro ls H locs hl hP hS
    exact lv_if_le hx hb hd ht (fun _ => (k ls H locs hl hP hS)) (fun h => absurd hc h)
  · rw [if_neg hc] at h1
    have k := kf hc r h1 h2
    obtain ⟨p, e, s, m, args, below, meth, c, rfl, hx, hb, hml, hown, hts, hr, hlk, hK, hdj, hZ⟩ := F
    intro ls H locs hl hP hS
    exact lv_if_le hx hb hd ht (fun h => absurd h hc) (fun _ => (k ls H locs hl hP hS))
theorem jm_icmp_eq {x y : Int32} {tgt : Nat} {A B : Option τ} (F : jm_F E X own cc nL ret d n z w) (hd : jm_b cc pc (.if_icmp .eq) pc' tgt) (kt : x = y → jm_G w tgt lv st M A K) (kf : ¬ x = y → jm_G w pc' lv st M B K) : jm_G w pc lv (.int y :: .int x :: st) M (if x = y then A else B) K := by
  intro r h1 h2
  obtain ⟨off, hd, rfl, ht⟩ := hd
  by_cases hc : x = y
  · rw [if_pos hc] at h1
    have k := kt hc r h1 h2
    obtain ⟨p, e, s, m, args, below, meth, c, rfl, hx, hb, hml, hown, hts, hr, hlk, hK, hdj, hZ⟩ := F
    intro ls H locs hl hP hS
    exact lv_icmp_eq hx hb hd ht (fun _ => (k ls H locs hl hP hS)) (fun h => absurd hc h)
  · rw [if_neg hc] at h1
    have k := kf hc r h1 h2
    obtain ⟨p, e, s, m, args, below, meth, c, rfl, hx, hb, hml, hown, hts, hr, hlk, hK, hdj, hZ⟩ := F
    intro ls H locs hl hP hS
    exact lv_icmp_eq hx hb hd ht (fun h => absurd h hc) (fun _ => (k ls H locs hl hP hS))
theorem jm_icmp_ne {x y : Int32} {tgt : Nat} {A B : Option τ} (F : jm_F E X own cc nL ret d n z w) (hd : jm_b cc pc (.if_icmp .ne) pc' tgt) (kf : x = y → jm_G w pc' lv st M A K) (kt : ¬ x = y → jm_G w tgt lv st M B K) : jm_G w pc lv (.int y :: .int x :: st) M (if x = y then A else B) K := by
  intro r h1 h2
  obtain ⟨off, hd, rfl, ht⟩ := hd
  by_cases hc : x = y
  · rw [if_pos hc] at h1
    have k := kf hc r h1 h2
    obtain ⟨p, e, s, m, args, below, meth, c, rfl, hx, hb, hml, hown, hts, hr, hlk, hK, hdj, hZ⟩ := F
    intro ls H locs hl hP hS
    exact lv_icmp_ne hx hb hd ht (fun h => absurd hc h) (fun _ => (k ls H locs hl hP hS))
  · rw [if_neg hc] at h1
    have k := kt hc r h1 h2
    obtain ⟨p, e, s, m, args, below, meth, c, rfl, hx, hb, hml, hown, hts, hr, hlk, hK, hdj, hZ⟩ := F
    intro ls H locs hl hP hS
    exact lv_icmp_ne hx hb hd ht (fun _ => (k ls H locs hl hP hS)) (fun h => absurd h hc)
theorem jm_icmp_lt {x y : Int32} {tgt : Nat} {A B : Option τ} (F : jm_F E X own cc nL ret d n z w) (hd : jm_b cc pc (.if_icmp .lt) pc' tgt) (kt : x < y → jm_G w tgt lv st M A K) (kf : ¬ x < y → jm_G w pc' lv st M B K) : jm_G w pc lv (.int y :: .int x :: st) M (if x < y then A else B) K := by
  intro r h1 h2
  obtain ⟨off, hd, rfl, ht⟩ := hd
  by_cases hc : x < y
  · rw [if_pos hc] at h1
    have k := kt hc r h1 h2
    obtain ⟨p, e, s, m, args, below, meth, c, rfl, hx, hb, hml, hown, hts, hr, hlk, hK, hdj, hZ⟩ := F
    intro ls H locs hl hP hS
    exact lv_icmp_lt hx hb hd ht (fun _ => (k ls H locs hl hP hS)) (fun h => absurd hc h)
  · rw [if_neg hc] at h1
    have k := kf hc r h1 h2
    obtain ⟨p, e, s, m, args, below, meth, c, rfl, hx, hb, hml, hown, hts, hr, hlk, hK, hdj, hZ⟩ := F
    intro ls H locs hl hP hS
    exact lv_icmp_lt hx hb hd ht (fun h => absurd h hc) (fun _ => (k ls H locs hl hP hS))
theorem jm_icmp_ge {x y : Int32} {tgt : Nat} {A B : Option τ} (F : jm_F E X own cc nL ret d n z w) (hd : jm_b cc pc (.if_icmp .ge) pc' tgt) (kt : y ≤ x → jm_G w tgt lv st M A K) (kf : ¬ y ≤ x → jm_G w pc' lv st M B K) : jm_G w pc lv (.int y :: .int x :: st) M (if y ≤ x then A else B) K := by
  intro r h1 h2
  obtain ⟨off, hd, rfl, ht⟩ := hd
  by_cases hc : y ≤ x
  · rw [if_pos hc] at h1
    have k := kt hc r h1 h2
    obtain ⟨p, e, s, m, args, below, meth, c, rfl, hx, hb, hml, hown, hts, hr, hlk, hK, hdj, hZ⟩ := F
    intro ls H locs hl hP hS
    exact lv_icmp_ge hx hb hd ht (fun _ => (k ls H locs hl hP hS)) (fun h => absurd hc h)
  · rw [if_neg hc] at h1
    have k := kf hc r h1 h2
    obtain ⟨p, e, s, m, args, below, meth, c, rfl, hx, hb, hml, hown, hts, hr, hlk, hK, hdj, hZ⟩ := F
    intro ls H locs hl hP hS
    exact lv_icmp_ge hx hb hd ht (fun h => absurd h hc) (fun _ => (k ls H locs hl hP hS))
theorem jm_icmp_gt {x y : Int32} {tgt : Nat} {A B : Option τ} (F : jm_F E X own cc nL ret d n z w) (hd : jm_b cc pc (.if_icmp .gt) pc' tgt) (kt : y < x → jm_G w tgt lv st M A K) (kf : ¬ y < x → jm_G w pc' lv st M B K) : jm_G w pc lv (.int y :: .int x :: st) M (if y < x then A else B) K := by
  intro r h1 h2
  obtain ⟨off, hd, rfl, ht⟩ := hd
  by_cases hc : y < x
  · rw [if_pos hc] at h1
    have k := kt hc r h1 h2
    obtain ⟨p, e, s, m, args, below, meth, c, rfl, hx, hb, hml, hown, hts, hr, hlk, hK, hdj, hZ⟩ := F
    intro ls H locs hl hP hS
    exact lv_icmp_gt hx hb hd ht (fun _ => (k ls H locs hl hP hS)) (fun h => absurd hc h)
  · rw [if_neg hc] at h1
    have k := kf hc r h1 h2
    obtain ⟨p, e, s, m, args, below, meth, c, rfl, hx, hb, hml, hown, hts, hr, hlk, hK, hdj, hZ⟩ := F
    intro ls H locs hl hP hS
    exact lv_icmp_gt hx hb hd ht (fun h => absurd h hc) (fun _ => (k ls H locs hl hP hS))
theorem jm_icmp_le {x y : Int32} {tgt : Nat} {A B : Option τ} (F : jm_F E X own cc nL ret d n z w) (hd : jm_b cc pc (.if_icmp .le) pc' tgt) (kt : x ≤ y → jm_G w tgt lv st M A K) (kf : ¬ x ≤ y → jm_G w pc' lv st M B K) : jm_G w pc lv (.int y :: .int x :: st) M (if x ≤ y then A else B) K := by
  intro r h1 h2
  obtain ⟨off, hd, rfl, ht⟩ := hd
  by_cases hc : x ≤ y
  · rw [if_pos hc] at h1
    have k := kt hc r h1 h2
    obtain ⟨p, e, s, m, args, below, meth, c, rfl, hx, hb, hml, hown, hts, hr, hlk, hK, hdj, hZ⟩ := F
    intro ls H locs hl hP hS
    exact lv_icmp_le hx hb hd ht (fun _ => (k ls H locs hl hP hS)) (fun h => absurd hc h)
  · rw [if_neg hc] at h1
    have k := kf hc r h1 h2
    obtain ⟨p, e, s, m, args, below, meth, c, rfl, hx, hb, hml, hown, hts, hr, hlk, hK, hdj, hZ⟩ := F
    intro ls H locs hl hP hS
    exact lv_icmp_le hx hb hd ht (fun h => absurd h hc) (fun _ => (k ls H locs hl hP hS))
theorem jm_goto {tgt : Nat} (F : jm_F E X own cc nL ret d n z w) (hd : jm_b cc pc .goto pc' tgt) (k : jm_G w tgt lv st M o K) : jm_G w pc lv st M o K := by
  intro r h1 h2
  have k := k r h1 h2
  obtain ⟨p, e, s, m, args, below, meth, c, rfl, hx, hb, hml, hown, hts, hr, hlk, hK, hdj, hZ⟩ := F
  obtain ⟨off, hd, -, ht⟩ := hd
  intro ls H locs hl hP hS
  exact lv_goto hx hb hd ht (k ls H locs hl hP hS)
theorem jm_ifnull {x : Nat} {tgt : Nat} (F : jm_F E X own cc nL ret d n z w) (hd : jm_b cc pc .ifnull pc' tgt) (k : jm_G w pc' lv st M o K) : jm_G w pc lv (.ref x :: st) M o K := by
  intro r h1 h2
  have k := k r h1 h2
  obtain ⟨p, e, s, m, args, below, meth, c, rfl, hx, hb, hml, hown, hts, hr, hlk, hK, hdj, hZ⟩ := F
  obtain ⟨off, hd, rfl, ht⟩ := hd
  intro ls H locs hl hP hS
  exact lv_ifnull hx hb hd (k ls H locs hl hP hS)
theorem jm_ite {c : Prop} {inst : Decidable c} {A B : Option τ} (ka : c → jm_G w pc lv st M A K) (kb : ¬ c → jm_G w pc lv st M B K) : jm_G w pc lv st M (@ite _ c inst A B) K := by
  intro r h1 h2
  by_cases hc : c
  · rw [if_pos hc] at h1
    exact ka hc r h1 h2
  · rw [if_neg hc] at h1
    exact kb hc r h1 h2
theorem jm_ne {x k : Int32} {a : Int} (h : ¬ x = k) (hk : k.toInt = a) : ¬ x.toInt = a := by
  subst hk
  exact fun e => h (Int32.toInt_inj.mp e)
theorem jm_tsw {x y : Int32} {dflt lo hi off : Int} {offs : Array Int} {len tgt : Nat} (F : jm_F E X own cc nL ret d n z w) (hd : decode cc pc = .ok (.tableswitch dflt lo hi offs, len)) (hx0 : x = y) (h1 : ¬ y.toInt < lo) (h2 : ¬ hi < y.toInt) (ho : offs[(y.toInt - lo).toNat]? = some off) (ht : (pc : Int) + off = (tgt : Int)) (k : jm_G w tgt lv st M o K) : jm_G w pc lv (.int x :: st) M o K := by
  intro r g1 g2
  have k := k r g1 g2
  obtain ⟨p, e, s, m, args, below, meth, c, rfl, hx, hb, hml, hown, hts, hr, hlk, hK, hdj, hZ⟩ := F
  subst hx0
  intro ls H locs hl hP hS
  exact lv_tableIn hx hb hd h1 h2 ho ht (k ls H locs hl hP hS)
theorem jm_tsd {x : Int32} {dflt lo hi : Int} {offs : Array Int} {len tgt : Nat} (F : jm_F E X own cc nL ret d n z w) (hd : decode cc pc = .ok (.tableswitch dflt lo hi offs, len)) (h1 : x.toInt < lo ∨ hi < x.toInt) (ht : (pc : Int) + dflt = (tgt : Int)) (k : jm_G w tgt lv st M o K) : jm_G w pc lv (.int x :: st) M o K := by
  intro r g1 g2
  have k := k r g1 g2
  obtain ⟨p, e, s, m, args, below, meth, c, rfl, hx, hb, hml, hown, hts, hr, hlk, hK, hdj, hZ⟩ := F
  intro ls H locs hl hP hS
  exact lv_tableOut hx hb hd h1 ht (k ls H locs hl hP hS)
theorem jm_lsw {x : Int32} {dflt off : Int} {ps : Array (Int × Int)} {len tgt : Nat} (F : jm_F E X own cc nL ret d n z w) (hd : decode cc pc = .ok (.lookupswitch dflt ps, len)) (hp : (ps.toList.zip (ps.toList.drop 1)).all (fun (a, next) => a.1 < next.1) = true) (ho : Op.lookupswitch.offset ps.toList dflt x.toInt = off) (ht : (pc : Int) + off = (tgt : Int)) (k : jm_G w tgt lv st M o K) : jm_G w pc lv (.int x :: st) M o K := by
  intro r g1 g2
  have k := k r g1 g2
  obtain ⟨p, e, s, m, args, below, meth, c, rfl, hx, hb, hml, hown, hts, hr, hlk, hK, hdj, hZ⟩ := F
  intro ls H locs hl hP hS
  exact lv_lookup hx hb hd hp ho ht (k ls H locs hl hP hS)
theorem jm_done {τ : Type} {pc : Nat} {lv : jm_LV} {st : List Value} {M : jm_M} {r : τ} {K : τ → Prop} (h : K r → w pc lv st M) : jm_G w pc lv st M (some r) K := by
  intro r' e hK
  cases e
  exact h hK
theorem jm_bind {τ σ : Type} {pc pcJ : Nat} {lv : jm_LV} {lvJ : σ → jm_LV} {st : List Value} {stJ : σ → List Value} {M : jm_M} {MJ : σ → jm_M} {o : Option σ} {f : σ → Option τ} {K : τ → Prop} (h1 : jm_G w pc lv st M o (fun e => w pcJ (lvJ e) (stJ e) (MJ e))) (h2 : ∀ e, jm_G w pcJ (lvJ e) (stJ e) (MJ e) (f e) K) : jm_G w pc lv st M (o.bind f) K := by
  intro r hr hK
  cases ho : o with
  | none => rw [ho] at hr; cases hr
  | some e => rw [ho] at hr; exact h1 e ho (h2 e r hr hK)
theorem jm_bindS {τ σ : Type} {pc pcJ : Nat} {lv : jm_LV} {lvJ : σ → jm_LV} {st : List Value} {stJ : σ → List Value} {M : jm_M} {MJ : σ → jm_M} {o : Option (σ ⊕ τ)} {f : σ → Option τ} {K : τ → Prop} (h1 : jm_G w pc lv st M o (Sum.elim (fun e => w pcJ (lvJ e) (stJ e) (MJ e)) K)) (h2 : ∀ e, jm_G w pcJ (lvJ e) (stJ e) (MJ e) (f e) K) : jm_G w pc lv st M (o.bind (Sum.elim f some)) K := by
  intro r hr hK
  cases ho : o with
  | none => rw [ho] at hr; cases hr
  | some e =>
    rw [ho] at hr
    cases e with
    | inl x => exact h1 _ ho (h2 x r hr hK)
    | inr x => cases hr; exact h1 _ ho hK
theorem jm_loopR {σ ε : Type} {pc : Nat} {lvH : σ → jm_LV} {MH : σ → jm_M} {f : σ → Option (σ ⊕ ε)} {C : ε → Prop} (hs : ∀ s, jm_G w pc (lvH s) [] (MH s) (f s) (Sum.elim (fun s' => w pc (lvH s') [] (MH s')) C)) : ∀ (N : Nat) (s : σ), jm_G w pc (lvH s) [] (MH s) (jm_loop f N s) C := by
  intro N
  induction N with
  | zero => intro s r h; cases h
  | succ N ih =>
    intro s r h hC
    rw [jm_loop] at h
    cases hf : f s with
    | none => rw [hf] at h; cases h
    | some x =>
      rw [hf] at h
      cases x with
      | inl s' => exact hs s _ hf (ih s' r h hC)
      | inr e => cases h; exact hs s _ hf hC
def jm_sub : jm_LV → jm_LV → Prop
  | [], _ => True
  | none :: a, [] => jm_sub a []
  | none :: a, _ :: b => jm_sub a b
  | some _ :: _, [] => False
  | some v :: a, x :: b => x = some v ∧ jm_sub a b
theorem jm_sub_at : ∀ (a b : jm_LV) (i : Nat) (v : Value), jm_sub a b → a[i]? = some (some v) → b[i]? = some (some v) := by
  intro a
  induction a with
  | nil => intro b i v _ h; simp at h
  | cons x a ih =>
    intro b i v hs h
    cases b with
    | nil =>
      cases x with
      | none =>
        cases i with
        | zero => simp at h
        | succ i => have h2 := ih [] i v hs (by simpa using h); simp at h2
      | some y => exact hs.elim
    | cons y b =>
      cases x with
      | none =>
        cases i with
        | zero => simp at h
        | succ i => simpa using ih b i v hs (by simpa using h)
      | some u =>
        obtain ⟨rfl, h2⟩ := hs
        cases i with
        | zero => simpa using h
        | succ i => simpa using ih b i v h2 (by simpa using h)
theorem jm_weak {lv' : jm_LV} (F : jm_F E X own cc nL ret d n z w) (hs : jm_sub lv' lv) (k : jm_G w pc lv' st M o K) : jm_G w pc lv st M o K := by
  intro r h1 h2
  have k := k r h1 h2
  obtain ⟨p, e, s, m, args, below, meth, c, rfl, hx, hb, hml, hown, hts, hr, hlk, hK, hdj, hZ⟩ := F
  intro ls H locs hl hP hS
  exact k ls H locs ⟨hl.1, hl.2.1, fun i v h => hl.2.2 i v (jm_sub_at _ _ i v hs h)⟩ hP hS
theorem jm_weakD {r : τ} {lv' : jm_LV} (F : jm_F E X own cc nL ret d n z w) (hs : jm_sub lv' lv) (h : K r → w pc lv' st M) : jm_G w pc lv st M (some r) K := jm_weak F hs (jm_done h)
theorem jm_iret {v : Int32} {r : τ} (F : jm_F E X own cc nL (some .int) d n z w) (hd : jm_d cc pc .ireturn 1 pc') (hz : K r → z (some (.int v)) M) : jm_G w pc lv [.int v] M (some r) K := by
  intro r' h1 h2
  cases h1
  have hz := hz h2
  obtain ⟨p, e, s, m, args, below, meth, c, rfl, hx, hb, hml, hown, hts, hr, hlk, hK, hdj, hZ⟩ := F
  obtain ⟨hd, -⟩ := hd
  intro ls H locs hl hP hS
  exact W.iret hx hb hr (fun t ht _ => ⟨⟨_, M, rfl, hz, by rw [ht]; exact hP⟩, hS.F ht⟩) hS.2.2 hd hlk
theorem jm_lret {v : Int64} {r : τ} (F : jm_F E X own cc nL (some .long) d n z w) (hd : jm_d cc pc .lreturn 1 pc') (hz : K r → z (some (.long v)) M) : jm_G w pc lv [.long v] M (some r) K := by
  intro r' h1 h2
  cases h1
  have hz := hz h2
  obtain ⟨p, e, s, m, args, below, meth, c, rfl, hx, hb, hml, hown, hts, hr, hlk, hK, hdj, hZ⟩ := F
  obtain ⟨hd, -⟩ := hd
  intro ls H locs hl hP hS
  exact W.lret hx hb hr (fun t ht _ => ⟨⟨_, M, rfl, hz, by rw [ht]; exact hP⟩, hS.F ht⟩) hS.2.2 hd hlk
theorem jm_vret  {r : τ} (F : jm_F E X own cc nL none d n z w) (hd : jm_d cc pc .return_ 1 pc') (hz : K r → z none M) : jm_G w pc lv [] M (some r) K := by
  intro r' h1 h2
  cases h1
  have hz := hz h2
  obtain ⟨p, e, s, m, args, below, meth, c, rfl, hx, hb, hml, hown, hts, hr, hlk, hK, hdj, hZ⟩ := F
  obtain ⟨hd, -⟩ := hd
  intro ls H locs hl hP hS
  exact W.vret hx hb hr (fun t ht _ => ⟨⟨_, M, rfl, hz, by rw [ht]; exact hP⟩, hS.F ht⟩) hS.2.2 hd hlk
theorem jm_zret {v : Int32} {r : τ} (F : jm_F E X own cc nL (some .boolean) d n z w) (hd : jm_d cc pc .ireturn 1 pc') (hv : v = 0 ∨ v = 1) (hz : K r → z (some (.int v)) M) : jm_G w pc lv [.int v] M (some r) K := by
  intro r' h1 h2
  cases h1
  have hz := hz h2
  obtain ⟨p, e, s, m, args, below, meth, c, rfl, hx, hb, hml, hown, hts, hr, hlk, hK, hdj, hZ⟩ := F
  obtain ⟨hd, -⟩ := hd
  intro ls H locs hl hP hS
  exact W.zret hx hb hr (by rcases hv with rfl | rfl <;> rfl) (fun t ht _ => ⟨⟨_, M, rfl, hz, by rw [ht]; exact hP⟩, hS.F ht⟩) hS.2.2 hd hlk
theorem jm_aret {C : String} {a : Nat} {r : τ} (F : jm_F E X own cc nL (some (.object C)) d n z w) (hd : jm_d cc pc .areturn 1 pc') (hz : K r → z (some (.ref a)) M) : jm_G w pc lv [.ref a] M (some r) K := by
  intro r' h1 h2
  cases h1
  have hz := hz h2
  obtain ⟨p, e, s, m, args, below, meth, c, rfl, hx, hb, hml, hown, hts, hr, hlk, hK, hdj, hZ⟩ := F
  obtain ⟨hd, -⟩ := hd
  intro ls H locs hl hP hS
  exact W.aret hx hb hr (Or.inl ⟨_, rfl⟩) (Or.inr ⟨_, rfl⟩) (fun t ht _ => ⟨⟨_, M, rfl, hz, by rw [ht]; exact hP⟩, hS.F ht⟩) hS.2.2 hd hlk
theorem jm_bzB {v : Int32} {g : Int32 → Option τ} (k : v = 0 ∨ v = 1 → jm_G w pc lv st M (g v) K) : jm_G w pc lv st M ((jm_bz v).bind g) K := by
  intro r h1 h2
  unfold jm_bz at h1
  split at h1
  next hv => exact k hv r h1 h2
  · cases h1
theorem jm_getI {index ci k t : Nat} {fs : List (Option (Nat × Nat))} (F : jm_F E X own cc nL ret d n z w) (hd : jm_d cc pc (.getfield index) 3 pc') (hf : jm_Fl own index ci k) (hX : jm_obj X t ci fs) (hk : fs[k]? = some none) (kk : jm_G w pc' lv (.int (M t 0 k) :: st) M o K) : jm_G w pc lv (.ref (jm_a E t 0) :: st) M o K := by
  intro r h1 h2
  have kk := kk r h1 h2
  obtain ⟨p, e, s, m, args, below, meth, c, rfl, hx, hb, hml, hown, hts, hr, hlk, hK, hdj, hZ⟩ := F
  obtain ⟨hd, rfl⟩ := hd
  obtain ⟨C, T, N, hc, hkN, hin, hlink⟩ := hf
  obtain ⟨q, hq⟩ := hX
  intro ls H locs hl hP hS
  have hv := jm_fv_int (E := E) (f := M t 0) fs 0 k hk
  rw [Nat.zero_add] at hv
  exact va_get hx hb hts hin hown hK hP q (jm_ws_at hq) hc k hkN (hts _ hlink) (fun _ h => h) hv hd (kk ls H locs hl hP hS)
theorem jm_getR {index ci k t : Nat} {fs : List (Option (Nat × Nat))} {u : Nat × Nat} (F : jm_F E X own cc nL ret d n z w) (hd : jm_d cc pc (.getfield index) 3 pc') (hf : jm_Fl own index ci k) (hX : jm_obj X t ci fs) (hk : fs[k]? = some (some u)) (kk : jm_G w pc' lv (.ref (jm_a E u.1 u.2) :: st) M o K) : jm_G w pc lv (.ref (jm_a E t 0) :: st) M o K := by
  intro r h1 h2
  have kk := kk r h1 h2
  obtain ⟨p, e, s, m, args, below, meth, c, rfl, hx, hb, hml, hown, hts, hr, hlk, hK, hdj, hZ⟩ := F
  obtain ⟨hd, rfl⟩ := hd
  obtain ⟨C, T, N, hc, hkN, hin, hlink⟩ := hf
  obtain ⟨q, hq⟩ := hX
  intro ls H locs hl hP hS
  exact va_get hx hb hts hin hown hK hP q (jm_ws_at hq) hc k hkN (hts _ hlink) (fun _ h => h) (jm_fv_ref (E := E) (f := M t 0) fs 0 k hk) hd (kk ls H locs hl hP hS)
theorem jm_putI {index ci k t : Nat} {v : Int32} {fs : List (Option (Nat × Nat))} {g : jm_M → Option τ} (F : jm_F E X own cc nL ret d n z w) (hd : jm_d cc pc (.putfield index) 3 pc') (hf : jm_Fp own index ci k .int) (hX : jm_obj X t ci fs) (hk : fs[k]? = some none) (kk : ∀ M', jm_G w pc' lv st M' (g M') K) : jm_G w pc lv (.int v :: .ref (jm_a E t 0) :: st) M ((jm_wf M t k v).bind g) K := by
  intro r h1 h2
  have hnv : narrow .int (Value.int v) = .int v := rfl
  have hfv : fits .int (Value.int v) = true := rfl
  have kk := kk _ r h1 h2
  obtain ⟨p, e, s, m, args, below, meth, c, rfl, hx, hb, hml, hown, hts, hr, hlk, hK, hdj, hZ⟩ := F
  obtain ⟨hd, rfl⟩ := hd
  obtain ⟨C, T, N, ty0, hc, hkN, hin, hlink, hty, hnm, hfin, hdf⟩ := hf
  obtain ⟨q, hq⟩ := hX
  intro ls H locs hl hP hS
  refine va_put hx hb hts hin ty0 hty hnm hown hK hP (jm_D_of hdj M) hS q (jm_ws_at hq) hc k hkN (hts _ hlink) (fun _ h => h) hfin hdf hnv hfv (by rw [jm_fv_len]; exact (List.getElem?_eq_some_iff.mp hk).1) hd (fun H1 locs1 hP1 hD1 hS1 => ?_)
  refine kk ls H1 locs1 hl ?_ hS1
  rw [jm_ws_set hdj hq (M' := jm_up M t 0 k v) ?_ ?_] at hP1
  · exact hP1
  · have e := jm_fv_set (E := E) (f := M t 0) (v := v) fs 0 k hk
    rw [Nat.zero_add] at e
    show (jm_a E t 0, _) = _
    rw [jm_cell]
    simp only [e]
    have e2 : (fun j => if j = k then v else M t 0 j) = jm_up M t 0 k v t 0 := by funext j; simp [jm_up]
    rw [e2]
  · intro a b hab
    funext j
    simp only [jm_up]
    rw [if_neg (fun h => hab ⟨h.1, h.2.1⟩)]
theorem jm_putZ {index ci k t : Nat} {v : Int32} {fs : List (Option (Nat × Nat))} {g : jm_M → Option τ} (F : jm_F E X own cc nL ret d n z w) (hd : jm_d cc pc (.putfield index) 3 pc') (hf : jm_Fp own index ci k .boolean) (hX : jm_obj X t ci fs) (hk : fs[k]? = some none) (kk : ∀ M', jm_G w pc' lv st M' (g M') K) : jm_G w pc lv (.int v :: .ref (jm_a E t 0) :: st) M ((jm_wz M t k v).bind g) K := by
  intro r h1 h2
  unfold jm_wz at h1
  split at h1
  case isFalse => cases h1
  case isTrue hv =>
  have hnv : narrow .boolean (Value.int v) = .int v := by rcases hv with rfl | rfl <;> rfl
  have hfv : fits .boolean (Value.int v) = true := by rcases hv with rfl | rfl <;> rfl
  have kk := kk _ r h1 h2
  obtain ⟨p, e, s, m, args, below, meth, c, rfl, hx, hb, hml, hown, hts, hr, hlk, hK, hdj, hZ⟩ := F
  obtain ⟨hd, rfl⟩ := hd
  obtain ⟨C, T, N, ty0, hc, hkN, hin, hlink, hty, hnm, hfin, hdf⟩ := hf
  obtain ⟨q, hq⟩ := hX
  intro ls H locs hl hP hS
  refine va_put hx hb hts hin ty0 hty hnm hown hK hP (jm_D_of hdj M) hS q (jm_ws_at hq) hc k hkN (hts _ hlink) (fun _ h => h) hfin hdf hnv hfv (by rw [jm_fv_len]; exact (List.getElem?_eq_some_iff.mp hk).1) hd (fun H1 locs1 hP1 hD1 hS1 => ?_)
  refine kk ls H1 locs1 hl ?_ hS1
  rw [jm_ws_set hdj hq (M' := jm_up M t 0 k v) ?_ ?_] at hP1
  · exact hP1
  · have e := jm_fv_set (E := E) (f := M t 0) (v := v) fs 0 k hk
    rw [Nat.zero_add] at e
    show (jm_a E t 0, _) = _
    rw [jm_cell]
    simp only [e]
    have e2 : (fun j => if j = k then v else M t 0 j) = jm_up M t 0 k v t 0 := by funext j; simp [jm_up]
    rw [e2]
  · intro a b hab
    funext j
    simp only [jm_up]
    rw [if_neg (fun h => hab ⟨h.1, h.2.1⟩)]
theorem jm_iald {t j N : Nat} {i : Int32} {g : Int32 → Option τ} (F : jm_F E X own cc nL ret d n z w) (hd : jm_d cc pc .iaload 1 pc') (hX : jm_arr X t j N) (kk : ∀ v, jm_G w pc' lv (.int v :: st) M (g v) K) : jm_G w pc lv (.int i :: .ref (jm_a E t j) :: st) M ((jm_rd N (M t j) i).bind g) K := by
  intro r h1 h2
  unfold jm_rd at h1
  split at h1
  · cases h1
  next hi =>
  have kk := kk _ r h1 h2
  obtain ⟨p, e, s, m, args, below, meth, c, rfl, hx, hb, hml, hown, hts, hr, hlk, hK, hdj, hZ⟩ := F
  obtain ⟨hd, rfl⟩ := hd
  obtain ⟨q, hq⟩ := hX
  intro ls H locs hl hP hS
  exact va_iald hx hb hK hP q 0 (jm_ws_at hq) rfl hi hd (kk ls H locs hl hP hS)
theorem jm_iast {t j N : Nat} {i v : Int32} {g : jm_M → Option τ} (F : jm_F E X own cc nL ret d n z w) (hd : jm_d cc pc .iastore 1 pc') (hX : jm_arr X t j N) (kk : ∀ M', jm_G w pc' lv st M' (g M') K) : jm_G w pc lv (.int v :: .int i :: .ref (jm_a E t j) :: st) M ((jm_wa N M t j i v).bind g) K := by
  intro r h1 h2
  unfold jm_wa at h1
  split at h1
  · cases h1
  next hi =>
  have kk := kk _ r h1 h2
  obtain ⟨p, e, s, m, args, below, meth, c, rfl, hx, hb, hml, hown, hts, hr, hlk, hK, hdj, hZ⟩ := F
  obtain ⟨hd, rfl⟩ := hd
  obtain ⟨q, hq⟩ := hX
  intro ls H locs hl hP hS
  refine va_iast hx hb hK hP (jm_D_of hdj M) hS q 0 (jm_ws_at hq) rfl hi hd (fun H1 locs1 hP1 hD1 hS1 => ?_)
  refine kk ls H1 locs1 hl ?_ hS1
  rw [jm_ws_set hdj hq (M' := jm_up M t j i.toNatClampNeg v) ?_ ?_] at hP1
  · exact hP1
  · rw [jm_cell]
    have e2 : upd (M t j) i.toNatClampNeg v = jm_up M t j i.toNatClampNeg v t j := by funext k; simp [jm_up, upd]
    simp only [e2]
  · intro a b hab
    funext k
    simp only [jm_up]
    rw [if_neg (fun h => hab ⟨h.1, h.2.1⟩)]
theorem jm_alen {t j N : Nat} (F : jm_F E X own cc nL ret d n z w) (hd : jm_d cc pc .arraylength 1 pc') (hX : jm_arr X t j N) (kk : jm_G w pc' lv (.int (nI N) :: st) M o K) : jm_G w pc lv (.ref (jm_a E t j) :: st) M o K := by
  intro r h1 h2
  have kk := kk r h1 h2
  obtain ⟨p, e, s, m, args, below, meth, c, rfl, hx, hb, hml, hown, hts, hr, hlk, hK, hdj, hZ⟩ := F
  obtain ⟨hd, rfl⟩ := hd
  obtain ⟨q, hq⟩ := hX
  intro ls H locs hl hP hS
  exact va_alen hx hb hK hP q 0 (jm_ws_at hq) rfl rfl hd (kk ls H locs hl hP hS)
theorem jm_len_arr {X : jm_Lay} {r : Nat × Nat} {N : Nat} (h : jm_len X r = some N) : jm_arr X r.1 r.2 N := by
  unfold jm_len at h
  split at h
  next u n hf =>
    cases h
    obtain ⟨q, hq⟩ := List.getElem?_of_mem (List.mem_of_find?_eq_some hf)
    have h2 := List.find?_some hf
    simp only [Bool.and_eq_true, beq_iff_eq] at h2
    obtain ⟨u1, u2⟩ := u
    obtain ⟨rfl, rfl⟩ := h2
    exact ⟨q, hq⟩
  · cases h
theorem jm_lenB {r : Nat × Nat} {g : Nat → Option τ} (k : ∀ N, jm_arr X r.1 r.2 N → jm_G w pc lv st M (g N) K) : jm_G w pc lv st M ((jm_len X r).bind g) K := by
  intro e h1 h2
  cases h : jm_len X r with
  | none => rw [h] at h1; cases h1
  | some N => rw [h] at h1; exact k N (jm_len_arr h) e h1 h2
def jm_ix (n : Nat) (i : Int32) : Option Nat := if i < 0 ∨ n ≤ i.toNatClampNeg then none else some i.toNatClampNeg
theorem jm_aald {t j b : Nat} {rs : List (Nat × Nat)} {N : Nat} {i : Int32} {g : Nat → Option τ} (F : jm_F E X own cc nL ret d n z w) (hd : jm_d cc pc .aaload 1 pc') (hX : jm_rar X t j rs) (hN : rs.length = N) (hrs : ∀ k, k < N → rs[k]? = some (b + k, 0)) (kk : ∀ k, k < N → jm_G w pc' lv (.ref (jm_a E (b + k) 0) :: st) M (g k) K) : jm_G w pc lv (.int i :: .ref (jm_a E t j) :: st) M ((jm_ix N i).bind g) K := by
  intro r h1 h2
  unfold jm_ix at h1
  split at h1
  · cases h1
  next hi =>
  have hlt : i.toNatClampNeg < N := Nat.lt_of_not_le (fun h => hi (Or.inr h))
  have kk2 := kk _ hlt r h1 h2
  obtain ⟨p, e, s, m, args, below, meth, c, rfl, hx, hb, hml, hown, hts, hr, hlk, hK, hdj, hZ⟩ := F
  obtain ⟨hd, rfl⟩ := hd
  obtain ⟨q, hq⟩ := hX
  subst hN
  intro ls H locs hl hP hS
  refine va_aldq hx hb hK hP q 1 (jm_ws_at hq) rfl hi hd ?_
  rw [hrs _ hlt]
  exact kk2 ls H locs hl hP hS
theorem jm_gets {index : Nat} (F : jm_F E X own cc nL ret d n z w) (hd : jm_d cc pc (.getstatic index) 3 pc') (hl0 : Cond.fieldLink own index "WeighedInBooks$Statements" "STEP_LETTERS" "[C" ∈ jm_tb) (kk : jm_G w pc' lv (.ref (jm_tS E) :: st) M o K) : jm_G w pc lv st M o K := by
  intro r h1 h2
  have kk := kk r h1 h2
  obtain ⟨p, e, s, m, args, below, meth, c, rfl, hx, hb, hml, hown, hts, hr, hlk, hK, hdj, hZ⟩ := F
  obtain ⟨hd, rfl⟩ := hd
  intro ls H locs hl hP hS
  exact va_gets hx hb hZ.1 hS hown (hts _ hl0) (fun _ h => h) hd (kk ls H locs hl hP hS)
theorem jm_cald {i : Int32} {g : Int32 → Option τ} (F : jm_F E X own cc nL ret d n z w) (hd : jm_d cc pc .caload 1 pc') (kk : ∀ v, jm_G w pc' lv (.int v :: st) M (g v) K) : jm_G w pc lv (.int i :: .ref (jm_tS E) :: st) M ((jm_rd 8 jm_SL i).bind g) K := by
  intro r h1 h2
  unfold jm_rd at h1
  split at h1
  · cases h1
  next hi =>
  have kk := kk _ r h1 h2
  obtain ⟨p, e, s, m, args, below, meth, c, rfl, hx, hb, hml, hown, hts, hr, hlk, hK, hdj, hZ⟩ := F
  obtain ⟨hd, rfl⟩ := hd
  intro ls H locs hl hP hS
  exact va_tc hx hb hZ.2 hS hi rfl hd (kk ls H locs hl hP hS)
def jm_wc (M : jm_M) (t j t' j' n : Nat) : Option jm_M := some (jm_cp M t j t' j' n)
theorem jm_acopy {index t j t' j' N : Nat} {i : Int32} {g : jm_M → Option τ} (F : jm_F E X own cc nL ret d n z w) (hd : jm_d cc pc (.invokestatic index) 3 pc') (hw1 : Cond.methodLink own index arraycopyName ∈ jm_tb) (hw2 : Cond.native arraycopyName ∈ jm_tb) (hw3 : Cond.static arraycopyName ∈ jm_tb) (hw4 : Cond.initialized "java/lang/System" ∈ jm_tb) (hX : jm_arr X t j N) (hX' : jm_arr X t' j' N) (hi : ¬ i < 0) (hN : i.toNatClampNeg = N) (hR : 1 ≤ d ∧ (st.map fun v => v.category).sum + (nativeFrameWords "java/lang/System" "arraycopy" 5 + 11) ≤ n) (kk : ∀ M', jm_G w pc' lv st M' (g M') K) : jm_G w pc lv (.int i :: .int 0 :: .ref (jm_a E t' j') :: .int 0 :: .ref (jm_a E t j) :: st) M ((jm_wc M t j t' j' N).bind g) K := by
  intro r h1 h2
  have kk := kk (jm_cp M t j t' j' N) r h1 h2
  obtain ⟨p, e, s, m, args, below, meth, c, rfl, hx, hb, hml, hown, hts, hr, hlk, hK, hdj, hZ⟩ := F
  obtain ⟨hd, rfl⟩ := hd
  obtain ⟨q, hq⟩ := hX
  obtain ⟨q', hq'⟩ := hX'
  intro ls H locs hl hP hS
  have z0 : (0 : Int32).toNatClampNeg = 0 := by decide
  refine va_copyi hx hb (hml.trans hl.1.symm) hown (hts _ hw1) (hts _ hw2) (hts _ hw3) (hts _ hw4) hK hP (jm_D_of hdj M) hS q q' 0 0 (jm_ws_at hq) (jm_ws_at hq') rfl rfl rfl (by decide) (by decide) hi (by rw [z0, hN]; omega) (by rw [z0, hN]; omega) (fun _ _ => rfl) hR.1 hR.2 hd (fun H1 locs1 hP1 hD1 hS1 => ?_)
  refine kk ls H1 locs1 hl ?_ hS1
  rw [jm_ws_set hdj hq' (M' := jm_cp M t j t' j' N) ?_ ?_] at hP1
  · exact hP1
  · rw [jm_cell]
    have e2 : va_cpy (M t j) (M t' j') (0 : Int32).toNatClampNeg (0 : Int32).toNatClampNeg i.toNatClampNeg = jm_cp M t j t' j' N t' j' := by
      funext k
      rw [z0, hN]
      simp [jm_cp, va_cpy]
    simp only [e2]
  · intro a b hab
    funext k
    simp only [jm_cp]
    rw [if_neg (fun h => hab ⟨h.1, h.2.1⟩)]
def jm_max (x y : Int32) : Int32 := if x < y then y else x
def jm_min (x y : Int32) : Int32 := if y < x then y else x
def jm_abs (x : Int32) : Int32 := if 0 ≤ x then x else 0 - x
theorem jm_mmax {index : Nat} {x y : Int32} (F : jm_F E X own cc nL ret d n z w) (hd : jm_d cc pc (.invokestatic index) 3 pc') (hw1 : Cond.methodLink own index Lib.Math.max.name ∈ jm_tb) (hw2 : Cond.static Lib.Math.max.name ∈ jm_tb) (hw3 : Cond.initialized "java/lang/Math" ∈ jm_tb) (hw4 : Cond.code Lib.Math.max.name Lib.Math.max.code 2 (some .int) ∈ jm_tb) (hR : 1 ≤ d ∧ (st.map fun v => v.category).sum + 13 ≤ n) (k : jm_G w pc' lv (.int (jm_max x y) :: st) M o K) : jm_G w pc lv (.int y :: .int x :: st) M o K := by
  intro r h1 h2
  have k := k r h1 h2
  obtain ⟨p, e, s, m, args, below, meth, c, rfl, hx, hb, hml, hown, hts, hr, hlk, hK, hdj, hZ⟩ := F
  obtain ⟨hd, rfl⟩ := hd
  intro ls H locs hl hP hS
  exact va_mmax hx hb (hml.trans hl.1.symm) hown (hts _ hw1) (hts _ hw2) (hts _ hw3) (hts _ hw4) hR.1 hR.2 (Nat.zero_le _) (Nat.zero_le _) hd (k ls H locs hl hP hS)
theorem jm_mmin {index : Nat} {x y : Int32} (F : jm_F E X own cc nL ret d n z w) (hd : jm_d cc pc (.invokestatic index) 3 pc') (hw1 : Cond.methodLink own index Lib.Math.min.name ∈ jm_tb) (hw2 : Cond.static Lib.Math.min.name ∈ jm_tb) (hw3 : Cond.initialized "java/lang/Math" ∈ jm_tb) (hw4 : Cond.code Lib.Math.min.name Lib.Math.min.code 2 (some .int) ∈ jm_tb) (hR : 1 ≤ d ∧ (st.map fun v => v.category).sum + 13 ≤ n) (k : jm_G w pc' lv (.int (jm_min x y) :: st) M o K) : jm_G w pc lv (.int y :: .int x :: st) M o K := by
  intro r h1 h2
  have k := k r h1 h2
  obtain ⟨p, e, s, m, args, below, meth, c, rfl, hx, hb, hml, hown, hts, hr, hlk, hK, hdj, hZ⟩ := F
  obtain ⟨hd, rfl⟩ := hd
  intro ls H locs hl hP hS
  exact va_mmin hx hb (hml.trans hl.1.symm) hown (hts _ hw1) (hts _ hw2) (hts _ hw3) (hts _ hw4) hR.1 hR.2 (Nat.zero_le _) (Nat.zero_le _) hd (k ls H locs hl hP hS)
theorem jm_mabs {index : Nat} {x : Int32} (F : jm_F E X own cc nL ret d n z w) (hd : jm_d cc pc (.invokestatic index) 3 pc') (hw1 : Cond.methodLink own index Lib.Math.abs.name ∈ jm_tb) (hw2 : Cond.static Lib.Math.abs.name ∈ jm_tb) (hw3 : Cond.initialized "java/lang/Math" ∈ jm_tb) (hw4 : Cond.code Lib.Math.abs.name Lib.Math.abs.code 1 (some .int) ∈ jm_tb) (hR : 1 ≤ d ∧ (st.map fun v => v.category).sum + 13 ≤ n) (k : jm_G w pc' lv (.int (jm_abs x) :: st) M o K) : jm_G w pc lv (.int x :: st) M o K := by
  intro r h1 h2
  have k := k r h1 h2
  obtain ⟨p, e, s, m, args, below, meth, c, rfl, hx, hb, hml, hown, hts, hr, hlk, hK, hdj, hZ⟩ := F
  obtain ⟨hd, rfl⟩ := hd
  intro ls H locs hl hP hS
  exact va_mabs hx hb (hml.trans hl.1.symm) hown (hts _ hw1) (hts _ hw2) (hts _ hw3) (hts _ hw4) hR.1 hR.2 (Nat.zero_le _) (Nat.zero_le _) hd (k ls H locs hl hP hS)
end
/-! contracts -/
def jm_Pz (E : jm_Ev) (X : jm_Lay) (M : jm_M) (U : State) : Prop := va_P (jm_D E) jm_cl (jm_ws E X M) U.heap ∧ va_K (jm_D E) jm_cl (jm_tys E) U ∧ jm_Z E X U U.heap
def jm_Ct (E : jm_Ev) (X : jm_Lay) (y : MethodName) (cc : ByteArray) (maxL : Nat) (ret : Option FieldType) (d n : Nat) (av : List Value) (M : jm_M) (v : Option Value) (M' : jm_M) : Prop :=
  Met (jm_l E) y (Cond.code y cc maxL ret :: jm_tb) ({ frames := d, cells := 0, slots := 0, locals := n } : Room) (va_Pc av (jm_Pz E X M)) (jm_Qz E X (fun v' M'' => v' = v ∧ M'' = M')) 0 0 (jm_A E X)
theorem jm_enter {E : jm_Ev} {X : jm_Lay} {y : MethodName} {cc : ByteArray} {maxL : Nat} {ret : Option FieldType} {d n : Nat} {av : List Value} {M : jm_M} {v : Option Value} {M' : jm_M} {lv : jm_LV} (hE : jm_dj E X) (hy : plainName y.cls = true) (hn : (lg_sl av).length ≤ maxL) (hl0 : jm_pairs lv = lv_args 0 av) (body : ∀ z w, jm_F E X y.cls cc maxL ret d n z w → z v M' → w 0 lv [] M) : jm_Ct E X y cc maxL ret d n av M v M' := by
  refine Met.ofW (cc := cc) (maxL := maxL) (ret := ret) hy rfl ?_
  intro p e s m args below meth c s₁ B hml hv
  obtain ⟨rfl, hP, hK, hZ⟩ := hv
  have hts := atoms_spec (ws := Cond.code y cc maxL ret :: jm_tb) B.pre
  have hown : s.vm.findClass y.cls = some m.cls := findClass_of_methodNamed B.named
  have F : jm_F E X y.cls cc maxL ret d n (fun v' M'' => v' = v ∧ M'' = M') _ := ⟨p, e, s, m, av.toArray, below, meth, c, rfl, B.exec, B.bytes, hml, hown, fun w hw => hts w (List.mem_cons_of_mem _ hw), B.returns, B.notSynchronized, hK, hE, hZ⟩
  have hb := body _ _ F ⟨rfl, rfl⟩
  have hl := lv_entry av (n := maxL) hn
  rw [lg_entry_eq]
  generalize (lg_sl av ++ List.replicate (maxL - (lg_sl av).length) Slot.unset).toArray = ls at hl ⊢
  exact hb ls s.heap [] ⟨hl.1, hl.2.1, fun i v h => hl.2.2 (i, v) (by rw [← hl0]; exact jm_pairs_mem h)⟩ hP va_S.rf
def jm_CV (own : String) (index : Nat) (y : MethodName) (cc : ByteArray) (maxL : Nat) (ret : Option FieldType) (na : Nat) : Prop :=
  Cond.methodLink own index y ∈ jm_tb ∧ Cond.instanceMethod y ∈ jm_tb ∧ Cond.selects y.cls y y ∈ jm_tb ∧ Cond.initialized y.cls ∈ jm_tb ∧ Cond.code y cc maxL ret ∈ jm_tb ∧ y.cls ≠ "java/lang/invoke/MethodHandle" ∧ y.cls ≠ "java/lang/invoke/VarHandle" ∧ (parseMethodDescriptor y.desc).map (fun d => d.parameters.length) = some na
def jm_CS (own : String) (index : Nat) (y : MethodName) (cc : ByteArray) (maxL : Nat) (ret : Option FieldType) (na : Nat) : Prop :=
  Cond.methodLink own index y ∈ jm_tb ∧ Cond.static y ∈ jm_tb ∧ Cond.initialized y.cls ∈ jm_tb ∧ Cond.code y cc maxL ret ∈ jm_tb ∧ y.cls ≠ "java/lang/invoke/MethodHandle" ∧ y.cls ≠ "java/lang/invoke/VarHandle" ∧ (parseMethodDescriptor y.desc).map (fun d => d.parameters.length) = some na
theorem jm_tb_good {w : Cond} (h : w ∈ jm_tb) : (w.onTables && w.keeps) = true ∨ ∃ ty, w = .arrayClass ty := good_of_word (List.mem_filter.mp h).2
theorem jm_good {ws : List Cond} (h : ∀ w ∈ ws, w ∈ jm_tb) : GoodIn jm_tb ws := fun w hw => ⟨h w hw, jm_tb_good (h w hw)⟩
theorem jm_Pz_blind {E : jm_Ev} {X : jm_Lay} {M : jm_M} {av : List Value} : FrameBlind (va_Pc av (jm_Pz E X M)) := by
  intro a U g mk h
  obtain ⟨e, h1, h2, h3, h4⟩ := h
  exact ⟨e, h1, va_K.moved (u := U) (U := U.calling g mk a) (Vm.Alike.refl U.vm) h2, h3.moved (u := U) (U := U.calling g mk a) (Vm.Alike.refl U.vm), h4.moved (u := U) (U := U.calling g mk a) (Vm.Alike.refl U.vm)⟩
theorem jm_Pz_at {E : jm_Ev} {X : jm_Lay} {M : jm_M} {s U : State} {H : Heap} {locs : List Loc} (hU : U.heap = H) (hW : s.WarmedH U.vm) (hP : va_P (jm_D E) jm_cl (jm_ws E X M) H) (hK : va_K (jm_D E) jm_cl (jm_tys E) s) (hZ : jm_Z E X s s.heap) (hS : va_S (jm_A E X) s.heap H locs) : jm_Pz E X M U := by
  subst hU
  exact ⟨hP, va_K.moved hW.alike hK, (hZ.1.kept (fun a h1 h2 => hS.2.1 a h1 h2)).moved hW.alike, (hZ.2.kept (fun a h1 h2 => hS.2.1 a h1 h2)).moved hW.alike⟩
theorem jm_call {E : jm_Ev} {X : jm_Lay} {p : Program} {e : Env} {R : Room} {s : State} {m : MethodId} {args a : Array Value} {below : List Frame} {meth : Method} {c : Code} {H : Heap} {locs : List Loc} {Q : State → Prop} {pc : Nat} {ls : Array Slot} {rest st0 : List Value} {v : Option Value} {M' : jm_M}
    (hr : va_Run p (jm_l E) e R s m args below meth c H locs 0 0 0 0 (F0 m pc ls st0) rest (jm_Qz E X (fun v' M'' => v' = v ∧ M'' = M') a) (jm_A E X)) (hS : va_S (jm_A E X) s.heap H locs)
    (kk : ∀ (H1 : Heap) (locs1 : List Loc), va_P (jm_D E) jm_cl (jm_ws E X M') H1 → va_S (jm_A E X) s.heap H1 locs1 → W p (jm_l E) e R s m args below meth c H1 locs1 0 0 Q (F0 m (pc + 3) ls (v.toList ++ rest))) : W p (jm_l E) e R s m args below meth c H locs 0 0 Q (F0 m pc ls st0) := by
  intro T hT X0
  obtain ⟨v0, st₀, t, T', L, h0, X', hL, e1, e2, ⟨⟨v1, M1, hv, ⟨rfl, rfl⟩, hP1⟩, hz, hk⟩, stp⟩ := hr T hT X0
  cases hv
  rw [h0] at hz hk
  obtain ⟨t2, a1, b1⟩ := kk T'.heap (locs ++ L) (by rw [e1]; exact hP1) ⟨Nat.le_trans hS.1 (by rw [e1]; exact hz), fun q h1 h2 => by rw [e1, hk q (Nat.lt_of_lt_of_le h1 hS.1) h2]; exact hS.2.1 q h1 h2, fun q hq => by
      rcases List.mem_append.mp hq with h | h
      · exact hS.2.2 q h
      · exact hL q h⟩ T' rfl X'
  exact ⟨t2, stp t2 a1, b1⟩
section
variable {E : jm_Ev} {X : jm_Lay} {own : String} {cc : ByteArray} {nL d n : Nat} {ret : Option FieldType} {z : Option Value → jm_M → Prop} {w : Nat → jm_LV → List Value → jm_M → Prop}
variable {τ σ : Type} {pc pc' : Nat} {lv : jm_LV} {st stk : List Value} {M : jm_M} {K : τ → Prop}
theorem jm_callV {y : MethodName} {bytes : ByteArray} {maxL d' n' na index : Nat} {ret' : Option FieldType} {As : List Value} {f : Option σ} {g : σ → Option τ} {rv : σ → Option Value} {mm : σ → jm_M} {t ci : Nat} {fs : List (Option (Nat × Nat))} (F : jm_F E X own cc nL ret d n z w) (hd : jm_d cc pc (.invokevirtual index) 3 pc') (hc : jm_CV own index y bytes maxL ret' na) (hna : As.length = na) (hX : jm_obj X t ci fs) (hci : (jm_cl[ci]?).map (fun q => q.1) = some y.cls) (hM : ∀ r, f = some r → jm_Ct E X y bytes maxL ret' d' n' (.ref (jm_a E t 0) :: As) M (rv r) (mm r)) (hst : stk = As.reverse ++ .ref (jm_a E t 0) :: st) (hw : (st.map fun v => v.category).sum ≤ 8) (hR : d' + 1 ≤ d ∧ 8 + (maxL + 11) + n' ≤ n) (kk : ∀ r, jm_G w pc' lv ((rv r).toList ++ st) (mm r) (g r) K) : jm_G w pc lv stk M (f.bind g) K := by
  intro r h1 h2
  cases hf : f with
  | none => rw [hf] at h1; cases h1
  | some r0 =>
  rw [hf] at h1
  have hM := hM r0 hf
  have kk := kk r0 r h1 h2
  obtain ⟨p, e, s, m, args, below, meth, c, rfl, hx, hb, hml, hown, hts, hr, hlk, hK, hdj, hZ⟩ := F
  obtain ⟨hd, rfl⟩ := hd
  obtain ⟨q, hq⟩ := hX
  obtain ⟨w1, w2, w3, w4, w5, w6, w7, w8⟩ := hc
  intro ls H locs hl hP hS
  subst hst
  have hG : GoodIn jm_tb (wsV own index y.cls y (Cond.code y bytes maxL ret' :: jm_tb)) := jm_good (fun w hw => by
    simp only [wsV, List.mem_append, List.mem_cons, List.not_mem_nil, or_false] at hw
    rcases hw with (rfl | rfl | rfl | rfl) | rfl | h
    · exact w1
    · exact w2
    · exact w3
    · exact w4
    · exact w5
    · exact h)
  have hrec : ∃ cell : Cell, H[jm_a E t 0]? = some cell ∧ cell.vm.isStatics = false ∧ s.vm.findClass y.cls = some cell.cls := by
    cases hcc : jm_cl[ci]? with
    | none => rw [hcc] at hci; cases hci
    | some q9 =>
      rw [hcc] at hci
      have e9 : q9.1 = y.cls := Option.some.inj hci
      rw [← e9]
      exact va_recv hK hP hcc (jm_ws_at hq)
  exact jm_call (va_runV (As := As) (rest := st) ⟨hx, hb, hml, hown, hts⟩ hM (cwV na hts hG rfl rfl rfl ⟨rfl, w6, w7, w8⟩ hR) ⟨jm_Pz_blind, hrec, fun U hU hW => ⟨rfl, jm_Pz_at hU hW hP hK hZ hS⟩⟩ rfl hna hl.1 rfl (lv_room hw) hd ⟨Nat.zero_le _, Nat.zero_le _⟩) hS (fun H1 locs1 hP1 hS1 => kk ls H1 locs1 hl hP1 hS1)
theorem jm_callS {y : MethodName} {bytes : ByteArray} {maxL d' n' na index : Nat} {ret' : Option FieldType} {As : List Value} {f : Option σ} {g : σ → Option τ} {rv : σ → Option Value} {mm : σ → jm_M} (F : jm_F E X own cc nL ret d n z w) (hd : jm_d cc pc (.invokestatic index) 3 pc') (hc : jm_CS own index y bytes maxL ret' na) (hna : As.length = na) (hM : ∀ r, f = some r → jm_Ct E X y bytes maxL ret' d' n' As M (rv r) (mm r)) (hst : stk = As.reverse ++ st) (hw : (st.map fun v => v.category).sum ≤ 8) (hR : d' + 1 ≤ d ∧ 8 + (maxL + 11) + n' ≤ n) (kk : ∀ r, jm_G w pc' lv ((rv r).toList ++ st) (mm r) (g r) K) : jm_G w pc lv stk M (f.bind g) K := by
  intro r h1 h2
  cases hf : f with
  | none => rw [hf] at h1; cases h1
  | some r0 =>
  rw [hf] at h1
  have hM := hM r0 hf
  have kk := kk r0 r h1 h2
  obtain ⟨p, e, s, m, args, below, meth, c, rfl, hx, hb, hml, hown, hts, hr, hlk, hK, hdj, hZ⟩ := F
  obtain ⟨hd, rfl⟩ := hd
  obtain ⟨w1, w2, w4, w5, w6, w7, w8⟩ := hc
  intro ls H locs hl hP hS
  subst hst
  have hG : GoodIn jm_tb (Cond.code y bytes maxL ret' :: jm_tb) := jm_good (fun w hw => by
    rcases List.mem_cons.mp hw with rfl | h
    · exact w5
    · exact h)
  exact jm_call (va_runS (As := As) (rest := st) ⟨hx, hb, hml, hown, hts⟩ hM ⟨callB_of na hts hG rfl rfl rfl (hts _ w4) (hts _ w1) ⟨w6, w7, w8⟩ hR, hts _ w2⟩ ⟨jm_Pz_blind, fun U hU hW => ⟨rfl, jm_Pz_at hU hW hP hK hZ hS⟩⟩ rfl hna hl.1 rfl (lv_room hw) hd ⟨Nat.zero_le _, Nat.zero_le _⟩) hS (fun H1 locs1 hP1 hS1 => kk ls H1 locs1 hl hP1 hS1)
end
end
section
def jm_townF (t : Nat) : List (Option (Nat × Nat)) := [none, some (t, 2), some (t, 3), some (t, 4), none, some (t, 6), some (t, 7), some (t, 8), some (t, 9), some (t, 10), some (t, 11), none, none, some (t, 14), some (t, 15)]
def jm_fsX8 : List (Option (Nat × Nat)) := [some (1, 0), some (13, 0), some (2, 0), none, some (14, 0), some (15, 0), some (16, 0), some (17, 0), some (0, 9), some (0, 10), none, some (0, 12)]
def jm_fsX4 : List (Option (Nat × Nat)) := [some (13, 1), none, none]
def jm_fsX5 : List (Option (Nat × Nat)) := [some (14, 1), none, none, some (3, 0)]
def jm_fsX2 : List (Option (Nat × Nat)) := [some (4, 0), some (15, 2), some (15, 3), none, none, none, none]
def jm_fsX0 : List (Option (Nat × Nat)) := [some (16, 1), some (16, 2), none, none]
def jm_fsX1 : List (Option (Nat × Nat)) := [some (17, 1), some (17, 2), some (17, 3), none]
def jm_fsX9 : List (Option (Nat × Nat)) := [some (0, 1), some (0, 2), some (0, 3), some (0, 4), some (0, 5), some (0, 6), some (0, 7), some (0, 8), some (0, 9), some (0, 10), some (0, 11), some (0, 12), some (0, 13), none, none, none, none, none, some (0, 19), some (0, 20), some (0, 21), some (0, 22), some (0, 23), some (0, 24), some (0, 25), some (0, 26), none, none, none, none, none, some (0, 32), none, none, none, none, none, some (0, 38), some (0, 39), some (0, 40), some (0, 41), none, some (0, 43), none]
def jm_LC : jm_Lay := [
  ((0, 0), .inr (.inl (6, jm_fsX8))),
  ((0, 9), .inl 10),
  ((0, 10), .inl 12),
  ((0, 12), .inl 7),
  ((1, 0), .inr (.inl (5, jm_townF 1))),
  ((1, 2), .inl 6),
  ((1, 3), .inl 6),
  ((1, 4), .inl 6),
  ((1, 6), .inl 10),
  ((1, 7), .inl 10),
  ((1, 8), .inl 10),
  ((1, 9), .inl 10),
  ((1, 10), .inl 10),
  ((1, 11), .inl 10),
  ((1, 14), .inl 6),
  ((1, 15), .inl 6),
  ((2, 0), .inr (.inl (5, jm_townF 2))),
  ((2, 2), .inl 6),
  ((2, 3), .inl 6),
  ((2, 4), .inl 6),
  ((2, 6), .inl 10),
  ((2, 7), .inl 10),
  ((2, 8), .inl 10),
  ((2, 9), .inl 10),
  ((2, 10), .inl 10),
  ((2, 11), .inl 10),
  ((2, 14), .inl 6),
  ((2, 15), .inl 6),
  ((3, 0), .inr (.inl (5, jm_townF 3))),
  ((3, 2), .inl 6),
  ((3, 3), .inl 6),
  ((3, 4), .inl 6),
  ((3, 6), .inl 10),
  ((3, 7), .inl 10),
  ((3, 8), .inl 10),
  ((3, 9), .inl 10),
  ((3, 10), .inl 10),
  ((3, 11), .inl 10),
  ((3, 14), .inl 6),
  ((3, 15), .inl 6),
  ((4, 0), .inr (.inl (5, jm_townF 4))),
  ((4, 2), .inl 6),
  ((4, 3), .inl 6),
  ((4, 4), .inl 6),
  ((4, 6), .inl 10),
  ((4, 7), .inl 10),
  ((4, 8), .inl 10),
  ((4, 9), .inl 10),
  ((4, 10), .inl 10),
  ((4, 11), .inl 10),
  ((4, 14), .inl 6),
  ((4, 15), .inl 6),
  ((5, 0), .inr (.inl (5, jm_townF 5))),
  ((5, 2), .inl 6),
  ((5, 3), .inl 6),
  ((5, 4), .inl 6),
  ((5, 6), .inl 10),
  ((5, 7), .inl 10),
  ((5, 8), .inl 10),
  ((5, 9), .inl 10),
  ((5, 10), .inl 10),
  ((5, 11), .inl 10),
  ((5, 14), .inl 6),
  ((5, 15), .inl 6),
  ((6, 0), .inr (.inl (5, jm_townF 6))),
  ((6, 2), .inl 6),
  ((6, 3), .inl 6),
  ((6, 4), .inl 6),
  ((6, 6), .inl 10),
  ((6, 7), .inl 10),
  ((6, 8), .inl 10),
  ((6, 9), .inl 10),
  ((6, 10), .inl 10),
  ((6, 11), .inl 10),
  ((6, 14), .inl 6),
  ((6, 15), .inl 6),
  ((7, 0), .inr (.inl (5, jm_townF 7))),
  ((7, 2), .inl 6),
  ((7, 3), .inl 6),
  ((7, 4), .inl 6),
  ((7, 6), .inl 10),
  ((7, 7), .inl 10),
  ((7, 8), .inl 10),
  ((7, 9), .inl 10),
  ((7, 10), .inl 10),
  ((7, 11), .inl 10),
  ((7, 14), .inl 6),
  ((7, 15), .inl 6),
  ((8, 0), .inr (.inl (5, jm_townF 8))),
  ((8, 2), .inl 6),
  ((8, 3), .inl 6),
  ((8, 4), .inl 6),
  ((8, 6), .inl 10),
  ((8, 7), .inl 10),
  ((8, 8), .inl 10),
  ((8, 9), .inl 10),
  ((8, 10), .inl 10),
  ((8, 11), .inl 10),
  ((8, 14), .inl 6),
  ((8, 15), .inl 6),
  ((9, 0), .inr (.inl (5, jm_townF 9))),
  ((9, 2), .inl 6),
  ((9, 3), .inl 6),
  ((9, 4), .inl 6),
  ((9, 6), .inl 10),
  ((9, 7), .inl 10),
  ((9, 8), .inl 10),
  ((9, 9), .inl 10),
  ((9, 10), .inl 10),
  ((9, 11), .inl 10),
  ((9, 14), .inl 6),
  ((9, 15), .inl 6),
  ((10, 0), .inr (.inl (5, jm_townF 10))),
  ((10, 2), .inl 6),
  ((10, 3), .inl 6),
  ((10, 4), .inl 6),
  ((10, 6), .inl 10),
  ((10, 7), .inl 10),
  ((10, 8), .inl 10),
  ((10, 9), .inl 10),
  ((10, 10), .inl 10),
  ((10, 11), .inl 10),
  ((10, 14), .inl 6),
  ((10, 15), .inl 6),
  ((11, 0), .inr (.inl (5, jm_townF 11))),
  ((11, 2), .inl 6),
  ((11, 3), .inl 6),
  ((11, 4), .inl 6),
  ((11, 6), .inl 10),
  ((11, 7), .inl 10),
  ((11, 8), .inl 10),
  ((11, 9), .inl 10),
  ((11, 10), .inl 10),
  ((11, 11), .inl 10),
  ((11, 14), .inl 6),
  ((11, 15), .inl 6),
  ((12, 0), .inr (.inl (5, jm_townF 12))),
  ((12, 2), .inl 6),
  ((12, 3), .inl 6),
  ((12, 4), .inl 6),
  ((12, 6), .inl 10),
  ((12, 7), .inl 10),
  ((12, 8), .inl 10),
  ((12, 9), .inl 10),
  ((12, 10), .inl 10),
  ((12, 11), .inl 10),
  ((12, 14), .inl 6),
  ((12, 15), .inl 6),
  ((13, 0), .inr (.inl (3, jm_fsX4))),
  ((13, 1), .inr (.inr [(5, 0), (6, 0), (7, 0), (8, 0), (9, 0), (10, 0), (11, 0), (12, 0)])),
  ((14, 0), .inr (.inl (4, jm_fsX5))),
  ((14, 1), .inl 96),
  ((15, 0), .inr (.inl (2, jm_fsX2))),
  ((15, 2), .inl 4),
  ((15, 3), .inl 4),
  ((16, 0), .inr (.inl (0, jm_fsX0))),
  ((16, 1), .inl 10),
  ((16, 2), .inl 10),
  ((17, 0), .inr (.inl (1, jm_fsX1))),
  ((17, 1), .inl 6),
  ((17, 2), .inl 64),
  ((17, 3), .inl 6)]
def jm_LM : jm_Lay := [
  ((0, 0), .inr (.inl (7, jm_fsX9))),
  ((0, 1), .inl 7),
  ((0, 2), .inl 6),
  ((0, 3), .inl 6),
  ((0, 4), .inl 6),
  ((0, 5), .inl 10),
  ((0, 6), .inl 10),
  ((0, 7), .inl 10),
  ((0, 8), .inl 10),
  ((0, 9), .inl 10),
  ((0, 10), .inl 10),
  ((0, 11), .inl 40),
  ((0, 12), .inl 6),
  ((0, 13), .inl 6),
  ((0, 19), .inl 96),
  ((0, 20), .inl 49),
  ((0, 21), .inl 49),
  ((0, 22), .inl 147),
  ((0, 23), .inl 49),
  ((0, 24), .inl 49),
  ((0, 25), .inl 97),
  ((0, 26), .inl 97),
  ((0, 32), .inl 1500),
  ((0, 38), .inl 36),
  ((0, 39), .inl 64),
  ((0, 40), .inl 6),
  ((0, 41), .inl 12),
  ((0, 43), .inl 8)]
def jm_isT (t : Nat) : Prop := 1 ≤ t ∧ t ≤ 12
theorem isT_1 : jm_isT 1 := ⟨by decide, by decide⟩
theorem isT_2 : jm_isT 2 := ⟨by decide, by decide⟩
theorem isT_3 : jm_isT 3 := ⟨by decide, by decide⟩
theorem isT_4 : jm_isT 4 := ⟨by decide, by decide⟩
theorem isT_k {k : Nat} (h : k < 8) : jm_isT (5 + k) := ⟨by omega, by omega⟩
theorem jm_Tcases {t : Nat} (h : jm_isT t) : t = 1 ∨ t = 2 ∨ t = 3 ∨ t = 4 ∨ t = 5 ∨ t = 6 ∨ t = 7 ∨ t = 8 ∨ t = 9 ∨ t = 10 ∨ t = 11 ∨ t = 12 := by
  obtain ⟨h1, h2⟩ := h
  omega
theorem lo_T {t : Nat} (h : jm_isT t) : jm_obj jm_LC t 5 (jm_townF t) := by
  rcases jm_Tcases h with rfl | rfl | rfl | rfl | rfl | rfl | rfl | rfl | rfl | rfl | rfl | rfl
  · exact ⟨4, rfl⟩
  · exact ⟨16, rfl⟩
  · exact ⟨28, rfl⟩
  · exact ⟨40, rfl⟩
  · exact ⟨52, rfl⟩
  · exact ⟨64, rfl⟩
  · exact ⟨76, rfl⟩
  · exact ⟨88, rfl⟩
  · exact ⟨100, rfl⟩
  · exact ⟨112, rfl⟩
  · exact ⟨124, rfl⟩
  · exact ⟨136, rfl⟩
theorem la_T_2 {t : Nat} (h : jm_isT t) : jm_arr jm_LC t 2 6 := by
  rcases jm_Tcases h with rfl | rfl | rfl | rfl | rfl | rfl | rfl | rfl | rfl | rfl | rfl | rfl
  · exact ⟨5, rfl⟩
  · exact ⟨17, rfl⟩
  · exact ⟨29, rfl⟩
  · exact ⟨41, rfl⟩
  · exact ⟨53, rfl⟩
  · exact ⟨65, rfl⟩
  · exact ⟨77, rfl⟩
  · exact ⟨89, rfl⟩
  · exact ⟨101, rfl⟩
  · exact ⟨113, rfl⟩
  · exact ⟨125, rfl⟩
  · exact ⟨137, rfl⟩
theorem la_T_3 {t : Nat} (h : jm_isT t) : jm_arr jm_LC t 3 6 := by
  rcases jm_Tcases h with rfl | rfl | rfl | rfl | rfl | rfl | rfl | rfl | rfl | rfl | rfl | rfl
  · exact ⟨6, rfl⟩
  · exact ⟨18, rfl⟩
  · exact ⟨30, rfl⟩
  · exact ⟨42, rfl⟩
  · exact ⟨54, rfl⟩
  · exact ⟨66, rfl⟩
  · exact ⟨78, rfl⟩
  · exact ⟨90, rfl⟩
  · exact ⟨102, rfl⟩
  · exact ⟨114, rfl⟩
  · exact ⟨126, rfl⟩
  · exact ⟨138, rfl⟩
theorem la_T_4 {t : Nat} (h : jm_isT t) : jm_arr jm_LC t 4 6 := by
  rcases jm_Tcases h with rfl | rfl | rfl | rfl | rfl | rfl | rfl | rfl | rfl | rfl | rfl | rfl
  · exact ⟨7, rfl⟩
  · exact ⟨19, rfl⟩
  · exact ⟨31, rfl⟩
  · exact ⟨43, rfl⟩
  · exact ⟨55, rfl⟩
  · exact ⟨67, rfl⟩
  · exact ⟨79, rfl⟩
  · exact ⟨91, rfl⟩
  · exact ⟨103, rfl⟩
  · exact ⟨115, rfl⟩
  · exact ⟨127, rfl⟩
  · exact ⟨139, rfl⟩
theorem la_T_6 {t : Nat} (h : jm_isT t) : jm_arr jm_LC t 6 10 := by
  rcases jm_Tcases h with rfl | rfl | rfl | rfl | rfl | rfl | rfl | rfl | rfl | rfl | rfl | rfl
  · exact ⟨8, rfl⟩
  · exact ⟨20, rfl⟩
  · exact ⟨32, rfl⟩
  · exact ⟨44, rfl⟩
  · exact ⟨56, rfl⟩
  · exact ⟨68, rfl⟩
  · exact ⟨80, rfl⟩
  · exact ⟨92, rfl⟩
  · exact ⟨104, rfl⟩
  · exact ⟨116, rfl⟩
  · exact ⟨128, rfl⟩
  · exact ⟨140, rfl⟩
theorem la_T_7 {t : Nat} (h : jm_isT t) : jm_arr jm_LC t 7 10 := by
  rcases jm_Tcases h with rfl | rfl | rfl | rfl | rfl | rfl | rfl | rfl | rfl | rfl | rfl | rfl
  · exact ⟨9, rfl⟩
  · exact ⟨21, rfl⟩
  · exact ⟨33, rfl⟩
  · exact ⟨45, rfl⟩
  · exact ⟨57, rfl⟩
  · exact ⟨69, rfl⟩
  · exact ⟨81, rfl⟩
  · exact ⟨93, rfl⟩
  · exact ⟨105, rfl⟩
  · exact ⟨117, rfl⟩
  · exact ⟨129, rfl⟩
  · exact ⟨141, rfl⟩
theorem la_T_8 {t : Nat} (h : jm_isT t) : jm_arr jm_LC t 8 10 := by
  rcases jm_Tcases h with rfl | rfl | rfl | rfl | rfl | rfl | rfl | rfl | rfl | rfl | rfl | rfl
  · exact ⟨10, rfl⟩
  · exact ⟨22, rfl⟩
  · exact ⟨34, rfl⟩
  · exact ⟨46, rfl⟩
  · exact ⟨58, rfl⟩
  · exact ⟨70, rfl⟩
  · exact ⟨82, rfl⟩
  · exact ⟨94, rfl⟩
  · exact ⟨106, rfl⟩
  · exact ⟨118, rfl⟩
  · exact ⟨130, rfl⟩
  · exact ⟨142, rfl⟩
theorem la_T_9 {t : Nat} (h : jm_isT t) : jm_arr jm_LC t 9 10 := by
  rcases jm_Tcases h with rfl | rfl | rfl | rfl | rfl | rfl | rfl | rfl | rfl | rfl | rfl | rfl
  · exact ⟨11, rfl⟩
  · exact ⟨23, rfl⟩
  · exact ⟨35, rfl⟩
  · exact ⟨47, rfl⟩
  · exact ⟨59, rfl⟩
  · exact ⟨71, rfl⟩
  · exact ⟨83, rfl⟩
  · exact ⟨95, rfl⟩
  · exact ⟨107, rfl⟩
  · exact ⟨119, rfl⟩
  · exact ⟨131, rfl⟩
  · exact ⟨143, rfl⟩
theorem la_T_10 {t : Nat} (h : jm_isT t) : jm_arr jm_LC t 10 10 := by
  rcases jm_Tcases h with rfl | rfl | rfl | rfl | rfl | rfl | rfl | rfl | rfl | rfl | rfl | rfl
  · exact ⟨12, rfl⟩
  · exact ⟨24, rfl⟩
  · exact ⟨36, rfl⟩
  · exact ⟨48, rfl⟩
  · exact ⟨60, rfl⟩
  · exact ⟨72, rfl⟩
  · exact ⟨84, rfl⟩
  · exact ⟨96, rfl⟩
  · exact ⟨108, rfl⟩
  · exact ⟨120, rfl⟩
  · exact ⟨132, rfl⟩
  · exact ⟨144, rfl⟩
theorem la_T_11 {t : Nat} (h : jm_isT t) : jm_arr jm_LC t 11 10 := by
  rcases jm_Tcases h with rfl | rfl | rfl | rfl | rfl | rfl | rfl | rfl | rfl | rfl | rfl | rfl
  · exact ⟨13, rfl⟩
  · exact ⟨25, rfl⟩
  · exact ⟨37, rfl⟩
  · exact ⟨49, rfl⟩
  · exact ⟨61, rfl⟩
  · exact ⟨73, rfl⟩
  · exact ⟨85, rfl⟩
  · exact ⟨97, rfl⟩
  · exact ⟨109, rfl⟩
  · exact ⟨121, rfl⟩
  · exact ⟨133, rfl⟩
  · exact ⟨145, rfl⟩
theorem la_T_14 {t : Nat} (h : jm_isT t) : jm_arr jm_LC t 14 6 := by
  rcases jm_Tcases h with rfl | rfl | rfl | rfl | rfl | rfl | rfl | rfl | rfl | rfl | rfl | rfl
  · exact ⟨14, rfl⟩
  · exact ⟨26, rfl⟩
  · exact ⟨38, rfl⟩
  · exact ⟨50, rfl⟩
  · exact ⟨62, rfl⟩
  · exact ⟨74, rfl⟩
  · exact ⟨86, rfl⟩
  · exact ⟨98, rfl⟩
  · exact ⟨110, rfl⟩
  · exact ⟨122, rfl⟩
  · exact ⟨134, rfl⟩
  · exact ⟨146, rfl⟩
theorem la_T_15 {t : Nat} (h : jm_isT t) : jm_arr jm_LC t 15 6 := by
  rcases jm_Tcases h with rfl | rfl | rfl | rfl | rfl | rfl | rfl | rfl | rfl | rfl | rfl | rfl
  · exact ⟨15, rfl⟩
  · exact ⟨27, rfl⟩
  · exact ⟨39, rfl⟩
  · exact ⟨51, rfl⟩
  · exact ⟨63, rfl⟩
  · exact ⟨75, rfl⟩
  · exact ⟨87, rfl⟩
  · exact ⟨99, rfl⟩
  · exact ⟨111, rfl⟩
  · exact ⟨123, rfl⟩
  · exact ⟨135, rfl⟩
  · exact ⟨147, rfl⟩
theorem lo_X8 : jm_obj jm_LC 0 6 jm_fsX8 := ⟨0, rfl⟩
theorem la_X8_9 : jm_arr jm_LC 0 9 10 := ⟨1, rfl⟩
theorem la_X8_10 : jm_arr jm_LC 0 10 12 := ⟨2, rfl⟩
theorem la_X8_12 : jm_arr jm_LC 0 12 7 := ⟨3, rfl⟩
theorem lo_X4 : jm_obj jm_LC 13 3 jm_fsX4 := ⟨148, rfl⟩
theorem lr_X4_1 : jm_rar jm_LC 13 1 [(5, 0), (6, 0), (7, 0), (8, 0), (9, 0), (10, 0), (11, 0), (12, 0)] := ⟨149, rfl⟩
theorem lo_X5 : jm_obj jm_LC 14 4 jm_fsX5 := ⟨150, rfl⟩
theorem la_X5_1 : jm_arr jm_LC 14 1 96 := ⟨151, rfl⟩
theorem lo_X2 : jm_obj jm_LC 15 2 jm_fsX2 := ⟨152, rfl⟩
theorem la_X2_2 : jm_arr jm_LC 15 2 4 := ⟨153, rfl⟩
theorem la_X2_3 : jm_arr jm_LC 15 3 4 := ⟨154, rfl⟩
theorem lo_X0 : jm_obj jm_LC 16 0 jm_fsX0 := ⟨155, rfl⟩
theorem la_X0_1 : jm_arr jm_LC 16 1 10 := ⟨156, rfl⟩
theorem la_X0_2 : jm_arr jm_LC 16 2 10 := ⟨157, rfl⟩
theorem lo_X1 : jm_obj jm_LC 17 1 jm_fsX1 := ⟨158, rfl⟩
theorem la_X1_1 : jm_arr jm_LC 17 1 6 := ⟨159, rfl⟩
theorem la_X1_2 : jm_arr jm_LC 17 2 64 := ⟨160, rfl⟩
theorem la_X1_3 : jm_arr jm_LC 17 3 6 := ⟨161, rfl⟩
theorem jm_keptk : ∀ k, k < 8 → ([(5, 0), (6, 0), (7, 0), (8, 0), (9, 0), (10, 0), (11, 0), (12, 0)] : List (Nat × Nat))[k]? = some (5 + k, 0) := by
  intro k h
  rcases (show k = 0 ∨ k = 1 ∨ k = 2 ∨ k = 3 ∨ k = 4 ∨ k = 5 ∨ k = 6 ∨ k = 7 by omega) with rfl | rfl | rfl | rfl | rfl | rfl | rfl | rfl <;> rfl
theorem lo_X9 : jm_obj jm_LM 0 7 jm_fsX9 := ⟨0, rfl⟩
theorem la_X9_1 : jm_arr jm_LM 0 1 7 := ⟨1, rfl⟩
theorem la_X9_2 : jm_arr jm_LM 0 2 6 := ⟨2, rfl⟩
theorem la_X9_3 : jm_arr jm_LM 0 3 6 := ⟨3, rfl⟩
theorem la_X9_4 : jm_arr jm_LM 0 4 6 := ⟨4, rfl⟩
theorem la_X9_5 : jm_arr jm_LM 0 5 10 := ⟨5, rfl⟩
theorem la_X9_6 : jm_arr jm_LM 0 6 10 := ⟨6, rfl⟩
theorem la_X9_7 : jm_arr jm_LM 0 7 10 := ⟨7, rfl⟩
theorem la_X9_8 : jm_arr jm_LM 0 8 10 := ⟨8, rfl⟩
theorem la_X9_9 : jm_arr jm_LM 0 9 10 := ⟨9, rfl⟩
theorem la_X9_10 : jm_arr jm_LM 0 10 10 := ⟨10, rfl⟩
theorem la_X9_11 : jm_arr jm_LM 0 11 40 := ⟨11, rfl⟩
theorem la_X9_12 : jm_arr jm_LM 0 12 6 := ⟨12, rfl⟩
theorem la_X9_13 : jm_arr jm_LM 0 13 6 := ⟨13, rfl⟩
theorem la_X9_19 : jm_arr jm_LM 0 19 96 := ⟨14, rfl⟩
theorem la_X9_20 : jm_arr jm_LM 0 20 49 := ⟨15, rfl⟩
theorem la_X9_21 : jm_arr jm_LM 0 21 49 := ⟨16, rfl⟩
theorem la_X9_22 : jm_arr jm_LM 0 22 147 := ⟨17, rfl⟩
theorem la_X9_23 : jm_arr jm_LM 0 23 49 := ⟨18, rfl⟩
theorem la_X9_24 : jm_arr jm_LM 0 24 49 := ⟨19, rfl⟩
theorem la_X9_25 : jm_arr jm_LM 0 25 97 := ⟨20, rfl⟩
theorem la_X9_26 : jm_arr jm_LM 0 26 97 := ⟨21, rfl⟩
theorem la_X9_32 : jm_arr jm_LM 0 32 1500 := ⟨22, rfl⟩
theorem la_X9_38 : jm_arr jm_LM 0 38 36 := ⟨23, rfl⟩
theorem la_X9_39 : jm_arr jm_LM 0 39 64 := ⟨24, rfl⟩
theorem la_X9_40 : jm_arr jm_LM 0 40 6 := ⟨25, rfl⟩
theorem la_X9_41 : jm_arr jm_LM 0 41 12 := ⟨26, rfl⟩
theorem la_X9_43 : jm_arr jm_LM 0 43 8 := ⟨27, rfl⟩
def sJ_bitCount (p1 : Int32) : Option (Int32) :=
  (some (p1 - (((p1.toUInt32 >>> ((1 : Int32).toUInt32 &&& Int32.toUInt32 31)).toInt32) &&& 1431655765))).bind (fun x1 =>
  (some ((x1 &&& 858993459) + (((x1.toUInt32 >>> ((2 : Int32).toUInt32 &&& Int32.toUInt32 31)).toInt32) &&& 858993459))).bind (fun x2 =>
  (some ((x2 + ((x2.toUInt32 >>> ((4 : Int32).toUInt32 &&& Int32.toUInt32 31)).toInt32)) &&& 252645135)).bind (fun x3 =>
  (some (x3 + ((x3.toUInt32 >>> ((8 : Int32).toUInt32 &&& Int32.toUInt32 31)).toInt32))).bind (fun x4 =>
  (some (x4 + ((x4.toUInt32 >>> ((16 : Int32).toUInt32 &&& Int32.toUInt32 31)).toInt32))).bind (fun x5 =>
  (some (x5 &&& 63)))))))
def sW_refuse (M : jm_M) (p1 : Int32) : Option (Int32 × jm_M) :=
  (jm_rd 7 (M 0 12) (-p1)).bind (fun v1 =>
  (jm_wa 7 M 0 12 (-p1) (v1 + 1)).bind (fun M2 =>
  (some (p1, M2))))
def sS_addLetter (M : jm_M) (p1 : Int32) : Option (Int32 × jm_M) :=
  (if 96 ≤ (M 14 0 1) then
  (some (M 14 0 1, M))
  else
  (jm_wa 96 M 14 1 (M 14 0 1) p1).bind (fun M2 =>
  (jm_wf M2 14 1 ((M2 14 0 1) + 1)).bind (fun M3 =>
  (some (M3 14 0 1, M3)))))
def sW_feed (M : jm_M) (p1 : Int32) : Option (Int32 × jm_M) :=
  (if 0 ≤ p1 then
  (if 255 < p1 then
  (sW_refuse M (-6)).bind (fun r3 =>
  (some (r3.1, r3.2)))
  else
  (if (M 14 0 1) < 96 then
  (sS_addLetter M p1).bind (fun r5 =>
  (some (r5.1, r5.2)))
  else
  (sW_refuse M (-6)).bind (fun r6 =>
  (some (r6.1, r6.2)))))
  else
  (sW_refuse M (-4)).bind (fun r7 =>
  (some (r7.1, r7.2))))
def sS_here (M : jm_M) : Option (Int32) :=
  (if (M 14 0 2) < 0 then
  (some (-1))
  else
  (if (M 14 0 1) ≤ (M 14 0 2) then
  (some (-1))
  else
  (jm_rd 96 (M 14 1) (M 14 0 2)).bind (fun v3 =>
  (some v3))))
def sS_passDigits_L2 (p1 : Int32) (s1 : Int32 × jm_M) : Option ((Int32 × jm_M) ⊕ (jm_M ⊕ (Int32 × jm_M))) :=
  (if p1 ≤ s1.1 then
  (some (.inr (.inl s1.2)))
  else
  (sS_here s1.2).bind (fun r3 =>
  (if r3 < 48 then
  (some (.inr (.inr (0, s1.2))))
  else
  (sS_here s1.2).bind (fun r5 =>
  (if r5 ≤ 57 then
  (jm_wf s1.2 14 2 ((s1.2 14 0 2) + 1)).bind (fun M7 =>
  (some (.inl (s1.1 + 1, M7))))
  else
  (some (.inr (.inr (0, s1.2)))))))))
def sS_passDigits (M : jm_M) (p1 : Int32) : Option (Int32 × jm_M) :=
  Option.bind (jm_loop (sS_passDigits_L2 p1) jm_N (0, M)) (Sum.elim (fun e8 =>
  (some (1, e8))) some)
def sS_isTitleLetter (p1 : Int32) : Option (Int32) :=
  (if p1 < 97 then
  (some 0)
  else
  (if 122 < p1 then
  (some 0)
  else
  (some 1)))
def sS_passTitle_L13  (s4 : jm_M) : Option ((jm_M) ⊕ (jm_M)) :=
  (if (s4 14 0 1) ≤ (s4 14 0 2) then
  (some (.inr s4))
  else
  (sS_here s4).bind (fun r6 =>
  (sS_isTitleLetter r6).bind (fun r7 =>
  (if r7 = 0 then
  (some (.inr s4))
  else
  (jm_wf s4 14 2 ((s4 14 0 2) + 1)).bind (fun M9 =>
  (some (.inl M9)))))))
def sS_passTitle (M : jm_M) : Option (Int32 × jm_M) :=
  (sS_here M).bind (fun r1 =>
  (sS_isTitleLetter r1).bind (fun r2 =>
  (if r2 = 0 then
  (some (0, M))
  else
  Option.bind (jm_loop (sS_passTitle_L13) jm_N M) (fun e10 =>
  (some (1, e10))))))
def sS_stepHere_L2 (M : jm_M) (s1 : Int32) : Option ((Int32) ⊕ (Unit ⊕ (Int32))) :=
  (if 8 ≤ s1 then
  (some (.inr (.inl ())))
  else
  (jm_rd 8 jm_SL s1).bind (fun v3 =>
  (sS_here M).bind (fun r4 =>
  (if v3 = r4 then
  (some (.inr (.inr s1)))
  else
  (some (.inl (s1 + 1)))))))
def sS_stepHere (M : jm_M) : Option (Int32) :=
  Option.bind (jm_loop (sS_stepHere_L2 M) jm_N 0) (Sum.elim (fun e6 =>
  (some (-9))) some)
def sS_passSteps_L2  (s1 : Int32 × jm_M) : Option ((Int32 × jm_M) ⊕ (jm_M ⊕ (Int32 × jm_M))) :=
  (if 96 ≤ s1.1 then
  (some (.inr (.inl s1.2)))
  else
  (sS_here s1.2).bind (fun r3 =>
  (if r3 = 59 then
  (some (.inr (.inl s1.2)))
  else
  (sS_stepHere s1.2).bind (fun r5 =>
  (if r5 = (-9) then
  (some (.inr (.inr (0, s1.2))))
  else
  (jm_wf s1.2 14 2 ((s1.2 14 0 2) + 1)).bind (fun M7 =>
  (if 4 ≤ r5 then
  (some (.inl (s1.1 + 1, M7)))
  else
  (sS_passDigits M7 2).bind (fun r9 =>
  (if r9.1 = 0 then
  (some (.inr (.inr (0, r9.2))))
  else
  (some (.inl (s1.1 + 1, r9.2))))))))))))
def sS_passSteps (M : jm_M) : Option (Int32 × jm_M) :=
  Option.bind (jm_loop (sS_passSteps_L2) jm_N (0, M)) (Sum.elim (fun e11 =>
  (some (1, e11))) some)
def sS_passBody (M : jm_M) (p1 : Int32) : Option (Int32 × jm_M) :=
  (if p1 = 98 then
  (sS_passDigits M 3).bind (fun r2 =>
  (if r2.1 = 0 then
  (some (0, r2.2))
  else
  (sS_passTitle r2.2).bind (fun r4 =>
  (if r4.1 = 0 then
  (some (0, r4.2))
  else
  (some (1, r4.2))))))
  else
  (if p1 = 108 then
  (sS_passSteps M).bind (fun r7 =>
  (jm_bz r7.1).bind (fun x8 => some (x8, r7.2)))
  else
  (if p1 = 112 then
  (sS_passDigits M 5).bind (fun r11 =>
  (jm_bz r11.1).bind (fun x12 => some (x12, r11.2)))
  else
  (if p1 = 119 then
  (sS_passDigits M 2).bind (fun r15 =>
  (jm_bz r15.1).bind (fun x16 => some (x16, r15.2)))
  else
  (sS_passDigits M 1).bind (fun r18 =>
  (if r18.1 = 0 then
  (some (0, r18.2))
  else
  (sS_passTitle r18.2).bind (fun r20 =>
  (if r20.1 = 0 then
  (some (0, r20.2))
  else
  (some (1, r20.2))))))))))
def sS_passLetter (M : jm_M) (p1 : Int32) : Option (Int32 × jm_M) :=
  (sS_here M).bind (fun r1 =>
  (if r1 = p1 then
  (jm_wf M 14 2 ((M 14 0 2) + 1)).bind (fun M3 =>
  (some (1, M3)))
  else
  (some (0, M))))
def sS_passStatement (M : jm_M) : Option (Int32 × jm_M) :=
  (sS_here M).bind (fun r1 =>
  (if r1 = 112 then
  (jm_wf M 14 2 ((M 14 0 2) + 1)).bind (fun M3 =>
  (sS_passBody M3 r1).bind (fun r4 =>
  (if r4.1 = 0 then
  (some (0, r4.2))
  else
  (sS_passLetter r4.2 59).bind (fun r6 =>
  (if r6.1 = 0 then
  (some (0, r6.2))
  else
  (some (1, r6.2)))))))
  else
  (if r1 = 98 then
  (jm_wf M 14 2 ((M 14 0 2) + 1)).bind (fun M9 =>
  (sS_passBody M9 r1).bind (fun r10 =>
  (if r10.1 = 0 then
  (some (0, r10.2))
  else
  (sS_passLetter r10.2 59).bind (fun r12 =>
  (if r12.1 = 0 then
  (some (0, r12.2))
  else
  (some (1, r12.2)))))))
  else
  (if r1 = 114 then
  (jm_wf M 14 2 ((M 14 0 2) + 1)).bind (fun M15 =>
  (sS_passBody M15 r1).bind (fun r16 =>
  (if r16.1 = 0 then
  (some (0, r16.2))
  else
  (sS_passLetter r16.2 59).bind (fun r18 =>
  (if r18.1 = 0 then
  (some (0, r18.2))
  else
  (some (1, r18.2)))))))
  else
  (if r1 = 104 then
  (jm_wf M 14 2 ((M 14 0 2) + 1)).bind (fun M21 =>
  (sS_passBody M21 r1).bind (fun r22 =>
  (if r22.1 = 0 then
  (some (0, r22.2))
  else
  (sS_passLetter r22.2 59).bind (fun r24 =>
  (if r24.1 = 0 then
  (some (0, r24.2))
  else
  (some (1, r24.2)))))))
  else
  (if r1 = 108 then
  (jm_wf M 14 2 ((M 14 0 2) + 1)).bind (fun M27 =>
  (sS_passBody M27 r1).bind (fun r28 =>
  (if r28.1 = 0 then
  (some (0, r28.2))
  else
  (sS_passLetter r28.2 59).bind (fun r30 =>
  (if r30.1 = 0 then
  (some (0, r30.2))
  else
  (some (1, r30.2)))))))
  else
  (if r1 = 119 then
  (jm_wf M 14 2 ((M 14 0 2) + 1)).bind (fun M33 =>
  (sS_passBody M33 r1).bind (fun r34 =>
  (if r34.1 = 0 then
  (some (0, r34.2))
  else
  (sS_passLetter r34.2 59).bind (fun r36 =>
  (if r36.1 = 0 then
  (some (0, r36.2))
  else
  (some (1, r36.2)))))))
  else
  (some (0, M)))))))))
def sS_canBeRead_L12  (s3 : Int32 × Int32 × jm_M) : Option ((Int32 × Int32 × jm_M) ⊕ (Int32 × jm_M)) :=
  (if 96 ≤ s3.2.1 then
  (some (.inr (s3.1, s3.2.2)))
  else
  (if s3.1 = 0 then
  (some (.inr (s3.1, s3.2.2)))
  else
  (if (s3.2.2 14 0 1) ≤ (s3.2.2 14 0 2) then
  (some (.inr (s3.1, s3.2.2)))
  else
  (sS_passStatement s3.2.2).bind (fun r7 =>
  (some (.inl (r7.1, s3.2.1 + 1, r7.2)))))))
def sS_canBeRead (M : jm_M) : Option (Int32 × jm_M) :=
  (jm_wf M 14 2 0).bind (fun M1 =>
  (sS_passStatement M1).bind (fun r2 =>
  Option.bind (jm_loop (sS_canBeRead_L12) jm_N (r2.1, 0, r2.2)) (fun e8 =>
  (jm_bz e8.1).bind (fun x9 => some (x9, e8.2)))))
def sT_copyFrom (M : jm_M) (t : Nat) (p1 : Nat) : Option (jm_M) :=
  (jm_wf M t 0 (M p1 0 0)).bind (fun M1 =>
  (jm_wc M1 p1 2 t 2 6).bind (fun M2 =>
  (jm_wc M2 p1 3 t 3 6).bind (fun M3 =>
  (jm_wc M3 p1 4 t 4 6).bind (fun M4 =>
  (jm_wf M4 t 4 (M4 p1 0 4)).bind (fun M5 =>
  (jm_wc M5 p1 6 t 6 10).bind (fun M6 =>
  (jm_wc M6 p1 7 t 7 10).bind (fun M7 =>
  (jm_wc M7 p1 8 t 8 10).bind (fun M8 =>
  (jm_wc M8 p1 9 t 9 10).bind (fun M9 =>
  (jm_wc M9 p1 10 t 10 10).bind (fun M10 =>
  (jm_wc M10 p1 11 t 11 10).bind (fun M11 =>
  (jm_wf M11 t 11 (M11 p1 0 11)).bind (fun M12 =>
  (jm_wf M12 t 12 (M12 p1 0 12)).bind (fun M13 =>
  (jm_wc M13 p1 14 t 14 6).bind (fun M14 =>
  (jm_wc M14 p1 15 t 15 6).bind (fun M15 =>
  (some M15))))))))))))))))
def sS_takeNumber_L4 (p1 : Int32) (s1 : Int32 × Int32 × jm_M) : Option ((Int32 × Int32 × jm_M) ⊕ (Int32 × jm_M)) :=
  (if p1 ≤ s1.2.1 then
  (some (.inr (s1.1, s1.2.2)))
  else
  (sS_here s1.2.2).bind (fun r3 =>
  (some (((10 * s1.1) + r3) - 48)).bind (fun x4 =>
  (jm_wf s1.2.2 14 2 ((s1.2.2 14 0 2) + 1)).bind (fun M5 =>
  (some (.inl (x4, s1.2.1 + 1, M5)))))))
def sS_takeNumber (M : jm_M) (p1 : Int32) : Option (Int32 × jm_M) :=
  Option.bind (jm_loop (sS_takeNumber_L4 p1) jm_N (0, 0, M)) (fun e6 =>
  (some (e6.1, e6.2)))
def sT_addPerson (M : jm_M) (t : Nat) (p1 : Int32) (p2 : Int32) (p3 : Int32) : Option (Int32 × jm_M) :=
  (some (M t 0 0)).bind (fun x1 =>
  (if 6 ≤ x1 then
  (some (x1, M))
  else
  (jm_wa 6 M t 2 x1 p1).bind (fun M3 =>
  (jm_wa 6 M3 t 3 x1 p2).bind (fun M4 =>
  (jm_wa 6 M4 t 4 x1 p3).bind (fun M5 =>
  (jm_wf M5 t 0 ((M5 t 0 0) + 1)).bind (fun M6 =>
  (some (x1, M6))))))))
def sS_takePerson (M : jm_M) : Option (Int32 × jm_M) :=
  (sS_takeNumber M 2).bind (fun r1 =>
  (sS_takeNumber r1.2 1).bind (fun r2 =>
  (sS_takeNumber r2.2 2).bind (fun r3 =>
  (if (r3.2 3 0 0) < 6 then
  (sT_addPerson r3.2 3 r1.1 r2.1 r3.1).bind (fun r5 =>
  (some (1, r5.2)))
  else
  (some (0, r3.2))))))
def sI_longer_L9  (s3 : Int32 × Int32) : Option ((Int32 × Int32) ⊕ (Int32)) :=
  (if 4 ≤ s3.2 then
  (some (.inr s3.1))
  else
  (some (s3.1 * 27)).bind (fun x5 =>
  (some (.inl (x5, s3.2 + 1)))))
def sI_longer (p1 : Int32) (p2 : Int32) (p3 : Int32) : Option (Int32) :=
  (some (p3 + 1)).bind (fun x1 =>
  (some (p2 + 1)).bind (fun x2 =>
  Option.bind (jm_loop (sI_longer_L9) jm_N (x1, x2)) (fun e6 =>
  (some (p1 + e6)))))
def sS_takeTitle_L4  (s1 : Int32 × Int32 × jm_M) : Option ((Int32 × Int32 × jm_M) ⊕ (Int32 × Int32 × jm_M)) :=
  (if (s1.2.2 14 0 1) ≤ (s1.2.2 14 0 2) then
  (some (.inr (s1.1, s1.2.1, s1.2.2)))
  else
  (sS_here s1.2.2).bind (fun r3 =>
  (sS_isTitleLetter r3).bind (fun r4 =>
  (if r4 = 0 then
  (some (.inr (s1.1, s1.2.1, s1.2.2)))
  else
  Option.bind (α := Int32) ((if 4 ≤ s1.2.1 then
  (some s1.1)
  else
  (sS_here s1.2.2).bind (fun r8 =>
  (sI_longer s1.1 s1.2.1 (r8 - 97)).bind (fun r9 =>
  (some r9))))) (fun e6 =>
  (jm_wf s1.2.2 14 2 ((s1.2.2 14 0 2) + 1)).bind (fun M10 =>
  (some (.inl (e6, s1.2.1 + 1, M10)))))))))
def sS_takeTitle (M : jm_M) : Option (Int32 × jm_M) :=
  Option.bind (jm_loop (sS_takeTitle_L4) jm_N (0, 0, M)) (fun e11 =>
  (if 4 < e11.2.1 then
  (some ((-1), e11.2.2))
  else
  (some (e11.1, e11.2.2))))
def sT_hasPerson (M : jm_M) (t : Nat) (p1 : Int32) : Option (Int32) :=
  (if p1 < 0 then
  (some 0)
  else
  (if (M t 0 0) ≤ p1 then
  (some 0)
  else
  (some 1)))
def sT_hasKeeper (M : jm_M) (t : Nat) (p1 : Int32) : Option (Int32) :=
  (if p1 = 9 then
  (some 1)
  else
  (sT_hasPerson M t p1).bind (fun r2 =>
  (if r2 = 0 then
  (some 0)
  else
  (some 1))))
def sT_bookWithTitle_L2 (M : jm_M) (t : Nat) (p1 : Int32) (s1 : Int32) : Option ((Int32) ⊕ (Unit ⊕ (Int32))) :=
  (if (M t 0 4) ≤ s1 then
  (some (.inr (.inl ())))
  else
  (jm_rd 10 (M t 11) s1).bind (fun v3 =>
  (if v3 = p1 then
  (some (.inr (.inr s1)))
  else
  (some (.inl (s1 + 1))))))
def sT_bookWithTitle (M : jm_M) (t : Nat) (p1 : Int32) : Option (Int32) :=
  Option.bind (jm_loop (sT_bookWithTitle_L2 M t p1) jm_N 0) (Sum.elim (fun e5 =>
  (some (-9))) some)
def sT_addBook (M : jm_M) (t : Nat) (p1 : Int32) (p2 : Int32) (p3 : Int32) (p4 : Int32) : Option (Int32 × jm_M) :=
  (some (M t 0 4)).bind (fun x1 =>
  (if 10 ≤ x1 then
  (some (x1, M))
  else
  (jm_wa 10 M t 6 x1 p1).bind (fun M3 =>
  (jm_wa 10 M3 t 7 x1 p2).bind (fun M4 =>
  (jm_wa 10 M4 t 8 x1 p3).bind (fun M5 =>
  (jm_wa 10 M5 t 9 x1 p3).bind (fun M6 =>
  (jm_wa 10 M6 t 10 x1 0).bind (fun M7 =>
  (jm_wa 10 M7 t 11 x1 p4).bind (fun M8 =>
  (jm_wf M8 t 4 ((M8 t 0 4) + 1)).bind (fun M9 =>
  (some (x1, M9)))))))))))
def sS_takeBook (M : jm_M) : Option (Int32 × jm_M) :=
  (sS_takeNumber M 1).bind (fun r1 =>
  (sS_takeNumber r1.2 1).bind (fun r2 =>
  (sS_takeNumber r2.2 1).bind (fun r3 =>
  (sS_takeTitle r3.2).bind (fun r4 =>
  (if 8 ≤ r1.1 then
  (some (0, r4.2))
  else
  (sT_hasKeeper r4.2 3 r3.1).bind (fun r6 =>
  (if r6 = 0 then
  (some (0, r4.2))
  else
  (if 10 ≤ (r4.2 3 0 4) then
  (some (0, r4.2))
  else
  (if r4.1 = (-1) then
  (some (0, r4.2))
  else
  (sT_bookWithTitle r4.2 3 r4.1).bind (fun r10 =>
  (if r10 = (-9) then
  (sT_addBook r4.2 3 r1.1 r2.1 r3.1 r4.1).bind (fun r12 =>
  (some (1, r12.2)))
  else
  (some (0, r4.2)))))))))))))
def sT_hasBook (M : jm_M) (t : Nat) (p1 : Int32) : Option (Int32) :=
  (if p1 < 0 then
  (some 0)
  else
  (if (M t 0 4) ≤ p1 then
  (some 0)
  else
  (some 1)))
def sS_takeReading (M : jm_M) : Option (Int32 × jm_M) :=
  (sS_takeNumber M 1).bind (fun r1 =>
  (sS_takeTitle r1.2).bind (fun r2 =>
  (sT_bookWithTitle r2.2 3 r2.1).bind (fun r3 =>
  (sT_hasPerson r2.2 3 r1.1).bind (fun r4 =>
  (if r4 = 0 then
  (some (0, r2.2))
  else
  (sT_hasBook r2.2 3 r3).bind (fun r6 =>
  (if r6 = 0 then
  (some (0, r2.2))
  else
  (jm_rd 10 (r2.2 3 10) r3).bind (fun v8 =>
  (jm_wa 10 r2.2 3 10 r3 (v8 ||| ((1 : Int32) <<< ((r1.1 : Int32) &&& 31)))).bind (fun M9 =>
  (some (1, M9)))))))))))
def sS_takeHolder (M : jm_M) : Option (Int32 × jm_M) :=
  (sS_takeNumber M 1).bind (fun r1 =>
  (sS_takeTitle r1.2).bind (fun r2 =>
  (sT_bookWithTitle r2.2 3 r2.1).bind (fun r3 =>
  (sT_hasKeeper r2.2 3 r1.1).bind (fun r4 =>
  (if r4 = 0 then
  (some (0, r2.2))
  else
  (sT_hasBook r2.2 3 r3).bind (fun r6 =>
  (if r6 = 0 then
  (some (0, r2.2))
  else
  (jm_wa 10 r2.2 3 9 r3 r1.1).bind (fun M8 =>
  (some (1, M8))))))))))
def sT_addStep (M : jm_M) (t : Nat) (p1 : Int32) (p2 : Int32) : Option (jm_M) :=
  (if 6 ≤ (M t 0 12) then
  (some M)
  else
  (jm_wa 6 M t 14 (M t 0 12) p1).bind (fun M2 =>
  (jm_wa 6 M2 t 15 (M2 t 0 12) p2).bind (fun M3 =>
  (jm_wf M3 t 12 ((M3 t 0 12) + 1)).bind (fun M4 =>
  (some M4)))))
def sS_takeLaw_L12  (s2 : Int32 × Int32 × jm_M) : Option ((Int32 × Int32 × jm_M) ⊕ (Int32 × jm_M)) :=
  (if 96 ≤ s2.2.1 then
  (some (.inr (s2.1, s2.2.2)))
  else
  (sS_here s2.2.2).bind (fun r4 =>
  (if r4 = 59 then
  (some (.inr (s2.1, s2.2.2)))
  else
  (sS_stepHere s2.2.2).bind (fun r6 =>
  (jm_wf s2.2.2 14 2 ((s2.2.2 14 0 2) + 1)).bind (fun M7 =>
  Option.bind (α := Int32 × jm_M) ((if 4 ≤ r6 then
  (some (0, M7))
  else
  (sS_takeNumber M7 2).bind (fun r10 =>
  (some (r10.1, r10.2))))) (fun e8 =>
  (sT_addStep e8.2 3 r6 e8.1).bind (fun r11 =>
  (some (.inl (s2.1 + 1, s2.2.1 + 1, r11))))))))))
def sS_takeLaw (M : jm_M) : Option (Int32 × jm_M) :=
  (jm_wf M 3 12 0).bind (fun M1 =>
  Option.bind (jm_loop (sS_takeLaw_L12) jm_N (0, 0, M1)) (fun e12 =>
  (if 6 < e12.1 then
  (some (0, e12.2))
  else
  (some (1, e12.2)))))
def sT_hasRead (M : jm_M) (t : Nat) (p1 : Int32) (p2 : Int32) : Option (Int32) :=
  (jm_rd 10 (M t 10) p2).bind (fun v1 =>
  (some (((v1 : Int32) >>> ((p1 : Int32) &&& 31)) &&& 1)))
def sT_readNext_L5 (M : jm_M) (t : Nat) (p1 : Int32) (s1 : Int32 × Int32) : Option ((Int32 × Int32) ⊕ (Int32)) :=
  (if (M t 0 4) ≤ s1.2 then
  (some (.inr s1.1))
  else
  (jm_rd 10 (M t 9) s1.2).bind (fun v3 =>
  (if v3 = p1 then
  (sT_hasRead M t p1 s1.2).bind (fun r5 =>
  (if r5 = 0 then
  (if s1.1 = (-9) then
  (some (.inl (s1.2, s1.2 + 1)))
  else
  (jm_rd 10 (M t 11) s1.2).bind (fun v8 =>
  (jm_rd 10 (M t 11) s1.1).bind (fun v9 =>
  (if v9 ≤ v8 then
  (some (.inl (s1.1, s1.2 + 1)))
  else
  (some (.inl (s1.2, s1.2 + 1)))))))
  else
  (some (.inl (s1.1, s1.2 + 1)))))
  else
  (some (.inl (s1.1, s1.2 + 1))))))
def sT_readNext (M : jm_M) (t : Nat) (p1 : Int32) : Option (jm_M) :=
  Option.bind (jm_loop (sT_readNext_L5 M t p1) jm_N ((-9), 0)) (fun e11 =>
  (if e11 = (-9) then
  (some M)
  else
  (jm_rd 10 (M t 10) e11).bind (fun v13 =>
  (jm_wa 10 M t 10 e11 (v13 ||| ((1 : Int32) <<< ((p1 : Int32) &&& 31)))).bind (fun M14 =>
  (jm_rd 10 (M14 t 8) e11).bind (fun v15 =>
  (jm_wa 10 M14 t 9 e11 v15).bind (fun M16 =>
  (some M16)))))))
def sT_weekPasses_L12 (t : Nat) (p1 : Int32) (s2 : Int32 × jm_M) : Option ((Int32 × jm_M) ⊕ (jm_M)) :=
  (if (s2.2 t 0 0) ≤ s2.1 then
  (some (.inr s2.2))
  else
  (jm_rd 6 (s2.2 t 3) s2.1).bind (fun v4 =>
  (some (v4 + 2)).bind (fun x5 =>
  Option.bind (α := jm_M) ((if x5 ≤ 0 then
  (some s2.2)
  else
  (jm_rm (s2.2 t 0 11) x5).bind (fun v8 =>
  (if v8 = 0 then
  (jm_rd 6 (s2.2 t 2) s2.1).bind (fun v10 =>
  (jm_wa 6 s2.2 t 2 s2.1 (jm_min 99 (v10 + 1))).bind (fun M11 =>
  (some M11)))
  else
  (some s2.2))))) (fun e6 =>
  (if p1 = 0 then
  (some (.inl (s2.1 + 1, e6)))
  else
  (sT_readNext e6 t s2.1).bind (fun r13 =>
  (some (.inl (s2.1 + 1, r13)))))))))
def sT_weekPasses (M : jm_M) (t : Nat) (p1 : Int32) : Option (jm_M) :=
  (jm_wf M t 11 ((M t 0 11) + 1)).bind (fun M1 =>
  Option.bind (jm_loop (sT_weekPasses_L12 t p1) jm_N (0, M1)) (fun e14 =>
  (some e14)))
def sT_weeksPass_L2 (p1 : Int32) (t : Nat) (s1 : Int32 × jm_M) : Option ((Int32 × jm_M) ⊕ (jm_M)) :=
  (if p1 ≤ s1.1 then
  (some (.inr s1.2))
  else
  (sT_weekPasses s1.2 t 1).bind (fun r3 =>
  (some (.inl (s1.1 + 1, r3)))))
def sT_weeksPass (M : jm_M) (t : Nat) (p1 : Int32) : Option (jm_M) :=
  Option.bind (jm_loop (sT_weeksPass_L2 p1 t) jm_N (0, M)) (fun e4 =>
  (some e4))
def sS_takeWeeks (M : jm_M) : Option (Int32 × jm_M) :=
  (sS_takeNumber M 2).bind (fun r1 =>
  (if r1.1 < 1 then
  (some (0, r1.2))
  else
  (if 60 < r1.1 then
  (some (0, r1.2))
  else
  (if ((r1.2 3 0 11) + r1.1) ≤ 999 then
  (sT_weeksPass r1.2 3 r1.1).bind (fun r5 =>
  (some (1, r5)))
  else
  (some (0, r1.2))))))
def sS_takeBody (M : jm_M) (p1 : Int32) : Option (Int32 × jm_M) :=
  (if p1 = 98 then
  (sS_takeBook M).bind (fun r2 =>
  (jm_bz r2.1).bind (fun x3 => some (x3, r2.2)))
  else
  (if p1 = 104 then
  (sS_takeHolder M).bind (fun r6 =>
  (jm_bz r6.1).bind (fun x7 => some (x7, r6.2)))
  else
  (if p1 = 108 then
  (sS_takeLaw M).bind (fun r10 =>
  (jm_bz r10.1).bind (fun x11 => some (x11, r10.2)))
  else
  (if p1 = 112 then
  (sS_takePerson M).bind (fun r14 =>
  (jm_bz r14.1).bind (fun x15 => some (x15, r14.2)))
  else
  (if p1 = 114 then
  (sS_takeReading M).bind (fun r18 =>
  (jm_bz r18.1).bind (fun x19 => some (x19, r18.2)))
  else
  (sS_takeWeeks M).bind (fun r21 =>
  (jm_bz r21.1).bind (fun x22 => some (x22, r21.2))))))))
def sS_tellTo_L31  (s5 : Int32 × jm_M) : Option ((Int32 × jm_M) ⊕ ((Int32 × jm_M) ⊕ (Int32 × jm_M))) :=
  (if 96 ≤ s5.1 then
  (some (.inr (.inl (s5.1, s5.2))))
  else
  (if (s5.2 14 0 1) ≤ (s5.2 14 0 2) then
  (some (.inr (.inl (s5.1, s5.2))))
  else
  (some (s5.2 14 0 2)).bind (fun x8 =>
  (sS_here s5.2).bind (fun r9 =>
  (jm_wf s5.2 14 2 ((s5.2 14 0 2) + 1)).bind (fun M10 =>
  (sS_takeBody M10 r9).bind (fun r11 =>
  (if r11.1 = 0 then
  (some (.inr (.inr ((-2000) - x8, r11.2))))
  else
  (jm_wf r11.2 14 2 ((r11.2 14 0 2) + 1)).bind (fun M13 =>
  (some (.inl (s5.1 + 1, M13)))))))))))
def sS_tellTo (M : jm_M) (p1 : Nat) : Option (Int32 × jm_M) :=
  (sS_canBeRead M).bind (fun r1 =>
  (if r1.1 = 0 then
  (some ((-1000) - (r1.2 14 0 2), r1.2))
  else
  (sT_copyFrom r1.2 3 p1).bind (fun r3 =>
  (jm_wf r3 14 2 0).bind (fun M4 =>
  Option.bind (jm_loop (sS_tellTo_L31) jm_N (0, M4)) (Sum.elim (fun e14 =>
  (sT_copyFrom e14.2 p1 3).bind (fun r15 =>
  (some (e14.1, r15)))) some)))))
def sP_forget (M : jm_M) : Option (jm_M) :=
  (jm_wf M 13 2 0).bind (fun M1 =>
  (some M1))
def sW_town (M : jm_M) : Option (Int32 × jm_M) :=
  (sS_tellTo M 1).bind (fun r1 =>
  (jm_wf r1.2 14 1 0).bind (fun M2 =>
  (if r1.1 < 0 then
  (some (r1.1, M2))
  else
  (sP_forget M2).bind (fun r4 =>
  (some (r1.1, r4))))))
def sW_comes (M : jm_M) (p1 : Int32) (p2 : Int32) (p3 : Int32) : Option (Int32 × jm_M) :=
  (if p1 < 0 then
  (sW_refuse M (-4)).bind (fun r2 =>
  (some (r2.1, r2.2)))
  else
  (if p2 < 0 then
  (sW_refuse M (-4)).bind (fun r4 =>
  (some (r4.1, r4.2)))
  else
  (if 0 ≤ p3 then
  (if 99 < p1 then
  (sW_refuse M (-6)).bind (fun r7 =>
  (some (r7.1, r7.2)))
  else
  (if 9 < p2 then
  (sW_refuse M (-6)).bind (fun r9 =>
  (some (r9.1, r9.2)))
  else
  (if 99 < p3 then
  (sW_refuse M (-6)).bind (fun r11 =>
  (some (r11.1, r11.2)))
  else
  (if (M 1 0 0) < 6 then
  (sP_forget M).bind (fun r13 =>
  (sT_addPerson r13 1 p1 p2 p3).bind (fun r14 =>
  (some (r14.1, r14.2))))
  else
  (sW_refuse M (-6)).bind (fun r15 =>
  (some (r15.1, r15.2)))))))
  else
  (sW_refuse M (-4)).bind (fun r16 =>
  (some (r16.1, r16.2))))))
def sI_ofLetter (p1 : Int32) : Option (Int32) :=
  (sI_longer 0 0 p1).bind (fun r1 =>
  (some r1))
def sW_brings (M : jm_M) (p1 : Int32) (p2 : Int32) (p3 : Int32) (p4 : Int32) : Option (Int32 × jm_M) :=
  (if p1 < 0 then
  (sW_refuse M (-2)).bind (fun r2 =>
  (some (r2.1, r2.2)))
  else
  (if p1 < 8 then
  (if p2 < 0 then
  (sW_refuse M (-4)).bind (fun r5 =>
  (some (r5.1, r5.2)))
  else
  (if 0 ≤ p4 then
  (if 9 < p2 then
  (sW_refuse M (-6)).bind (fun r8 =>
  (some (r8.1, r8.2)))
  else
  (if 25 < p4 then
  (sW_refuse M (-6)).bind (fun r10 =>
  (some (r10.1, r10.2)))
  else
  (if (M 1 0 4) < 10 then
  (sT_hasKeeper M 1 p3).bind (fun r12 =>
  (if r12 = 0 then
  (sW_refuse M (-1)).bind (fun r14 =>
  (some (r14.1, r14.2)))
  else
  (sI_ofLetter p4).bind (fun r15 =>
  (sT_bookWithTitle M 1 r15).bind (fun r16 =>
  (if r16 < 0 then
  (sP_forget M).bind (fun r18 =>
  (sT_addBook r18 1 p1 p2 p3 r15).bind (fun r19 =>
  (some (r19.1, r19.2))))
  else
  (sW_refuse M (-3)).bind (fun r20 =>
  (some (r20.1, r20.2))))))))
  else
  (sW_refuse M (-6)).bind (fun r21 =>
  (some (r21.1, r21.2))))))
  else
  (sW_refuse M (-4)).bind (fun r22 =>
  (some (r22.1, r22.2)))))
  else
  (sW_refuse M (-2)).bind (fun r23 =>
  (some (r23.1, r23.2)))))
def sT_booksReadBy_L4 (M : jm_M) (t : Nat) (p1 : Int32) (s1 : Int32 × Int32) : Option ((Int32 × Int32) ⊕ (Int32)) :=
  (if (M t 0 4) ≤ s1.2 then
  (some (.inr s1.1))
  else
  (sT_hasRead M t p1 s1.2).bind (fun r3 =>
  (some (s1.1 ||| ((r3 : Int32) <<< ((s1.2 : Int32) &&& 31)))).bind (fun x4 =>
  (some (.inl (x4, s1.2 + 1))))))
def sT_booksReadBy (M : jm_M) (t : Nat) (p1 : Int32) : Option (Int32) :=
  Option.bind (jm_loop (sT_booksReadBy_L4 M t p1) jm_N (0, 0)) (fun e5 =>
  (some e5))
def sT_readingsOf (M : jm_M) (t : Nat) (p1 : Int32) : Option (Int32) :=
  (sT_booksReadBy M t p1).bind (fun r1 =>
  (sJ_bitCount r1).bind (fun r2 =>
  (some r2)))
def sT_booksWith_L5 (M : jm_M) (t : Nat) (p1 : Nat × Nat) (p2 : Int32) (s1 : Int32 × Int32) : Option ((Int32 × Int32) ⊕ (Int32)) :=
  (if (M t 0 4) ≤ s1.2 then
  (some (.inr s1.1))
  else
  (jm_len jm_LC p1).bind (fun N3 =>
  (if (nI N3) ≤ s1.2 then
  (some (.inr s1.1))
  else
  (jm_len jm_LC p1).bind (fun N5 =>
  (jm_rd N5 (M p1.1 p1.2) s1.2).bind (fun v6 =>
  (if v6 = p2 then
  (some (.inl (s1.1 + 1, s1.2 + 1)))
  else
  (some (.inl (s1.1, s1.2 + 1)))))))))
def sT_booksWith (M : jm_M) (t : Nat) (p1 : Nat × Nat) (p2 : Int32) : Option (Int32) :=
  Option.bind (jm_loop (sT_booksWith_L5 M t p1 p2) jm_N (0, 0)) (fun e8 =>
  (some e8))
def sW_person (M : jm_M) (p1 : Int32) (p2 : Int32) : Option (Int32 × jm_M) :=
  (sT_hasPerson M 1 p1).bind (fun r1 =>
  (if r1 = 0 then
  (sW_refuse M (-1)).bind (fun r3 =>
  (some (r3.1, r3.2)))
  else
  (if p2 = 0 then
  (jm_rd 6 (M 1 2) p1).bind (fun v5 =>
  (some (v5, M)))
  else
  (if p2 = 1 then
  (jm_rd 6 (M 1 3) p1).bind (fun v7 =>
  (some (v7, M)))
  else
  (if p2 = 2 then
  (jm_rd 6 (M 1 4) p1).bind (fun v9 =>
  (some (v9, M)))
  else
  (if p2 = 3 then
  (sT_readingsOf M 1 p1).bind (fun r11 =>
  (some (r11, M)))
  else
  (if p2 = 4 then
  (sT_booksWith M 1 (1, 9) p1).bind (fun r13 =>
  (some (r13, M)))
  else
  (if p2 = 5 then
  (sT_booksWith M 1 (1, 8) p1).bind (fun r15 =>
  (some (r15, M)))
  else
  (sW_refuse M (-2)).bind (fun r16 =>
  (some (r16.1, r16.2)))))))))))
def sI_lengthOf_L4  (s1 : Int32 × Int32) : Option ((Int32 × Int32) ⊕ (Int32)) :=
  (if s1.1 ≤ 0 then
  (some (.inr s1.1))
  else
  (jm_rm s1.2 27).bind (fun v3 =>
  (if v3 = 0 then
  (jm_dv s1.2 27).bind (fun v5 =>
  (some (.inl (s1.1 + (-1), v5))))
  else
  (some (.inr s1.1)))))
def sI_lengthOf (p1 : Int32) : Option (Int32) :=
  Option.bind (jm_loop (sI_lengthOf_L4) jm_N (4, p1)) (fun e6 =>
  (some e6))
def sT_weighs (M : jm_M) (t : Nat) (p1 : Int32) : Option (Int32) :=
  (jm_rd 10 (M t 10) p1).bind (fun v1 =>
  (sJ_bitCount v1).bind (fun r2 =>
  (jm_rd 10 (M t 7) p1).bind (fun v3 =>
  (some (2 * v3)).bind (fun x4 =>
  Option.bind (α := Int32) ((if r2 = 0 then
  (some 0)
  else
  (jm_rd 10 (M t 7) p1).bind (fun v7 =>
  (some (v7 + r2))))) (fun e5 =>
  (some (e5 + 2)).bind (fun x8 =>
  (some (x8 + r2)).bind (fun x9 =>
  Option.bind (α := Int32) ((if r2 = 0 then
  (jm_rd 10 (M t 7) p1).bind (fun v12 =>
  (some (v12 + 5)))
  else
  (some e5))) (fun e10 =>
  (jm_rd 10 (M t 6) p1).bind (fun v13 =>
  (if v13 = 0 then
  (some e5)
  else
  (if v13 = 1 then
  (some x8)
  else
  (if v13 = 2 then
  (some x4)
  else
  (if v13 = 3 then
  (some e10)
  else
  (if v13 = 4 then
  (some x9)
  else
  (if v13 = 5 then
  (jm_dv x4 2).bind (fun v20 =>
  (jm_rd 10 (M t 11) p1).bind (fun v21 =>
  (sI_lengthOf v21).bind (fun r22 =>
  (some (v20 + r22)))))
  else
  (if v13 = 6 then
  (jm_rm (M t 0 11) 2).bind (fun v24 =>
  (if v24 = 1 then
  (some (e10 + 3))
  else
  (some (e10 + 0))))
  else
  (some (jm_max 10 x9))))))))))))))))))
def sT_priceOf (M : jm_M) (t : Nat) (p1 : Int32) : Option (Int32) :=
  (jm_rd 10 (M t 7) p1).bind (fun v1 =>
  (some (v1 + 1)).bind (fun x2 =>
  (some (3 * x2)).bind (fun x3 =>
  (jm_rd 10 (M t 6) p1).bind (fun v4 =>
  (if v4 = 0 then
  (some x2)
  else
  (if v4 = 1 then
  (some 2)
  else
  (if v4 = 2 then
  (some x3)
  else
  (if v4 = 3 then
  (some 1)
  else
  (if v4 = 4 then
  (jm_rd 10 (M t 7) p1).bind (fun v10 =>
  (some (2 + v10)))
  else
  (if v4 = 5 then
  (some (jm_max 0 (x3 - 5)))
  else
  (if v4 = 6 then
  (some (1 + 4))
  else
  (some 0))))))))))))
def sW_book (M : jm_M) (p1 : Int32) (p2 : Int32) : Option (Int32 × jm_M) :=
  (sT_hasBook M 1 p1).bind (fun r1 =>
  (if r1 = 0 then
  (sW_refuse M (-1)).bind (fun r3 =>
  (some (r3.1, r3.2)))
  else
  (if p2 = 0 then
  (jm_rd 10 (M 1 6) p1).bind (fun v5 =>
  (some (v5, M)))
  else
  (if p2 = 1 then
  (jm_rd 10 (M 1 7) p1).bind (fun v7 =>
  (some (v7, M)))
  else
  (if p2 = 2 then
  (jm_rd 10 (M 1 8) p1).bind (fun v9 =>
  (some (v9, M)))
  else
  (if p2 = 3 then
  (jm_rd 10 (M 1 9) p1).bind (fun v11 =>
  (some (v11, M)))
  else
  (if p2 = 4 then
  (jm_rd 10 (M 1 10) p1).bind (fun v13 =>
  (some (v13, M)))
  else
  (if p2 = 5 then
  (sT_weighs M 1 p1).bind (fun r15 =>
  (some (r15, M)))
  else
  (if p2 = 6 then
  (sT_priceOf M 1 p1).bind (fun r17 =>
  (some (r17, M)))
  else
  (if p2 = 7 then
  (jm_rd 10 (M 1 11) p1).bind (fun v19 =>
  (sI_lengthOf v19).bind (fun r20 =>
  (some (r20, M))))
  else
  (sW_refuse M (-2)).bind (fun r21 =>
  (some (r21.1, r21.2)))))))))))))
def sI_letterAt_L6  (s2 : Int32 × Int32) : Option ((Int32 × Int32) ⊕ (Int32)) :=
  (if 4 ≤ s2.2 then
  (some (.inr s2.1))
  else
  (jm_dv s2.1 27).bind (fun v4 =>
  (some (.inl (v4, s2.2 + 1)))))
def sI_letterAt (p1 : Int32) (p2 : Int32) : Option (Int32) :=
  (some (p2 + 1)).bind (fun x1 =>
  Option.bind (jm_loop (sI_letterAt_L6) jm_N (p1, x1)) (fun e5 =>
  (jm_rm e5 27).bind (fun v6 =>
  (some (v6 - 1)))))
def sW_title (M : jm_M) (p1 : Int32) (p2 : Int32) : Option (Int32 × jm_M) :=
  (sT_hasBook M 1 p1).bind (fun r1 =>
  (if r1 = 0 then
  (sW_refuse M (-1)).bind (fun r3 =>
  (some (r3.1, r3.2)))
  else
  (if 0 ≤ p2 then
  (jm_rd 10 (M 1 11) p1).bind (fun v5 =>
  (sI_lengthOf v5).bind (fun r6 =>
  (if p2 < r6 then
  (jm_rd 10 (M 1 11) p1).bind (fun v8 =>
  (sI_letterAt v8 p2).bind (fun r9 =>
  (some (r9, M))))
  else
  (some ((-9), M)))))
  else
  (sW_refuse M (-4)).bind (fun r10 =>
  (some (r10.1, r10.2))))))
def sP_keep (M : jm_M) (p1 : Nat) : Option (jm_M) :=
  (jm_rm ((M 13 0 1) + 1) 8).bind (fun v1 =>
  (jm_wf M 13 1 v1).bind (fun M2 =>
  (jm_wf M2 13 2 (jm_min 8 ((M2 13 0 2) + 1))).bind (fun M3 =>
  (jm_ix 8 (M3 13 0 1)).bind (fun k4 =>
  (sT_copyFrom M3 (5 + k4) p1).bind (fun r5 =>
  (some r5))))))
def sW_eats (M : jm_M) (p1 : Int32) (p2 : Int32) : Option (Int32 × jm_M) :=
  (sT_hasPerson M 1 p1).bind (fun r1 =>
  (if r1 = 0 then
  (sW_refuse M (-1)).bind (fun r3 =>
  (some (r3.1, r3.2)))
  else
  (if 0 ≤ p2 then
  (if p2 ≤ 99 then
  (sP_keep M 1).bind (fun r6 =>
  (jm_rd 6 (r6 1 2) p1).bind (fun v7 =>
  (jm_wa 6 r6 1 2 p1 p2).bind (fun M8 =>
  (some (v7, M8)))))
  else
  (sW_refuse M (-6)).bind (fun r9 =>
  (some (r9.1, r9.2))))
  else
  (sW_refuse M (-4)).bind (fun r10 =>
  (some (r10.1, r10.2))))))
def sW_reads (M : jm_M) (p1 : Int32) (p2 : Int32) : Option (Int32 × jm_M) :=
  (sT_hasPerson M 1 p1).bind (fun r1 =>
  (if r1 = 0 then
  (sW_refuse M (-1)).bind (fun r3 =>
  (some (r3.1, r3.2)))
  else
  (sT_hasBook M 1 p2).bind (fun r4 =>
  (if r4 = 0 then
  (sW_refuse M (-1)).bind (fun r6 =>
  (some (r6.1, r6.2)))
  else
  (sP_keep M 1).bind (fun r7 =>
  (sT_hasRead r7 1 p1 p2).bind (fun r8 =>
  (some (1 - r8)).bind (fun x9 =>
  (jm_rd 10 (r7 1 10) p2).bind (fun v10 =>
  (jm_wa 10 r7 1 10 p2 (v10 ||| ((1 : Int32) <<< ((p1 : Int32) &&& 31)))).bind (fun M11 =>
  (some (x9, M11)))))))))))
def sW_lends (M : jm_M) (p1 : Int32) (p2 : Int32) : Option (Int32 × jm_M) :=
  (sT_hasBook M 1 p1).bind (fun r1 =>
  (if r1 = 0 then
  (sW_refuse M (-1)).bind (fun r3 =>
  (some (r3.1, r3.2)))
  else
  (sT_hasKeeper M 1 p2).bind (fun r4 =>
  (if r4 = 0 then
  (sW_refuse M (-1)).bind (fun r6 =>
  (some (r6.1, r6.2)))
  else
  (sP_keep M 1).bind (fun r7 =>
  (jm_rd 10 (r7 1 9) p1).bind (fun v8 =>
  (jm_wa 10 r7 1 9 p1 p2).bind (fun M9 =>
  (some (v8, M9)))))))))
def sW_buys (M : jm_M) (p1 : Int32) (p2 : Int32) : Option (Int32 × jm_M) :=
  (sT_hasPerson M 1 p1).bind (fun r1 =>
  (if r1 = 0 then
  (sW_refuse M (-1)).bind (fun r3 =>
  (some (r3.1, r3.2)))
  else
  (sT_hasBook M 1 p2).bind (fun r4 =>
  (if r4 = 0 then
  (sW_refuse M (-1)).bind (fun r6 =>
  (some (r6.1, r6.2)))
  else
  (sT_priceOf M 1 p2).bind (fun r7 =>
  (jm_rd 10 (M 1 8) p2).bind (fun v8 =>
  (if v8 = 9 then
  (jm_rd 6 (M 1 4) p1).bind (fun v10 =>
  (if r7 ≤ v10 then
  (sP_keep M 1).bind (fun r12 =>
  (jm_wa 10 r12 1 8 p2 p1).bind (fun M13 =>
  (jm_wa 10 M13 1 9 p2 p1).bind (fun M14 =>
  (jm_rd 6 (M14 1 4) p1).bind (fun v15 =>
  (jm_wa 6 M14 1 4 p1 (v15 - r7)).bind (fun M16 =>
  (jm_rd 6 (M16 1 4) p1).bind (fun v17 =>
  (some (v17, M16))))))))
  else
  (sW_refuse M (-3)).bind (fun r18 =>
  (some (r18.1, r18.2)))))
  else
  (sW_refuse M (-3)).bind (fun r19 =>
  (some (r19.1, r19.2))))))))))
def sW_step (M : jm_M) (p1 : Int32) (p2 : Int32) : Option (Int32 × jm_M) :=
  (if p1 < 0 then
  (sW_refuse M (-2)).bind (fun r2 =>
  (some (r2.1, r2.2)))
  else
  (if p1 < 8 then
  (if 0 ≤ p2 then
  (if 99 < p2 then
  (sW_refuse M (-6)).bind (fun r6 =>
  (some (r6.1, r6.2)))
  else
  (if (M 1 0 12) < 6 then
  (sP_keep M 1).bind (fun r8 =>
  (sT_addStep r8 1 p1 p2).bind (fun r9 =>
  (some (r9 1 0 12, r9))))
  else
  (sW_refuse M (-6)).bind (fun r10 =>
  (some (r10.1, r10.2)))))
  else
  (sW_refuse M (-4)).bind (fun r11 =>
  (some (r11.1, r11.2))))
  else
  (sW_refuse M (-2)).bind (fun r12 =>
  (some (r12.1, r12.2)))))
def sW_clearLaw (M : jm_M) : Option (Int32 × jm_M) :=
  (sP_keep M 1).bind (fun r1 =>
  (some (r1 1 0 12)).bind (fun x2 =>
  (jm_wf r1 1 12 0).bind (fun M3 =>
  (some (x2, M3)))))
def sW_weeks (M : jm_M) (p1 : Int32) : Option (Int32 × jm_M) :=
  (if 1 ≤ p1 then
  (if 60 < p1 then
  (sW_refuse M (-6)).bind (fun r3 =>
  (some (r3.1, r3.2)))
  else
  (if ((M 1 0 11) + p1) ≤ 999 then
  (sP_keep M 1).bind (fun r5 =>
  (sT_weeksPass r5 1 p1).bind (fun r6 =>
  (some (r6 1 0 11, r6))))
  else
  (sW_refuse M (-6)).bind (fun r7 =>
  (some (r7.1, r7.2)))))
  else
  (sW_refuse M (-4)).bind (fun r8 =>
  (some (r8.1, r8.2))))
def sP_giveBack (M : jm_M) (p1 : Nat) : Option (jm_M) :=
  (jm_ix 8 (M 13 0 1)).bind (fun k1 =>
  (sT_copyFrom M p1 (5 + k1)).bind (fun r2 =>
  (jm_rm (((r2 13 0 1) + 8) - 1) 8).bind (fun v3 =>
  (jm_wf r2 13 1 v3).bind (fun M4 =>
  (jm_wf M4 13 2 ((M4 13 0 2) - 1)).bind (fun M5 =>
  (some M5))))))
def sW_back (M : jm_M) : Option (Int32 × jm_M) :=
  (if (M 13 0 2) = 0 then
  (sW_refuse M (-3)).bind (fun r2 =>
  (some (r2.1, r2.2)))
  else
  (sP_giveBack M 1).bind (fun r3 =>
  (some (r3 13 0 2, r3))))
def sW_areTwo (M : jm_M) (p1 : Int32) (p2 : Int32) : Option (Int32) :=
  (sT_hasPerson M 1 p1).bind (fun r1 =>
  (if r1 = 0 then
  (some 0)
  else
  (sT_hasPerson M 1 p2).bind (fun r3 =>
  (if r3 = 0 then
  (some 0)
  else
  (if p1 = p2 then
  (some 0)
  else
  (some 1))))))
def sT_isOnPan (M : jm_M) (t : Nat) (p1 : Int32) (p2 : Int32) (p3 : Int32) : Option (Int32) :=
  (jm_rd 10 (M t 9) p3).bind (fun v1 =>
  (if v1 = p1 then
  (some 1)
  else
  (jm_rd 10 (M t 9) p3).bind (fun v3 =>
  (if v3 = p2 then
  (some 1)
  else
  (some 0)))))
def sT_stepped (M : jm_M) (t : Nat) (p1 : Int32) (p2 : Int32) (p3 : Int32) : Option (Int32) :=
  (jm_rd 6 (M t 15) p2).bind (fun v1 =>
  (jm_rd 6 (M t 14) p2).bind (fun v2 =>
  (if v2 = 0 then
  (some (p1 + v1))
  else
  (if v2 = 1 then
  (some (jm_max 0 (p1 - v1)))
  else
  (if v2 = 2 then
  (some (jm_min p1 v1))
  else
  (if v2 = 3 then
  (if v1 ≤ p1 then
  (some p1)
  else
  (some 0))
  else
  (if v2 = 4 then
  (if p3 = 2 then
  (some (2 * p1))
  else
  (some p1))
  else
  (if v2 = 5 then
  (if p3 = 0 then
  (some 0)
  else
  (some p1))
  else
  (if v2 = 6 then
  (jm_dv p1 2).bind (fun v13 =>
  (some v13))
  else
  (jm_rm (M t 0 11) 2).bind (fun v14 =>
  (some (p1 + v14))))))))))))
def sT_comesTo_L25 (M : jm_M) (t : Nat) (x3 : Int32) (s5 : Int32 × Int32) : Option ((Int32 × Int32) ⊕ (Int32)) :=
  (if (M t 0 12) ≤ s5.2 then
  (some (.inr s5.1))
  else
  (sT_stepped M t s5.1 s5.2 x3).bind (fun r7 =>
  (some (.inl (r7, s5.2 + 1)))))
def sT_comesTo (M : jm_M) (t : Nat) (p1 : Int32) (p2 : Int32) (p3 : Int32) : Option (Int32) :=
  (sT_hasRead M t p1 p3).bind (fun r1 =>
  (sT_hasRead M t p2 p3).bind (fun r2 =>
  (some (r1 + r2)).bind (fun x3 =>
  (sT_weighs M t p3).bind (fun r4 =>
  Option.bind (jm_loop (sT_comesTo_L25 M t x3) jm_N (r4, 0)) (fun e8 =>
  (some e8))))))
def sT_overOf_L18 (M : jm_M) (t : Nat) (p1 : Int32) (p2 : Int32) (s4 : Int32 × Int32) : Option ((Int32 × Int32) ⊕ (Int32)) :=
  (if (M t 0 4) ≤ s4.2 then
  (some (.inr s4.1))
  else
  (sT_isOnPan M t p1 p2 s4.2).bind (fun r6 =>
  (if r6 = 0 then
  (some (.inl (s4.1, s4.2 + 1)))
  else
  (sT_comesTo M t p1 p2 s4.2).bind (fun r8 =>
  (some (s4.1 + r8)).bind (fun x9 =>
  (some (.inl (x9, s4.2 + 1))))))))
def sT_overOf (M : jm_M) (t : Nat) (p1 : Int32) (p2 : Int32) : Option (Int32) :=
  (jm_rd 6 (M t 2) p1).bind (fun v1 =>
  (jm_rd 6 (M t 2) p2).bind (fun v2 =>
  (some ((-v1) - v2)).bind (fun x3 =>
  Option.bind (jm_loop (sT_overOf_L18 M t p1 p2) jm_N (x3, 0)) (fun e10 =>
  (some e10)))))
def sW_over (M : jm_M) (p1 : Int32) (p2 : Int32) : Option (Int32 × jm_M) :=
  (sW_areTwo M p1 p2).bind (fun r1 =>
  (if r1 = 0 then
  (sW_refuse M (-1)).bind (fun r3 =>
  (some (1000000000 - r3.1, r3.2)))
  else
  (sT_overOf M 1 p1 p2).bind (fun r4 =>
  (some (r4, M)))))
def sW_pan (M : jm_M) (p1 : Int32) (p2 : Int32) (p3 : Int32) : Option (Int32 × jm_M) :=
  (sW_areTwo M p1 p2).bind (fun r1 =>
  (if r1 = 0 then
  (sW_refuse M (-1)).bind (fun r3 =>
  (some (r3.1, r3.2)))
  else
  (sT_hasBook M 1 p3).bind (fun r4 =>
  (if r4 = 0 then
  (sW_refuse M (-1)).bind (fun r6 =>
  (some (r6.1, r6.2)))
  else
  (sT_comesTo M 1 p1 p2 p3).bind (fun r7 =>
  (some (r7, M)))))))
def sW_isNeither (p1 : Int32) : Option (Int32) :=
  (if p1 = 0 then
  (some 0)
  else
  (if p1 = 1 then
  (some 0)
  else
  (some 1)))
def sB_offer_L6 (p1 : Nat) (p2 : Int32) (p3 : Int32) (s1 : Int32 × Int32 × jm_M) : Option ((Int32 × Int32 × jm_M) ⊕ (Int32 × jm_M)) :=
  (if (s1.2.2 p1 0 4) ≤ s1.2.1 then
  (some (.inr (s1.1, s1.2.2)))
  else
  (sT_priceOf s1.2.2 p1 s1.2.1).bind (fun r3 =>
  (jm_wa 10 s1.2.2 16 1 s1.2.1 r3).bind (fun M4 =>
  (sT_comesTo M4 p1 p2 p3 s1.2.1).bind (fun r5 =>
  (jm_wa 10 M4 16 2 s1.2.1 r5).bind (fun M6 =>
  (jm_rd 10 (M6 p1 8) s1.2.1).bind (fun v7 =>
  (if v7 = 9 then
  (sT_isOnPan M6 p1 p2 p3 s1.2.1).bind (fun r9 =>
  (if r9 = 0 then
  (some (s1.1 ||| ((1 : Int32) <<< ((s1.2.1 : Int32) &&& 31)))).bind (fun x11 =>
  (some (.inl (x11, s1.2.1 + 1, M6))))
  else
  (some (.inl (s1.1, s1.2.1 + 1, M6)))))
  else
  (some (.inl (s1.1, s1.2.1 + 1, M6))))))))))
def sB_offer (M : jm_M) (p1 : Nat) (p2 : Int32) (p3 : Int32) : Option (Int32 × jm_M) :=
  Option.bind (jm_loop (sB_offer_L6 p1 p2 p3) jm_N (0, 0, M)) (fun e12 =>
  (some (e12.1, e12.2)))
def sB_sumOf_L6 (p3 : Int32) (p1 : Nat × Nat) (p2 : Int32) (M : jm_M) (s1 : Int32 × Int32) : Option ((Int32 × Int32) ⊕ (Int32)) :=
  (if p3 ≤ s1.2 then
  (some (.inr s1.1))
  else
  (jm_len jm_LC p1).bind (fun N3 =>
  (if (nI N3) ≤ s1.2 then
  (some (.inr s1.1))
  else
  (if (((p2 : Int32) >>> ((s1.2 : Int32) &&& 31)) &&& 1) = 1 then
  (jm_len jm_LC p1).bind (fun N6 =>
  (jm_rd N6 (M p1.1 p1.2) s1.2).bind (fun v7 =>
  (some (s1.1 + v7)).bind (fun x8 =>
  (some (.inl (x8, s1.2 + 1))))))
  else
  (some (.inl (s1.1, s1.2 + 1)))))))
def sB_sumOf (M : jm_M) (p1 : Nat × Nat) (p2 : Int32) (p3 : Int32) : Option (Int32) :=
  Option.bind (jm_loop (sB_sumOf_L6 p3 p1 p2 M) jm_N (0, 0)) (fun e9 =>
  (some e9))
def sB_takeIfBetter (M : jm_M) (p1 : Int32) (p2 : Int32) : Option (jm_M) :=
  (if (M 16 0 2) = (-9) then
  (jm_wf M 16 2 p1).bind (fun M2 =>
  (jm_wf M2 16 3 p2).bind (fun M3 =>
  (some M3)))
  else
  (if p2 < (M 16 0 3) then
  (jm_wf M 16 2 p1).bind (fun M5 =>
  (jm_wf M5 16 3 p2).bind (fun M6 =>
  (some M6)))
  else
  (if p2 = (M 16 0 3) then
  (sJ_bitCount p1).bind (fun r8 =>
  (sJ_bitCount (M 16 0 2)).bind (fun r9 =>
  (if r9 ≤ r8 then
  (some M)
  else
  (jm_wf M 16 2 p1).bind (fun M11 =>
  (jm_wf M11 16 3 p2).bind (fun M12 =>
  (some M12))))))
  else
  (some M))))
def sB_seek_L33 (p1 : Nat) (r3 : Int32 × jm_M) (x2 : Int32) (s6 : Int32 × jm_M) : Option ((Int32 × jm_M) ⊕ (jm_M)) :=
  (if ((1 : Int32) <<< ((s6.2 p1 0 4 : Int32) &&& 31)) ≤ s6.1 then
  (some (.inr s6.2))
  else
  (if (s6.1 &&& (r3.1 ^^^ (-1))) = 0 then
  (sB_sumOf s6.2 (16, 2) s6.1 (s6.2 p1 0 4)).bind (fun r9 =>
  (if r9 < x2 then
  (some (.inl (s6.1 + 1, s6.2)))
  else
  (sB_sumOf s6.2 (16, 1) s6.1 (s6.2 p1 0 4)).bind (fun r11 =>
  (sB_takeIfBetter s6.2 s6.1 r11).bind (fun r12 =>
  (some (.inl (s6.1 + 1, r12)))))))
  else
  (some (.inl (s6.1 + 1, s6.2)))))
def sB_seek (M : jm_M) (p1 : Nat) (p2 : Int32) (p3 : Int32) : Option (jm_M) :=
  (sT_overOf M p1 p2 p3).bind (fun r1 =>
  (some (-r1)).bind (fun x2 =>
  (sB_offer M p1 p2 p3).bind (fun r3 =>
  (jm_wf r3.2 16 2 (-9)).bind (fun M4 =>
  (jm_wf M4 16 3 (-9)).bind (fun M5 =>
  Option.bind (jm_loop (sB_seek_L33 p1 r3 x2) jm_N (0, M5)) (fun e13 =>
  (some e13)))))))
def sW_buy (M : jm_M) (p1 : Int32) (p2 : Int32) (p3 : Int32) : Option (Int32 × jm_M) :=
  (sW_areTwo M p1 p2).bind (fun r1 =>
  (if r1 = 0 then
  (sW_refuse M (-1)).bind (fun r3 =>
  (some (r3.1, r3.2)))
  else
  (sW_isNeither p3).bind (fun r4 =>
  (if r4 = 0 then
  (sB_seek M 1 p1 p2).bind (fun r6 =>
  (if p3 = 0 then
  (some (r6 16 0 2, r6))
  else
  (some (r6 16 0 3, r6))))
  else
  (sW_refuse M (-2)).bind (fun r8 =>
  (some (r8.1, r8.2)))))))
def sT_comesDown (M : jm_M) (t : Nat) (p1 : Int32) (p2 : Int32) : Option (Int32) :=
  (sT_overOf M t p1 p2).bind (fun r1 =>
  (if r1 < 0 then
  (some 0)
  else
  (some 1)))
def sC_weighAll_L21 (p1 : Nat) (s1 : Int32 × jm_M) (s5 : Int32 × jm_M) : Option ((Int32 × jm_M) ⊕ (jm_M)) :=
  (if (s5.2 p1 0 0) ≤ s5.1 then
  (some (.inr s5.2))
  else
  (sT_comesDown s5.2 p1 s1.1 s5.1).bind (fun r7 =>
  (if r7 = 0 then
  (some (.inl (s5.1 + 1, s5.2)))
  else
  (jm_rd 6 (s5.2 17 1) s1.1).bind (fun v9 =>
  (jm_wa 6 s5.2 17 1 s1.1 (v9 ||| ((1 : Int32) <<< ((s5.1 : Int32) &&& 31)))).bind (fun M10 =>
  (some (.inl (s5.1 + 1, M10))))))))
def sC_weighAll_L2 (p1 : Nat) (s1 : Int32 × jm_M) : Option ((Int32 × jm_M) ⊕ (jm_M)) :=
  (if (s1.2 p1 0 0) ≤ s1.1 then
  (some (.inr s1.2))
  else
  (jm_wa 6 s1.2 17 1 s1.1 0).bind (fun M3 =>
  (some (s1.1 + 1)).bind (fun x4 =>
  Option.bind (jm_loop (sC_weighAll_L21 p1 s1) jm_N (x4, M3)) (fun e11 =>
  (some (.inl (s1.1 + 1, e11)))))))
def sC_weighAll (M : jm_M) (p1 : Nat) : Option (jm_M) :=
  Option.bind (jm_loop (sC_weighAll_L2 p1) jm_N (0, M)) (fun e12 =>
  (some e12))
def sC_firstOf_L2 (p2 : Int32) (p1 : Int32) (s1 : Int32) : Option ((Int32) ⊕ (Unit ⊕ (Int32))) :=
  (if p2 ≤ s1 then
  (some (.inr (.inl ())))
  else
  (if (p1 &&& ((1 : Int32) <<< ((s1 : Int32) &&& 31))) = 0 then
  (some (.inl (s1 + 1)))
  else
  (some (.inr (.inr s1)))))
def sC_firstOf (p1 : Int32) (p2 : Int32) : Option (Int32) :=
  Option.bind (jm_loop (sC_firstOf_L2 p2 p1) jm_N 0) (Sum.elim (fun e4 =>
  (some 0)) some)
def sC_mostAmong_L30 (p2 : Int32) (M : jm_M) (r1 : Int32) (x2 : Int32) (s5 : Int32 × Int32) : Option ((Int32 × Int32) ⊕ (Int32)) :=
  (if p2 ≤ s5.2 then
  (some (.inr s5.1))
  else
  (jm_rd 6 (M 17 1) r1).bind (fun v7 =>
  (if ((x2 &&& v7) &&& ((1 : Int32) <<< ((s5.2 : Int32) &&& 31))) = 0 then
  (some (.inl (s5.1, s5.2 + 1)))
  else
  (jm_rd 64 (M 17 2) (x2 &&& (((1 : Int32) <<< ((s5.2 : Int32) &&& 31)) ^^^ (-1)))).bind (fun v9 =>
  (some (jm_max s5.1 (1 + v9))).bind (fun x10 =>
  (some (.inl (x10, s5.2 + 1))))))))
def sC_mostAmong (M : jm_M) (p1 : Int32) (p2 : Int32) : Option (Int32) :=
  (sC_firstOf p1 p2).bind (fun r1 =>
  (some (p1 &&& (((1 : Int32) <<< ((r1 : Int32) &&& 31)) ^^^ (-1)))).bind (fun x2 =>
  (jm_rd 64 (M 17 2) x2).bind (fun v3 =>
  (some (r1 + 1)).bind (fun x4 =>
  Option.bind (jm_loop (sC_mostAmong_L30 p2 M r1 x2) jm_N (v3, x4)) (fun e11 =>
  (some e11))))))
def sC_firstPartner_L14 (p3 : Int32) (M : jm_M) (p1 : Int32) (x1 : Int32) (p2 : Int32) (s3 : Int32) : Option ((Int32) ⊕ (Unit ⊕ (Int32))) :=
  (if p3 ≤ s3 then
  (some (.inr (.inl ())))
  else
  (jm_rd 6 (M 17 1) p1).bind (fun v5 =>
  (if ((x1 &&& v5) &&& ((1 : Int32) <<< ((s3 : Int32) &&& 31))) = 0 then
  (some (.inl (s3 + 1)))
  else
  (jm_rd 64 (M 17 2) (x1 &&& (((1 : Int32) <<< ((s3 : Int32) &&& 31)) ^^^ (-1)))).bind (fun v7 =>
  (jm_rd 64 (M 17 2) p2).bind (fun v8 =>
  (if (1 + v7) = v8 then
  (some (.inr (.inr s3)))
  else
  (some (.inl (s3 + 1)))))))))
def sC_firstPartner (M : jm_M) (p1 : Int32) (p2 : Int32) (p3 : Int32) : Option (Int32) :=
  (some (p2 &&& (((1 : Int32) <<< ((p1 : Int32) &&& 31)) ^^^ (-1)))).bind (fun x1 =>
  (some (p1 + 1)).bind (fun x2 =>
  Option.bind (jm_loop (sC_firstPartner_L14 p3 M p1 x1 p2) jm_N x2) (Sum.elim (fun e10 =>
  (some (-9))) some)))
def sC_pair_L5 (p2 : Int32) (s1 : Int32 × jm_M) : Option ((Int32 × jm_M) ⊕ (jm_M)) :=
  (if p2 ≤ s1.1 then
  (some (.inr s1.2))
  else
  (jm_wa 6 s1.2 17 3 s1.1 (-9)).bind (fun M3 =>
  (some (.inl (s1.1 + 1, M3)))))
def sC_pair_L29 (p2 : Int32) (s5 : Int32 × Int32 × jm_M) : Option ((Int32 × Int32 × jm_M) ⊕ (jm_M)) :=
  (if p2 ≤ s5.2.1 then
  (some (.inr s5.2.2))
  else
  (if (s5.1 &&& ((1 : Int32) <<< ((s5.2.1 : Int32) &&& 31))) = 0 then
  (some (.inl (s5.1, s5.2.1 + 1, s5.2.2)))
  else
  (sC_firstPartner s5.2.2 s5.2.1 s5.1 p2).bind (fun r8 =>
  (some (s5.1 &&& (((1 : Int32) <<< ((s5.2.1 : Int32) &&& 31)) ^^^ (-1)))).bind (fun x9 =>
  (if r8 = (-9) then
  (some (.inl (x9, s5.2.1 + 1, s5.2.2)))
  else
  (jm_wa 6 s5.2.2 17 3 s5.2.1 r8).bind (fun M11 =>
  (jm_wa 6 M11 17 3 r8 s5.2.1).bind (fun M12 =>
  (some (x9 &&& (((1 : Int32) <<< ((r8 : Int32) &&& 31)) ^^^ (-1)))).bind (fun x13 =>
  (some (.inl (x13, s5.2.1 + 1, M12)))))))))))
def sC_pair (M : jm_M) (p1 : Int32) (p2 : Int32) : Option (jm_M) :=
  Option.bind (jm_loop (sC_pair_L5 p2) jm_N (0, M)) (fun e4 =>
  Option.bind (jm_loop (sC_pair_L29 p2) jm_N (p1, 0, e4)) (fun e14 =>
  (some e14)))
def sC_choose_L16 (x2 : Int32) (p1 : Nat) (s3 : Int32 × jm_M) : Option ((Int32 × jm_M) ⊕ (jm_M)) :=
  (if x2 < s3.1 then
  (some (.inr s3.2))
  else
  (sC_mostAmong s3.2 s3.1 (s3.2 p1 0 0)).bind (fun r5 =>
  (jm_wa 64 s3.2 17 2 s3.1 r5).bind (fun M6 =>
  (some (.inl (s3.1 + 1, M6))))))
def sC_choose (M : jm_M) (p1 : Nat) : Option (jm_M) :=
  (sC_weighAll M p1).bind (fun r1 =>
  (some (((1 : Int32) <<< ((r1 p1 0 0 : Int32) &&& 31)) - 1)).bind (fun x2 =>
  Option.bind (jm_loop (sC_choose_L16 x2 p1) jm_N (1, r1)) (fun e7 =>
  (jm_rd 64 (e7 17 2) x2).bind (fun v8 =>
  (jm_wf e7 17 3 v8).bind (fun M9 =>
  (sC_pair M9 x2 (M9 p1 0 0)).bind (fun r10 =>
  (some r10)))))))
def sW_couples (M : jm_M) (p1 : Int32) : Option (Int32 × jm_M) :=
  (if p1 = (-1) then
  (sC_choose M 1).bind (fun r2 =>
  (if p1 = (-1) then
  (some (r2 17 0 3, r2))
  else
  (jm_rd 6 (r2 17 3) p1).bind (fun v4 =>
  (some (v4, r2)))))
  else
  (sT_hasPerson M 1 p1).bind (fun r5 =>
  (if r5 = 0 then
  (sW_refuse M (-1)).bind (fun r7 =>
  (some (r7.1, r7.2)))
  else
  (sC_choose M 1).bind (fun r8 =>
  (if p1 = (-1) then
  (some (r8 17 0 3, r8))
  else
  (jm_rd 6 (r8 17 3) p1).bind (fun v10 =>
  (some (v10, r8))))))))
def sW_isHeavier (M : jm_M) (p1 : Int32) (p2 : Int32) (p3 : Int32) (p4 : Int32) : Option (Int32) :=
  (sT_comesTo M 1 p1 p2 p3).bind (fun r1 =>
  (sT_comesTo M 1 p1 p2 p4).bind (fun r2 =>
  (if r2 < r1 then
  (some 1)
  else
  (if r1 = r2 then
  (jm_rd 10 (M 1 11) p3).bind (fun v5 =>
  (jm_rd 10 (M 1 11) p4).bind (fun v6 =>
  (if v6 ≤ v5 then
  (some 0)
  else
  (some 1))))
  else
  (some 0)))))
def sW_orderPan_L34 (p1 : Int32) (p2 : Int32) (s1 : Int32 × Int32 × jm_M) (s5 : Int32 × jm_M) : Option ((Int32 × jm_M) ⊕ (Int32 × jm_M)) :=
  (if s5.1 ≤ 0 then
  (some (.inr (s5.1, s5.2)))
  else
  (jm_rd 10 (s5.2 0 9) (s5.1 - 1)).bind (fun v7 =>
  (sW_isHeavier s5.2 p1 p2 s1.2.1 v7).bind (fun r8 =>
  (if r8 = 0 then
  (some (.inr (s5.1, s5.2)))
  else
  (jm_rd 10 (s5.2 0 9) (s5.1 - 1)).bind (fun v10 =>
  (jm_wa 10 s5.2 0 9 s5.1 v10).bind (fun M11 =>
  (some (.inl (s5.1 + (-1), M11)))))))))
def sW_orderPan_L5 (p1 : Int32) (p2 : Int32) (s1 : Int32 × Int32 × jm_M) : Option ((Int32 × Int32 × jm_M) ⊕ (Int32 × jm_M)) :=
  (if (s1.2.2 1 0 4) ≤ s1.2.1 then
  (some (.inr (s1.1, s1.2.2)))
  else
  (sT_isOnPan s1.2.2 1 p1 p2 s1.2.1).bind (fun r3 =>
  (if r3 = 0 then
  (some (.inl (s1.1, s1.2.1 + 1, s1.2.2)))
  else
  Option.bind (jm_loop (sW_orderPan_L34 p1 p2 s1) jm_N (s1.1, s1.2.2)) (fun e12 =>
  (jm_wa 10 e12.2 0 9 e12.1 s1.2.1).bind (fun M13 =>
  (some (.inl (s1.1 + 1, s1.2.1 + 1, M13))))))))
def sW_orderPan (M : jm_M) (p1 : Int32) (p2 : Int32) : Option (Int32 × jm_M) :=
  Option.bind (jm_loop (sW_orderPan_L5 p1 p2) jm_N (0, 0, M)) (fun e14 =>
  (some (e14.1, e14.2)))
def sW_heaviest (M : jm_M) (p1 : Int32) (p2 : Int32) (p3 : Int32) : Option (Int32 × jm_M) :=
  (sW_areTwo M p1 p2).bind (fun r1 =>
  (if r1 = 0 then
  (sW_refuse M (-1)).bind (fun r3 =>
  (some (r3.1, r3.2)))
  else
  (if 0 ≤ p3 then
  (sW_orderPan M p1 p2).bind (fun r5 =>
  (if r5.1 ≤ p3 then
  (some ((-9), r5.2))
  else
  (jm_rd 10 (r5.2 0 9) p3).bind (fun v7 =>
  (some (v7, r5.2)))))
  else
  (sW_refuse M (-4)).bind (fun r8 =>
  (some (r8.1, r8.2))))))
def sF_think (M : jm_M) (p1 : Nat) : Option (jm_M) :=
  (sT_copyFrom M 4 p1).bind (fun r1 =>
  (some r1))
def sF_after (M : jm_M) (p1 : Nat) (p2 : Int32) : Option (jm_M) :=
  (sF_think M p1).bind (fun r1 =>
  (sT_weeksPass r1 4 p2).bind (fun r2 =>
  (some r2)))
def sW_overThen (M : jm_M) (p1 : Int32) (p2 : Int32) (p3 : Int32) : Option (Int32 × jm_M) :=
  (sW_areTwo M p1 p2).bind (fun r1 =>
  (if r1 = 0 then
  (sW_refuse M (-1)).bind (fun r3 =>
  (some (1000000000 - r3.1, r3.2)))
  else
  (if 0 ≤ p3 then
  (if p3 ≤ 60 then
  (sF_after M 1 p3).bind (fun r6 =>
  (sT_overOf r6 4 p1 p2).bind (fun r7 =>
  (some (r7, r6))))
  else
  (sW_refuse M (-6)).bind (fun r8 =>
  (some (1000000000 - r8.1, r8.2))))
  else
  (sW_refuse M (-4)).bind (fun r9 =>
  (some (1000000000 - r9.1, r9.2))))))
def sW_then (M : jm_M) (p1 : Int32) (p2 : Int32) (p3 : Int32) : Option (Int32 × jm_M) :=
  (if 0 ≤ p1 then
  (if p1 ≤ 60 then
  (if p2 < 0 then
  (sW_refuse M (-2)).bind (fun r4 =>
  (some (r4.1, r4.2)))
  else
  (if p2 ≤ 2 then
  (if p2 = 0 then
  (sT_hasPerson M 1 p3).bind (fun r7 =>
  (if r7 = 0 then
  (sW_refuse M (-1)).bind (fun r9 =>
  (some (r9.1, r9.2)))
  else
  (sF_after M 1 p1).bind (fun r10 =>
  (if p2 = 0 then
  (jm_rd 6 (r10 4 2) p3).bind (fun v12 =>
  (some (v12, r10)))
  else
  (if p2 = 1 then
  (jm_rd 10 (r10 4 10) p3).bind (fun v14 =>
  (sJ_bitCount v14).bind (fun r15 =>
  (some (r15, r10))))
  else
  (jm_rd 10 (r10 4 9) p3).bind (fun v16 =>
  (some (v16, r10))))))))
  else
  (sT_hasBook M 1 p3).bind (fun r17 =>
  (if r17 = 0 then
  (sW_refuse M (-1)).bind (fun r19 =>
  (some (r19.1, r19.2)))
  else
  (sF_after M 1 p1).bind (fun r20 =>
  (if p2 = 0 then
  (jm_rd 6 (r20 4 2) p3).bind (fun v22 =>
  (some (v22, r20)))
  else
  (if p2 = 1 then
  (jm_rd 10 (r20 4 10) p3).bind (fun v24 =>
  (sJ_bitCount v24).bind (fun r25 =>
  (some (r25, r20))))
  else
  (jm_rd 10 (r20 4 9) p3).bind (fun v26 =>
  (some (v26, r20)))))))))
  else
  (sW_refuse M (-2)).bind (fun r27 =>
  (some (r27.1, r27.2)))))
  else
  (sW_refuse M (-6)).bind (fun r28 =>
  (some (r28.1, r28.2))))
  else
  (sW_refuse M (-4)).bind (fun r29 =>
  (some (r29.1, r29.2))))
def sF_weeksTillDown_L3 (p3 : Int32) (p1 : Int32) (p2 : Int32) (s1 : Int32 × jm_M) : Option ((Int32 × jm_M) ⊕ (jm_M ⊕ (Int32 × jm_M))) :=
  (if p3 < s1.1 then
  (some (.inr (.inl s1.2)))
  else
  (sT_comesDown s1.2 4 p1 p2).bind (fun r3 =>
  (if r3 = 0 then
  (sT_weekPasses s1.2 4 1).bind (fun r5 =>
  (some (.inl (s1.1 + 1, r5))))
  else
  (some (.inr (.inr (s1.1, s1.2)))))))
def sF_weeksTillDown (M : jm_M) (p1 : Int32) (p2 : Int32) (p3 : Int32) : Option (Int32 × jm_M) :=
  Option.bind (jm_loop (sF_weeksTillDown_L3 p3 p1 p2) jm_N (0, M)) (Sum.elim (fun e6 =>
  (some ((-9), e6))) some)
def sF_whenDown (M : jm_M) (p1 : Nat) (p2 : Int32) (p3 : Int32) : Option (Int32 × jm_M) :=
  (sF_think M p1).bind (fun r1 =>
  (sF_weeksTillDown r1 p2 p3 60).bind (fun r2 =>
  (some (r2.1, r2.2))))
def sW_when (M : jm_M) (p1 : Int32) (p2 : Int32) : Option (Int32 × jm_M) :=
  (sW_areTwo M p1 p2).bind (fun r1 =>
  (if r1 = 0 then
  (sW_refuse M (-1)).bind (fun r3 =>
  (some (r3.1, r3.2)))
  else
  (sF_whenDown M 1 p1 p2).bind (fun r4 =>
  (some (r4.1, r4.2)))))
def sF_firstFreshlyDown_L14 (M : jm_M) (p1 : Nat) (s1 : Int32) (s4 : Int32) : Option ((Int32) ⊕ (Unit ⊕ ((Int32) ⊕ (Unit ⊕ (Int32))))) :=
  (if (M p1 0 0) ≤ s4 then
  (some (.inr (.inl ())))
  else
  (sT_comesDown M 4 s1 s4).bind (fun r6 =>
  (if r6 = 0 then
  (some (.inl (s4 + 1)))
  else
  (sT_comesDown M p1 s1 s4).bind (fun r8 =>
  (if r8 = 0 then
  (some (.inr (.inr (.inr (.inr ((10 * s1) + s4))))))
  else
  (some (.inl (s4 + 1))))))))
def sF_firstFreshlyDown_L2 (M : jm_M) (p1 : Nat) (s1 : Int32) : Option ((Int32) ⊕ (Unit ⊕ (Int32))) :=
  (if (M p1 0 0) ≤ s1 then
  (some (.inr (.inl ())))
  else
  (some (s1 + 1)).bind (fun x3 =>
  Option.bind (jm_loop (sF_firstFreshlyDown_L14 M p1 s1) jm_N x3) (Sum.elim (fun e10 =>
  (some (.inl (s1 + 1)))) some)))
def sF_firstFreshlyDown (M : jm_M) (p1 : Nat) : Option (Int32) :=
  Option.bind (jm_loop (sF_firstFreshlyDown_L2 M p1) jm_N 0) (Sum.elim (fun e11 =>
  (some (-9))) some)
def sF_firstDown_L7 (p1 : Nat) (s2 : Int32 × jm_M) : Option ((Int32 × jm_M) ⊕ (jm_M ⊕ (Int32 × jm_M))) :=
  (if 60 ≤ s2.1 then
  (some (.inr (.inl s2.2)))
  else
  (sT_weekPasses s2.2 4 1).bind (fun r4 =>
  (sF_firstFreshlyDown r4 p1).bind (fun r5 =>
  (if r5 = (-9) then
  (some (.inl (s2.1 + 1, r4)))
  else
  (some (.inr (.inr (r5, r4))))))))
def sF_firstDown (M : jm_M) (p1 : Nat) : Option (Int32 × jm_M) :=
  (sF_think M p1).bind (fun r1 =>
  Option.bind (jm_loop (sF_firstDown_L7 p1) jm_N (0, r1)) (Sum.elim (fun e7 =>
  (some ((-9), e7))) some))
def sW_first (M : jm_M) : Option (Int32 × jm_M) :=
  (sF_firstDown M 1).bind (fun r1 =>
  (some (r1.1, r1.2)))
def sF_seekLoan_L19 (p1 : Nat) (p2 : Int32) (p3 : Int32) (s3 : Int32 × Int32 × jm_M) : Option ((Int32 × Int32 × jm_M) ⊕ (jm_M)) :=
  (if (s3.2.2 p1 0 4) ≤ s3.2.1 then
  (some (.inr s3.2.2))
  else
  (sT_isOnPan s3.2.2 p1 p2 p3 s3.2.1).bind (fun r5 =>
  (if r5 = 0 then
  (sF_think s3.2.2 p1).bind (fun r7 =>
  (jm_wa 10 r7 4 9 s3.2.1 p2).bind (fun M8 =>
  (sF_weeksTillDown M8 p2 p3 s3.1).bind (fun r9 =>
  (if r9.1 = (-9) then
  (some (.inl (s3.1, s3.2.1 + 1, r9.2)))
  else
  (jm_wf r9.2 15 3 s3.2.1).bind (fun M11 =>
  (jm_wf M11 15 4 r9.1).bind (fun M12 =>
  (some (r9.1 - 1)).bind (fun x13 =>
  (some (.inl (x13, s3.2.1 + 1, M12))))))))))
  else
  (some (.inl (s3.1, s3.2.1 + 1, s3.2.2))))))
def sF_seekLoan (M : jm_M) (p1 : Nat) (p2 : Int32) (p3 : Int32) : Option (jm_M) :=
  (jm_wf M 15 3 (-9)).bind (fun M1 =>
  (jm_wf M1 15 4 (-9)).bind (fun M2 =>
  Option.bind (jm_loop (sF_seekLoan_L19 p1 p2 p3) jm_N (60, 0, M2)) (fun e14 =>
  (some e14))))
def sW_borrow (M : jm_M) (p1 : Int32) (p2 : Int32) (p3 : Int32) : Option (Int32 × jm_M) :=
  (sW_areTwo M p1 p2).bind (fun r1 =>
  (if r1 = 0 then
  (sW_refuse M (-1)).bind (fun r3 =>
  (some (r3.1, r3.2)))
  else
  (sW_isNeither p3).bind (fun r4 =>
  (if r4 = 0 then
  (sF_seekLoan M 1 p1 p2).bind (fun r6 =>
  (if p3 = 0 then
  (some (r6 15 0 3, r6))
  else
  (some (r6 15 0 4, r6))))
  else
  (sW_refuse M (-2)).bind (fun r8 =>
  (some (r8.1, r8.2)))))))
def sF_bestTaught_L22 (p1 : Nat) (p2 : Int32) (p5 : Int32) (p3 : Int32) (p4 : Int32) (s3 : Int32 × Int32 × Int32 × jm_M) : Option ((Int32 × Int32 × Int32 × jm_M) ⊕ (Int32 × jm_M)) :=
  (if (s3.2.2.2 p1 0 4) ≤ s3.2.2.1 then
  (some (.inr (s3.1, s3.2.2.2)))
  else
  (sF_think s3.2.2.2 p1).bind (fun r5 =>
  (jm_rd 10 (r5 4 10) s3.2.2.1).bind (fun v6 =>
  (jm_wa 10 r5 4 10 s3.2.2.1 (v6 ||| ((1 : Int32) <<< ((p2 : Int32) &&& 31)))).bind (fun M7 =>
  (sT_weeksPass M7 4 p5).bind (fun r8 =>
  (sT_overOf r8 4 p3 p4).bind (fun r9 =>
  (if r9 ≤ s3.2.1 then
  (some (.inl (s3.1, s3.2.1, s3.2.2.1 + 1, r8)))
  else
  (some (.inl (s3.2.2.1, r9, s3.2.2.1 + 1, r8))))))))))
def sF_bestTaught (M : jm_M) (p1 : Nat) (p2 : Int32) (p3 : Int32) (p4 : Int32) (p5 : Int32) : Option (Int32 × jm_M) :=
  (sF_after M p1 p5).bind (fun r1 =>
  (sT_overOf r1 4 p3 p4).bind (fun r2 =>
  Option.bind (jm_loop (sF_bestTaught_L22 p1 p2 p5 p3 p4) jm_N ((-9), r2, 0, r1)) (fun e11 =>
  (some (e11.1, e11.2)))))
def sW_taught (M : jm_M) (p1 : Int32) (p2 : Int32) (p3 : Int32) (p4 : Int32) : Option (Int32 × jm_M) :=
  (sT_hasPerson M 1 p1).bind (fun r1 =>
  (if r1 = 0 then
  (sW_refuse M (-1)).bind (fun r3 =>
  (some (r3.1, r3.2)))
  else
  (sW_areTwo M p2 p3).bind (fun r4 =>
  (if r4 = 0 then
  (sW_refuse M (-1)).bind (fun r6 =>
  (some (r6.1, r6.2)))
  else
  (if 0 ≤ p4 then
  (if p4 ≤ 60 then
  (sF_bestTaught M 1 p1 p2 p3 p4).bind (fun r9 =>
  (some (r9.1, r9.2)))
  else
  (sW_refuse M (-6)).bind (fun r10 =>
  (some (r10.1, r10.2))))
  else
  (sW_refuse M (-4)).bind (fun r11 =>
  (some (r11.1, r11.2))))))))
def sF_bitsBy_L65 (e3 : Int32) (e1 : (Nat × Nat)) (p5 : Int32) (p3 : Int32) (p4 : Int32) (p1 : Nat × Nat) (s6 : Int32 × Int32 × jm_M) (s10 : Int32 × Int32 × jm_M) : Option ((Int32 × Int32 × jm_M) ⊕ (Int32 × jm_M)) :=
  (if e3 ≤ s10.2.1 then
  (some (.inr (s10.1, s10.2.2)))
  else
  (jm_len jm_LC e1).bind (fun N12 =>
  (jm_wa N12 s10.2.2 e1.1 e1.2 p5 s10.2.1).bind (fun M13 =>
  (sT_overOf M13 4 p3 p4).bind (fun r14 =>
  (jm_len jm_LC p1).bind (fun N15 =>
  (jm_rd N15 (M13 p1.1 p1.2) s6.2.1).bind (fun v16 =>
  (if r14 = v16 then
  (some (.inl (s10.1, s10.2.1 + 1, M13)))
  else
  (some (s10.1 &&& (((1 : Int32) <<< ((s10.2.1 : Int32) &&& 31)) ^^^ (-1)))).bind (fun x18 =>
  (some (.inl (x18, s10.2.1 + 1, M13)))))))))))
def sF_bitsBy_L49 (p2 : Int32) (p1 : Nat × Nat) (e3 : Int32) (e1 : (Nat × Nat)) (p5 : Int32) (p3 : Int32) (p4 : Int32) (s6 : Int32 × Int32 × jm_M) : Option ((Int32 × Int32 × jm_M) ⊕ (Int32 × jm_M)) :=
  (if p2 ≤ s6.2.1 then
  (some (.inr (s6.1, s6.2.2)))
  else
  (jm_len jm_LC p1).bind (fun N8 =>
  (if (nI N8) ≤ s6.2.1 then
  (some (.inr (s6.1, s6.2.2)))
  else
  Option.bind (jm_loop (sF_bitsBy_L65 e3 e1 p5 p3 p4 p1 s6) jm_N (s6.1, 0, s6.2.2)) (fun e19 =>
  (sT_weekPasses e19.2 4 1).bind (fun r20 =>
  (some (.inl (e19.1, s6.2.1 + 1, r20))))))))
def sF_bitsBy (M : jm_M) (p1 : Nat × Nat) (p2 : Int32) (p3 : Int32) (p4 : Int32) (p5 : Int32) (p6 : Int32) : Option (Int32 × jm_M) :=
  Option.bind (α := (Nat × Nat)) ((if p6 = 0 then
  (some (4, 7))
  else
  (some (4, 6)))) (fun e1 =>
  Option.bind (α := Int32) ((if p6 = 0 then
  (some 10)
  else
  (some 8))) (fun e3 =>
  (some (((1 : Int32) <<< ((e3 : Int32) &&& 31)) - 1)).bind (fun x5 =>
  Option.bind (jm_loop (sF_bitsBy_L49 p2 p1 e3 e1 p5 p3 p4) jm_N (x5, 0, M)) (fun e21 =>
  (some (e21.1, e21.2))))))
def sW_whatKind (M : jm_M) (p1 : Int32) (p2 : Int32) (p3 : Int32) (p4 : Int32) : Option (Int32 × jm_M) :=
  (sW_areTwo M p1 p2).bind (fun r1 =>
  (if r1 = 0 then
  (sW_refuse M (-1)).bind (fun r3 =>
  (some (r3.1, r3.2)))
  else
  (sT_hasBook M 1 p3).bind (fun r4 =>
  (if r4 = 0 then
  (sW_refuse M (-1)).bind (fun r6 =>
  (some (r6.1, r6.2)))
  else
  (sW_isNeither p4).bind (fun r7 =>
  (if r7 = 0 then
  (sF_think M 1).bind (fun r9 =>
  Option.bind (α := Int32) ((if p4 = 0 then
  (some 1)
  else
  (some 0))) (fun e10 =>
  (sF_bitsBy r9 (0, 10) (r9 0 0 10) p1 p2 p3 e10).bind (fun r12 =>
  (some (r12.1, r12.2)))))
  else
  (sW_refuse M (-2)).bind (fun r13 =>
  (some (r13.1, r13.2)))))))))
def sT_givesBack_L2 (t : Nat) (p1 : Int32) (s1 : Int32 × jm_M) : Option ((Int32 × jm_M) ⊕ (jm_M)) :=
  (if (s1.2 t 0 4) ≤ s1.1 then
  (some (.inr s1.2))
  else
  (jm_rd 10 (s1.2 t 9) s1.1).bind (fun v3 =>
  (if v3 = p1 then
  (jm_rd 10 (s1.2 t 8) s1.1).bind (fun v5 =>
  (jm_wa 10 s1.2 t 9 s1.1 v5).bind (fun M6 =>
  (some (.inl (s1.1 + 1, M6)))))
  else
  (some (.inl (s1.1 + 1, s1.2))))))
def sT_givesBack (M : jm_M) (t : Nat) (p1 : Int32) : Option (jm_M) :=
  Option.bind (jm_loop (sT_givesBack_L2 t p1) jm_N (0, M)) (fun e7 =>
  (some e7))
def sF_weighChoice (M : jm_M) (p1 : Nat) (p2 : Int32) (p3 : Int32) (p4 : Int32) (p5 : Int32) : Option (jm_M) :=
  (some ((p5 : Int32) >>> ((1 : Int32) &&& 31))).bind (fun x1 =>
  (some (p5 &&& 1)).bind (fun x2 =>
  (sF_think M p1).bind (fun r3 =>
  Option.bind (α := jm_M) ((if x1 = 1 then
  (sT_givesBack r3 4 p2).bind (fun r6 =>
  (some r6))
  else
  (some r3))) (fun e4 =>
  Option.bind (α := jm_M) ((if x2 = 1 then
  (sT_givesBack e4 4 p3).bind (fun r9 =>
  (some r9))
  else
  (some e4))) (fun e7 =>
  (sT_weeksPass e7 4 p4).bind (fun r10 =>
  (sT_readingsOf r10 4 p2).bind (fun r11 =>
  (jm_wa 4 r10 15 2 p5 (r11 + (2 * x1))).bind (fun M12 =>
  (sT_readingsOf M12 4 p3).bind (fun r13 =>
  (jm_wa 4 M12 15 3 p5 (r13 + (2 * x2))).bind (fun M14 =>
  (some M14)))))))))))
def sF_steadyPair_L3 (p1 : Nat) (p2 : Int32) (p3 : Int32) (p4 : Int32) (s1 : Int32 × jm_M) : Option ((Int32 × jm_M) ⊕ (jm_M)) :=
  (if 4 ≤ s1.1 then
  (some (.inr s1.2))
  else
  (sF_weighChoice s1.2 p1 p2 p3 p4 s1.1).bind (fun r3 =>
  (some (.inl (s1.1 + 1, r3)))))
def sF_steadyPair_L29 (e4 : jm_M) (s5 : Int32) : Option ((Int32) ⊕ (Unit ⊕ (Int32 × jm_M))) :=
  (if 4 ≤ s5 then
  (some (.inr (.inl ())))
  else
  (jm_rd 4 (e4 15 2) s5).bind (fun v7 =>
  (jm_rd 4 (e4 15 2) (s5 ^^^ 2)).bind (fun v8 =>
  (if v7 < v8 then
  (some (.inl (s5 + 1)))
  else
  (jm_rd 4 (e4 15 3) s5).bind (fun v10 =>
  (jm_rd 4 (e4 15 3) (s5 ^^^ 1)).bind (fun v11 =>
  (if v10 < v11 then
  (some (.inl (s5 + 1)))
  else
  (some (.inr (.inr ((10 * ((s5 : Int32) >>> ((1 : Int32) &&& 31))) + (s5 &&& 1), e4)))))))))))
def sF_steadyPair (M : jm_M) (p1 : Nat) (p2 : Int32) (p3 : Int32) (p4 : Int32) : Option (Int32 × jm_M) :=
  Option.bind (jm_loop (sF_steadyPair_L3 p1 p2 p3 p4) jm_N (0, M)) (fun e4 =>
  Option.bind (jm_loop (sF_steadyPair_L29 e4) jm_N 0) (Sum.elim (fun e13 =>
  (some ((-9), e4))) some))
def sW_two (M : jm_M) (p1 : Int32) (p2 : Int32) (p3 : Int32) : Option (Int32 × jm_M) :=
  (sW_areTwo M p1 p2).bind (fun r1 =>
  (if r1 = 0 then
  (sW_refuse M (-1)).bind (fun r3 =>
  (some (r3.1, r3.2)))
  else
  (if 1 ≤ p3 then
  (if p3 ≤ 30 then
  (sF_steadyPair M 1 p1 p2 p3).bind (fun r6 =>
  (some (r6.1, r6.2)))
  else
  (sW_refuse M (-6)).bind (fun r7 =>
  (some (r7.1, r7.2))))
  else
  (sW_refuse M (-4)).bind (fun r8 =>
  (some (r8.1, r8.2))))))
def sF_dampCases_L27 (p4 : Int32) (s1 : Int64 × Int64 × Int64 × Int32 × jm_M) (s4 : Int32 × jm_M) : Option ((Int32 × jm_M) ⊕ (jm_M)) :=
  (if p4 ≤ s4.1 then
  (some (.inr s4.2))
  else
  Option.bind (α := Int32) ((if s1.2.2.2.1 ≤ s4.1 then
  (some 0)
  else
  (some 1))) (fun e6 =>
  (sT_weekPasses s4.2 4 e6).bind (fun r8 =>
  (some (.inl (s4.1 + 1, r8))))))
def sF_dampCases_L12 (p4 : Int32) (p1 : Nat) (p2 : Int32) (p3 : Int32) (p5 : Int32) (s1 : Int64 × Int64 × Int64 × Int32 × jm_M) : Option ((Int64 × Int64 × Int64 × Int32 × jm_M) ⊕ (Int64 × jm_M)) :=
  (if p4 < s1.2.2.2.1 then
  (some (.inr (s1.1, s1.2.2.2.2)))
  else
  (sF_think s1.2.2.2.2 p1).bind (fun r3 =>
  Option.bind (jm_loop (sF_dampCases_L27 p4 s1) jm_N (0, r3)) (fun e9 =>
  (sT_comesDown e9 4 p2 p3).bind (fun r10 =>
  Option.bind (α := Int64) ((if r10 = 0 then
  (some s1.1)
  else
  (some (s1.1 + (s1.2.1 * s1.2.2.1))).bind (fun x13 =>
  (some x13)))) (fun e11 =>
  (jm_ldv (s1.2.1 * ((p4 - s1.2.2.2.1 : Int32).toInt64)) ((s1.2.2.2.1 + 1 : Int32).toInt64)).bind (fun v14 =>
  (some (s1.2.2.1 * ((p5 - 1 : Int32).toInt64))).bind (fun x15 =>
  (some (.inl (e11, v14, x15, s1.2.2.2.1 + 1, e9))))))))))
def sF_dampCases (M : jm_M) (p1 : Nat) (p2 : Int32) (p3 : Int32) (p4 : Int32) (p5 : Int32) : Option (Int64 × jm_M) :=
  Option.bind (jm_loop (sF_dampCases_L12 p4 p1 p2 p3 p5) jm_N (0, 1, 1, 0, M)) (fun e16 =>
  (some (e16.1, e16.2)))
def sQ_power_L5 (p2 : Int32) (p1 : Int64) (s1 : Int64 × Int32) : Option ((Int64 × Int32) ⊕ (Int64)) :=
  (if p2 ≤ s1.2 then
  (some (.inr s1.1))
  else
  (some (s1.1 * p1)).bind (fun x3 =>
  (some (.inl (x3, s1.2 + 1)))))
def sQ_power (p1 : Int64) (p2 : Int32) : Option (Int64) :=
  Option.bind (jm_loop (sQ_power_L5 p2 p1) jm_N (1, 0)) (fun e4 =>
  (some e4))
def sQ_sharedDivisor_L9  (s1 : Int64 × Int64 × Int32) : Option ((Int64 × Int64 × Int32) ⊕ (Int64)) :=
  (if 130 ≤ s1.2.2 then
  (some (.inr s1.1))
  else
  (if (lg_cmp s1.2.1 0) = 0 then
  (some (.inr s1.1))
  else
  (jm_lrm s1.1 s1.2.1).bind (fun v4 =>
  (some (.inl (s1.2.1, v4, s1.2.2 + 1))))))
def sQ_sharedDivisor (p1 : Int64) (p2 : Int64) : Option (Int64) :=
  Option.bind (jm_loop (sQ_sharedDivisor_L9) jm_N (p1, p2, 0)) (fun e5 =>
  (some e5))
def sQ_part (p1 : Int64) (p2 : Int64) (p3 : Int32) : Option (Int64) :=
  (if (lg_cmp p1 0) = 0 then
  (some ((p3 : Int32).toInt64))
  else
  (sQ_sharedDivisor p1 p2).bind (fun r2 =>
  (if (lg_cmp r2 0) = 0 then
  (some ((p3 : Int32).toInt64))
  else
  (if p3 = 0 then
  (jm_ldv p1 r2).bind (fun v5 =>
  (some v5))
  else
  (jm_ldv p2 r2).bind (fun v6 =>
  (some v6))))))
def sW_damp (M : jm_M) (p1 : Int32) (p2 : Int32) (p3 : Int32) (p4 : Int32) (p5 : Int32) : Option (Int64 × jm_M) :=
  (sW_areTwo M p1 p2).bind (fun r1 =>
  (if r1 = 0 then
  (sW_refuse M (-1)).bind (fun r3 =>
  (some (4000000000000000000 - ((r3.1 : Int32).toInt64), r3.2)))
  else
  (if p3 < 0 then
  (sW_refuse M (-4)).bind (fun r5 =>
  (some (4000000000000000000 - ((r5.1 : Int32).toInt64), r5.2)))
  else
  (if 2 ≤ p4 then
  (if 7 < p3 then
  (sW_refuse M (-6)).bind (fun r8 =>
  (some (4000000000000000000 - ((r8.1 : Int32).toInt64), r8.2)))
  else
  (if p4 ≤ 20 then
  (sW_isNeither p5).bind (fun r10 =>
  (if r10 = 0 then
  (sF_dampCases M 1 p1 p2 p3 p4).bind (fun r12 =>
  (sQ_power ((p4 : Int32).toInt64) p3).bind (fun r13 =>
  (sQ_part r12.1 r13 p5).bind (fun r14 =>
  (some (r14, r12.2)))))
  else
  (sW_refuse M (-2)).bind (fun r15 =>
  (some (4000000000000000000 - ((r15.1 : Int32).toInt64), r15.2)))))
  else
  (sW_refuse M (-6)).bind (fun r16 =>
  (some (4000000000000000000 - ((r16.1 : Int32).toInt64), r16.2)))))
  else
  (sW_refuse M (-4)).bind (fun r17 =>
  (some (4000000000000000000 - ((r17.1 : Int32).toInt64), r17.2)))))))
def sF_keeperDrawn (M : jm_M) (p1 : Int32) : Option (Int32) :=
  (if (M 4 0 0) ≤ 0 then
  (some 9)
  else
  (jm_dv (p1 &&& 2147483647) 65536).bind (fun v2 =>
  (jm_rm v2 (M 4 0 0)).bind (fun v3 =>
  (some v3))))
def sT_readings_L4 (M : jm_M) (t : Nat) (s1 : Int32 × Int32) : Option ((Int32 × Int32) ⊕ (Int32)) :=
  (if (M t 0 4) ≤ s1.2 then
  (some (.inr s1.1))
  else
  (jm_rd 10 (M t 10) s1.2).bind (fun v3 =>
  (sJ_bitCount v3).bind (fun r4 =>
  (some (s1.1 + r4)).bind (fun x5 =>
  (some (.inl (x5, s1.2 + 1)))))))
def sT_readings (M : jm_M) (t : Nat) : Option (Int32) :=
  Option.bind (jm_loop (sT_readings_L4 M t) jm_N (0, 0)) (fun e6 =>
  (some e6))
def sT_twosDown_L16 (M : jm_M) (t : Nat) (s1 : Int32 × Int32) (s4 : Int32 × Int32) : Option ((Int32 × Int32) ⊕ (Int32)) :=
  (if (M t 0 0) ≤ s4.2 then
  (some (.inr s4.1))
  else
  (sT_comesDown M t s1.2 s4.2).bind (fun r6 =>
  (if r6 = 0 then
  (some (.inl (s4.1, s4.2 + 1)))
  else
  (some (.inl (s4.1 + 1, s4.2 + 1))))))
def sT_twosDown_L4 (M : jm_M) (t : Nat) (s1 : Int32 × Int32) : Option ((Int32 × Int32) ⊕ (Int32)) :=
  (if (M t 0 0) ≤ s1.2 then
  (some (.inr s1.1))
  else
  (some (s1.2 + 1)).bind (fun x3 =>
  Option.bind (jm_loop (sT_twosDown_L16 M t s1) jm_N (s1.1, x3)) (fun e8 =>
  (some (.inl (e8, s1.2 + 1))))))
def sT_twosDown (M : jm_M) (t : Nat) : Option (Int32) :=
  Option.bind (jm_loop (sT_twosDown_L4 M t) jm_N (0, 0)) (fun e9 =>
  (some e9))
def sF_drawSprings_L30  (s6 : Int32 × Int32 × jm_M) : Option ((Int32 × Int32 × jm_M) ⊕ (Int32 × jm_M)) :=
  (if (s6.2.2 4 0 4) ≤ s6.2.1 then
  (some (.inr (s6.1, s6.2.2)))
  else
  (some ((s6.1 * 1103515245) + 12345)).bind (fun x8 =>
  (sF_keeperDrawn s6.2.2 x8).bind (fun r9 =>
  (jm_wa 10 s6.2.2 4 9 s6.2.1 r9).bind (fun M10 =>
  (some (.inl (x8, s6.2.1 + 1, M10)))))))
def sF_drawSprings_L16 (p2 : Int32) (p1 : Nat) (s3 : Int32 × Int32 × jm_M) : Option ((Int32 × Int32 × jm_M) ⊕ (jm_M)) :=
  (if p2 ≤ s3.2.1 then
  (some (.inr s3.2.2))
  else
  (sF_think s3.2.2 p1).bind (fun r5 =>
  Option.bind (jm_loop (sF_drawSprings_L30) jm_N (s3.1, 0, r5)) (fun e11 =>
  (sT_weeksPass e11.2 4 8).bind (fun r12 =>
  (sT_readings r12 4).bind (fun r13 =>
  (sT_readings r12 p1).bind (fun r14 =>
  (jm_wf r12 15 5 ((r12 15 0 5) + (r13 - r14))).bind (fun M15 =>
  (sT_twosDown M15 4).bind (fun r16 =>
  (jm_wf M15 15 6 ((M15 15 0 6) + r16)).bind (fun M17 =>
  (some (.inl (e11.1, s3.2.1 + 1, M17))))))))))))
def sF_drawSprings (M : jm_M) (p1 : Nat) (p2 : Int32) (p3 : Int32) : Option (jm_M) :=
  (jm_wf M 15 5 0).bind (fun M1 =>
  (jm_wf M1 15 6 0).bind (fun M2 =>
  Option.bind (jm_loop (sF_drawSprings_L16 p2 p1) jm_N (p3, 0, M2)) (fun e18 =>
  (some e18))))
def sW_lots (M : jm_M) (p1 : Int32) (p2 : Int32) (p3 : Int32) : Option (Int32 × jm_M) :=
  (if 1 ≤ p1 then
  (if p1 ≤ 20 then
  (sW_isNeither p3).bind (fun r3 =>
  (if r3 = 0 then
  (sF_drawSprings M 1 p1 p2).bind (fun r5 =>
  (if p3 = 0 then
  (some (r5 15 0 5, r5))
  else
  (some (r5 15 0 6, r5))))
  else
  (sW_refuse M (-2)).bind (fun r7 =>
  (some (r7.1, r7.2)))))
  else
  (sW_refuse M (-6)).bind (fun r8 =>
  (some (r8.1, r8.2))))
  else
  (sW_refuse M (-4)).bind (fun r9 =>
  (some (r9.1, r9.2))))
def sT_rankOf_L4 (M : jm_M) (t : Nat) (p1 : Int32) (s1 : Int32 × Int32) : Option ((Int32 × Int32) ⊕ (Int32)) :=
  (if (M t 0 4) ≤ s1.2 then
  (some (.inr s1.1))
  else
  (jm_rd 10 (M t 11) s1.2).bind (fun v3 =>
  (jm_rd 10 (M t 11) p1).bind (fun v4 =>
  (if v4 ≤ v3 then
  (some (.inl (s1.1, s1.2 + 1)))
  else
  (some (.inl (s1.1 + 1, s1.2 + 1)))))))
def sT_rankOf (M : jm_M) (t : Nat) (p1 : Int32) : Option (Int32) :=
  Option.bind (jm_loop (sT_rankOf_L4 M t p1) jm_N (0, 0)) (fun e6 =>
  (some e6))
def sT_firstTitleFrom_L5 (M : jm_M) (t : Nat) (p1 : Int32) (s1 : Int32 × Int32) : Option ((Int32 × Int32) ⊕ (Int32)) :=
  (if (M t 0 4) ≤ s1.2 then
  (some (.inr s1.1))
  else
  (jm_rd 10 (M t 11) s1.2).bind (fun v3 =>
  (if v3 < p1 then
  (some (.inl (s1.1, s1.2 + 1)))
  else
  (if s1.1 = (-9) then
  (some (.inl (s1.2, s1.2 + 1)))
  else
  (jm_rd 10 (M t 11) s1.2).bind (fun v6 =>
  (jm_rd 10 (M t 11) s1.1).bind (fun v7 =>
  (if v7 ≤ v6 then
  (some (.inl (s1.1, s1.2 + 1)))
  else
  (some (.inl (s1.2, s1.2 + 1))))))))))
def sT_firstTitleFrom (M : jm_M) (t : Nat) (p1 : Int32) : Option (Int32) :=
  Option.bind (jm_loop (sT_firstTitleFrom_L5 M t p1) jm_N ((-9), 0)) (fun e9 =>
  (some e9))
def sW_titles (M : jm_M) (p1 : Int32) (p2 : Int32) : Option (Int32 × jm_M) :=
  (sT_hasBook M 1 p1).bind (fun r1 =>
  (if r1 = 0 then
  (sW_refuse M (-1)).bind (fun r3 =>
  (some (r3.1, r3.2)))
  else
  (if p2 = 0 then
  (sT_rankOf M 1 p1).bind (fun r5 =>
  (some (r5, M)))
  else
  (if p2 = 1 then
  (jm_rd 10 (M 1 11) p1).bind (fun v7 =>
  (sT_firstTitleFrom M 1 (v7 + 1)).bind (fun r8 =>
  (some (r8, M))))
  else
  (sW_refuse M (-2)).bind (fun r9 =>
  (some (r9.1, r9.2)))))))
def sW_from (M : jm_M) (p1 : Int32) : Option (Int32 × jm_M) :=
  (if 0 ≤ p1 then
  (if p1 ≤ 25 then
  (sI_ofLetter p1).bind (fun r3 =>
  (sT_firstTitleFrom M 1 r3).bind (fun r4 =>
  (some (r4, M))))
  else
  (sW_refuse M (-6)).bind (fun r5 =>
  (some (r5.1, r5.2))))
  else
  (sW_refuse M (-4)).bind (fun r6 =>
  (some (r6.1, r6.2))))
def sT_kindsHeldBy_L4 (M : jm_M) (t : Nat) (p1 : Int32) (s1 : Int32 × Int32) : Option ((Int32 × Int32) ⊕ (Int32)) :=
  (if (M t 0 4) ≤ s1.2 then
  (some (.inr s1.1))
  else
  (jm_rd 10 (M t 9) s1.2).bind (fun v3 =>
  (if v3 = p1 then
  (jm_rd 10 (M t 6) s1.2).bind (fun v5 =>
  (some (s1.1 ||| ((1 : Int32) <<< ((v5 : Int32) &&& 31)))).bind (fun x6 =>
  (some (.inl (x6, s1.2 + 1)))))
  else
  (some (.inl (s1.1, s1.2 + 1))))))
def sT_kindsHeldBy (M : jm_M) (t : Nat) (p1 : Int32) : Option (Int32) :=
  Option.bind (jm_loop (sT_kindsHeldBy_L4 M t p1) jm_N (0, 0)) (fun e7 =>
  (some e7))
def sT_pricesHeldBy_L4 (M : jm_M) (t : Nat) (p1 : Int32) (s1 : Int32 × Int32) : Option ((Int32 × Int32) ⊕ (Int32)) :=
  (if (M t 0 4) ≤ s1.2 then
  (some (.inr s1.1))
  else
  (jm_rd 10 (M t 9) s1.2).bind (fun v3 =>
  (if v3 = p1 then
  (sT_priceOf M t s1.2).bind (fun r5 =>
  (some (s1.1 + r5)).bind (fun x6 =>
  (some (.inl (x6, s1.2 + 1)))))
  else
  (some (.inl (s1.1, s1.2 + 1))))))
def sT_pricesHeldBy (M : jm_M) (t : Nat) (p1 : Int32) : Option (Int32) :=
  Option.bind (jm_loop (sT_pricesHeldBy_L4 M t p1) jm_N (0, 0)) (fun e7 =>
  (some e7))
def sT_mostHeldKind_L21 (M : jm_M) (t : Nat) (p1 : Int32) (s1 : Int32 × Int32 × Int32) (s3 : Int32 × Int32) : Option ((Int32 × Int32) ⊕ (Int32)) :=
  (if (M t 0 4) ≤ s3.2 then
  (some (.inr s3.1))
  else
  (jm_rd 10 (M t 9) s3.2).bind (fun v5 =>
  (if v5 = p1 then
  (jm_rd 10 (M t 6) s3.2).bind (fun v7 =>
  (if v7 = s1.2.2 then
  (some (.inl (s3.1 + 1, s3.2 + 1)))
  else
  (some (.inl (s3.1, s3.2 + 1)))))
  else
  (some (.inl (s3.1, s3.2 + 1))))))
def sT_mostHeldKind_L8 (M : jm_M) (t : Nat) (p1 : Int32) (s1 : Int32 × Int32 × Int32) : Option ((Int32 × Int32 × Int32) ⊕ (Int32)) :=
  (if 8 ≤ s1.2.2 then
  (some (.inr s1.2.1))
  else
  Option.bind (jm_loop (sT_mostHeldKind_L21 M t p1 s1) jm_N (0, 0)) (fun e9 =>
  (if e9 ≤ s1.1 then
  (some (.inl (s1.1, s1.2.1, s1.2.2 + 1)))
  else
  (some (.inl (e9, s1.2.2, s1.2.2 + 1))))))
def sT_mostHeldKind (M : jm_M) (t : Nat) (p1 : Int32) : Option (Int32) :=
  Option.bind (jm_loop (sT_mostHeldKind_L8 M t p1) jm_N (0, (-9), 0)) (fun e11 =>
  (some e11))
def sW_shelf (M : jm_M) (p1 : Int32) (p2 : Int32) : Option (Int32 × jm_M) :=
  (sT_hasKeeper M 1 p1).bind (fun r1 =>
  (if r1 = 0 then
  (sW_refuse M (-1)).bind (fun r3 =>
  (some (r3.1, r3.2)))
  else
  (if p2 = 0 then
  (sT_booksWith M 1 (1, 9) p1).bind (fun r5 =>
  (some (r5, M)))
  else
  (if p2 = 1 then
  (sT_kindsHeldBy M 1 p1).bind (fun r7 =>
  (some (r7, M)))
  else
  (if p2 = 2 then
  (sT_pricesHeldBy M 1 p1).bind (fun r9 =>
  (some (r9, M)))
  else
  (if p2 = 3 then
  (sT_mostHeldKind M 1 p1).bind (fun r11 =>
  (some (r11, M)))
  else
  (sW_refuse M (-2)).bind (fun r12 =>
  (some (r12.1, r12.2)))))))))
def sT_closestTwo_L20 (M : jm_M) (t : Nat) (s1 : Int32 × Int32 × Int32) (s4 : Int32 × Int32 × Int32) : Option ((Int32 × Int32 × Int32) ⊕ (Int32 × Int32)) :=
  (if (M t 0 0) ≤ s4.2.2 then
  (some (.inr (s4.1, s4.2.1)))
  else
  (sT_overOf M t s1.2.2 s4.2.2).bind (fun r6 =>
  (some (jm_abs r6)).bind (fun x7 =>
  (if s4.1 = (-9) then
  (some ((10 * s1.2.2) + s4.2.2)).bind (fun x9 =>
  (some (.inl (x9, x7, s4.2.2 + 1))))
  else
  (if s4.2.1 ≤ x7 then
  (some (.inl (s4.1, s4.2.1, s4.2.2 + 1)))
  else
  (some ((10 * s1.2.2) + s4.2.2)).bind (fun x11 =>
  (some (.inl (x11, x7, s4.2.2 + 1)))))))))
def sT_closestTwo_L7 (M : jm_M) (t : Nat) (s1 : Int32 × Int32 × Int32) : Option ((Int32 × Int32 × Int32) ⊕ (Int32)) :=
  (if (M t 0 0) ≤ s1.2.2 then
  (some (.inr s1.1))
  else
  (some (s1.2.2 + 1)).bind (fun x3 =>
  Option.bind (jm_loop (sT_closestTwo_L20 M t s1) jm_N (s1.1, s1.2.1, x3)) (fun e12 =>
  (some (.inl (e12.1, e12.2, s1.2.2 + 1))))))
def sT_closestTwo (M : jm_M) (t : Nat) : Option (Int32) :=
  Option.bind (jm_loop (sT_closestTwo_L7 M t) jm_N ((-9), 0, 0)) (fun e13 =>
  (some e13))
def sT_leastTownPrice_L6 (M : jm_M) (t : Nat) (s1 : Int32 × Int32 × Int32) : Option ((Int32 × Int32 × Int32) ⊕ (Int32)) :=
  (if (M t 0 4) ≤ s1.2.2 then
  (some (.inr s1.1))
  else
  (jm_rd 10 (M t 8) s1.2.2).bind (fun v3 =>
  (if v3 = 9 then
  (if s1.2.1 = 0 then
  (sT_priceOf M t s1.2.2).bind (fun r6 =>
  (some (.inl (r6, 1, s1.2.2 + 1))))
  else
  (sT_priceOf M t s1.2.2).bind (fun r7 =>
  (if s1.1 ≤ r7 then
  (some (.inl (s1.1, s1.2.1, s1.2.2 + 1)))
  else
  (sT_priceOf M t s1.2.2).bind (fun r9 =>
  (some (.inl (r9, 1, s1.2.2 + 1)))))))
  else
  (some (.inl (s1.1, s1.2.1, s1.2.2 + 1))))))
def sT_leastTownPrice (M : jm_M) (t : Nat) : Option (Int32) :=
  Option.bind (jm_loop (sT_leastTownPrice_L6 M t) jm_N (0, 0, 0)) (fun e10 =>
  (some e10))
def sT_poorPeople_L9 (M : jm_M) (t : Nat) (r1 : Int32) (s2 : Int32 × Int32) : Option ((Int32 × Int32) ⊕ (Int32)) :=
  (if (M t 0 0) ≤ s2.2 then
  (some (.inr s2.1))
  else
  (jm_rd 6 (M t 4) s2.2).bind (fun v4 =>
  (if r1 ≤ v4 then
  (some (.inl (s2.1, s2.2 + 1)))
  else
  (some (.inl (s2.1 + 1, s2.2 + 1))))))
def sT_poorPeople (M : jm_M) (t : Nat) : Option (Int32) :=
  (sT_leastTownPrice M t).bind (fun r1 =>
  Option.bind (jm_loop (sT_poorPeople_L9 M t r1) jm_N (0, 0)) (fun e6 =>
  (some e6)))
def sT_unreadBooks_L4 (M : jm_M) (t : Nat) (s1 : Int32 × Int32) : Option ((Int32 × Int32) ⊕ (Int32)) :=
  (if (M t 0 4) ≤ s1.2 then
  (some (.inr s1.1))
  else
  (jm_rd 10 (M t 10) s1.2).bind (fun v3 =>
  (if v3 = 0 then
  (some (s1.1 ||| ((1 : Int32) <<< ((s1.2 : Int32) &&& 31)))).bind (fun x5 =>
  (some (.inl (x5, s1.2 + 1))))
  else
  (some (.inl (s1.1, s1.2 + 1))))))
def sT_unreadBooks (M : jm_M) (t : Nat) : Option (Int32) :=
  Option.bind (jm_loop (sT_unreadBooks_L4 M t) jm_N (0, 0)) (fun e6 =>
  (some e6))
def sT_lentBooks_L4 (M : jm_M) (t : Nat) (s1 : Int32 × Int32) : Option ((Int32 × Int32) ⊕ (Int32)) :=
  (if (M t 0 4) ≤ s1.2 then
  (some (.inr s1.1))
  else
  (jm_rd 10 (M t 9) s1.2).bind (fun v3 =>
  (jm_rd 10 (M t 8) s1.2).bind (fun v4 =>
  (if v3 = v4 then
  (some (.inl (s1.1, s1.2 + 1)))
  else
  (some (s1.1 ||| ((1 : Int32) <<< ((s1.2 : Int32) &&& 31)))).bind (fun x6 =>
  (some (.inl (x6, s1.2 + 1))))))))
def sT_lentBooks (M : jm_M) (t : Nat) : Option (Int32) :=
  Option.bind (jm_loop (sT_lentBooks_L4 M t) jm_N (0, 0)) (fun e7 =>
  (some e7))
def sW_sight (M : jm_M) (p1 : Int32) : Option (Int32 × jm_M) :=
  (if p1 = 0 then
  (sT_closestTwo M 1).bind (fun r2 =>
  (some (r2, M)))
  else
  (if p1 = 1 then
  (sT_poorPeople M 1).bind (fun r4 =>
  (some (r4, M)))
  else
  (if p1 = 2 then
  (sT_unreadBooks M 1).bind (fun r6 =>
  (some (r6, M)))
  else
  (if p1 = 3 then
  (sT_lentBooks M 1).bind (fun r8 =>
  (some (r8, M)))
  else
  (sW_refuse M (-2)).bind (fun r9 =>
  (some (r9.1, r9.2)))))))
def sW_share (M : jm_M) (p1 : Int32) (p2 : Int32) : Option (Int64 × jm_M) :=
  (sT_hasPerson M 1 p1).bind (fun r1 =>
  (if r1 = 0 then
  (sW_refuse M (-1)).bind (fun r3 =>
  (some (4000000000000000000 - ((r3.1 : Int32).toInt64), r3.2)))
  else
  (sW_isNeither p2).bind (fun r4 =>
  (if r4 = 0 then
  (sT_readingsOf M 1 p1).bind (fun r6 =>
  (sQ_part ((r6 : Int32).toInt64) ((M 1 0 4 : Int32).toInt64) p2).bind (fun r7 =>
  (some (r7, M))))
  else
  (sW_refuse M (-2)).bind (fun r8 =>
  (some (4000000000000000000 - ((r8.1 : Int32).toInt64), r8.2)))))))
def sW_byHeart (M : jm_M) (p1 : Int32) (p2 : Int32) : Option (Int32 × jm_M) :=
  (sW_areTwo M p1 p2).bind (fun r1 =>
  (if r1 = 0 then
  (sW_refuse M (-1)).bind (fun r3 =>
  (some (r3.1, r3.2)))
  else
  (sT_booksReadBy M 1 p1).bind (fun r4 =>
  (sT_booksReadBy M 1 p2).bind (fun r5 =>
  (some (r4 &&& r5, M))))))
def sW_kinds (M : jm_M) (p1 : Int32) : Option (Int32 × jm_M) :=
  (if p1 < 0 then
  (sW_refuse M (-2)).bind (fun r2 =>
  (some (r2.1, r2.2)))
  else
  (if p1 < 8 then
  (sT_booksWith M 1 (1, 6) p1).bind (fun r4 =>
  (some (r4, M)))
  else
  (sW_refuse M (-2)).bind (fun r5 =>
  (some (r5.1, r5.2)))))
def sW_row (M : jm_M) (p1 : Int32) : Option (Int32 × jm_M) :=
  (if (-99) ≤ p1 then
  (if 99 < p1 then
  (sW_refuse M (-6)).bind (fun r3 =>
  (some (r3.1, r3.2)))
  else
  (if (M 0 0 10) < 12 then
  (jm_wa 12 M 0 10 (M 0 0 10) p1).bind (fun M5 =>
  (jm_wf M5 0 10 ((M5 0 0 10) + 1)).bind (fun M6 =>
  (some (M6 0 0 10, M6))))
  else
  (sW_refuse M (-6)).bind (fun r7 =>
  (some (r7.1, r7.2)))))
  else
  (sW_refuse M (-4)).bind (fun r8 =>
  (some (r8.1, r8.2))))
def sW_judge_L10 (M : jm_M) (s2 : Int32 × Int32) : Option ((Int32 × Int32) ⊕ (Int32)) :=
  (if s2.2 < 0 then
  (some (.inr s2.1))
  else
  (sT_hasPerson M 1 s2.2).bind (fun r4 =>
  (if r4 = 0 then
  (some (.inl (s2.2, s2.2 + (-1))))
  else
  (jm_rd 6 (M 1 2) s2.2).bind (fun v6 =>
  (jm_rd 12 (M 0 10) s2.2).bind (fun v7 =>
  (if v6 = v7 then
  (some (.inl (s2.1, s2.2 + (-1))))
  else
  (some (.inl (s2.2, s2.2 + (-1))))))))))
def sW_judge (M : jm_M) : Option (Int32 × jm_M) :=
  (some ((M 0 0 10) - 1)).bind (fun x1 =>
  Option.bind (jm_loop (sW_judge_L10 M) jm_N ((-9), x1)) (fun e9 =>
  (jm_wf M 0 10 0).bind (fun M10 =>
  (some (e9, M10)))))
def sW_clear (M : jm_M) : Option (Int32 × jm_M) :=
  (some (M 0 0 10)).bind (fun x1 =>
  (jm_wf M 0 10 0).bind (fun M2 =>
  (some (x1, M2))))
def sW_image (M : jm_M) : Option (Int32 × jm_M) :=
  (sT_copyFrom M 2 1).bind (fun r1 =>
  (jm_wz r1 0 3 1).bind (fun M2 =>
  (some (M2 1 0 11, M2))))
def sW_restore (M : jm_M) : Option (Int32 × jm_M) :=
  (if (M 0 0 3) = 0 then
  (sW_refuse M (-3)).bind (fun r2 =>
  (some (r2.1, r2.2)))
  else
  (sT_copyFrom M 1 2).bind (fun r3 =>
  (sP_forget r3).bind (fun r4 =>
  (some (r4 1 0 11, r4)))))
def sT_weightOfAll_L4 (M : jm_M) (t : Nat) (s1 : Int32 × Int32) : Option ((Int32 × Int32) ⊕ (Int32)) :=
  (if (M t 0 0) ≤ s1.2 then
  (some (.inr s1.1))
  else
  (jm_rd 6 (M t 2) s1.2).bind (fun v3 =>
  (some (s1.1 + v3)).bind (fun x4 =>
  (some (.inl (x4, s1.2 + 1))))))
def sT_weightOfAll (M : jm_M) (t : Nat) : Option (Int32) :=
  Option.bind (jm_loop (sT_weightOfAll_L4 M t) jm_N (0, 0)) (fun e5 =>
  (some e5))
def sW_count (M : jm_M) (p1 : Int32) : Option (Int32) :=
  (if p1 = 0 then
  (some (M 1 0 0))
  else
  (if p1 = 1 then
  (some (M 1 0 4))
  else
  (if p1 = 2 then
  (some (M 1 0 11))
  else
  (if p1 = 3 then
  (some (M 1 0 12))
  else
  (if p1 = 4 then
  (sT_weightOfAll M 1).bind (fun r6 =>
  (some r6))
  else
  (if p1 = 5 then
  (some (M 14 0 1))
  else
  (if p1 = 6 then
  (some (M 0 0 10))
  else
  (if p1 = 7 then
  (some (M 13 0 2))
  else
  (if p1 = 8 then
  (sT_twosDown M 1).bind (fun r11 =>
  (some r11))
  else
  (if p1 < 11 then
  (some (-9))
  else
  (if 16 < p1 then
  (some (-9))
  else
  (jm_rd 7 (M 0 12) (p1 - 10)).bind (fun v14 =>
  (some v14)))))))))))))
def sM_no (M : jm_M) (p1 : Int32) : Option (Int32 × jm_M) :=
  (jm_rd 7 (M 0 1) (-p1)).bind (fun v1 =>
  (jm_wa 7 M 0 1 (-p1) (v1 + 1)).bind (fun M2 =>
  (some (p1, M2))))
def sM_lower (M : jm_M) (p1 : Int32) : Option (Int32 × jm_M) :=
  (jm_rd 7 (M 0 1) (-p1)).bind (fun v1 =>
  (jm_wa 7 M 0 1 (-p1) (v1 + 1)).bind (fun M2 =>
  (some (1000000000 - p1, M2))))
def sM_lowestOf (M : jm_M) (p1 : Int32) : Option (Int64 × jm_M) :=
  (jm_rd 7 (M 0 1) (-p1)).bind (fun v1 =>
  (jm_wa 7 M 0 1 (-p1) (v1 + 1)).bind (fun M2 =>
  (some (4000000000000000000 - ((p1 : Int32).toInt64), M2))))
def sM_isIn (p1 : Int32) (p2 : Int32) (p3 : Int32) : Option (Int32) :=
  (if p1 < p2 then
  (some 0)
  else
  (if p3 < p1 then
  (some 0)
  else
  (some 1)))
def sM_bound (p1 : Int32) (p2 : Int32) (p3 : Int32) : Option (Int32) :=
  (if p2 ≤ p1 then
  (if p1 ≤ p3 then
  (some 0)
  else
  (some (-6)))
  else
  (some (-4)))
def sM_has (p1 : Int32) (p2 : Int32) : Option (Int32) :=
  (if (((p1 : Int32) >>> ((p2 : Int32) &&& 31)) &&& 1) = 1 then
  (some 1)
  else
  (some 0))
def sM_bits_L4 (p1 : Int32) (s1 : Int32 × Int32) : Option ((Int32 × Int32) ⊕ (Int32)) :=
  (if 31 ≤ s1.2 then
  (some (.inr s1.1))
  else
  (some (s1.1 + (((p1 : Int32) >>> ((s1.2 : Int32) &&& 31)) &&& 1))).bind (fun x3 =>
  (some (.inl (x3, s1.2 + 1)))))
def sM_bits (p1 : Int32) : Option (Int32) :=
  Option.bind (jm_loop (sM_bits_L4 p1) jm_N (0, 0)) (fun e4 =>
  (some e4))
def sM_isPerson (M : jm_M) (p1 : Int32) : Option (Int32) :=
  (sM_isIn p1 0 ((M 0 0 13) - 1)).bind (fun r1 =>
  (jm_bz r1).bind (fun x2 => some x2))
def sM_isPlace (M : jm_M) (p1 : Int32) : Option (Int32) :=
  (if p1 = 9 then
  (some 1)
  else
  (sM_isPerson M p1).bind (fun r2 =>
  (if r2 = 0 then
  (some 0)
  else
  (some 1))))
def sM_isBook (M : jm_M) (p1 : Int32) : Option (Int32) :=
  (sM_isIn p1 0 ((M 0 0 14) - 1)).bind (fun r1 =>
  (jm_bz r1).bind (fun x2 => some x2))
def sM_areTwo (M : jm_M) (p1 : Int32) (p2 : Int32) : Option (Int32) :=
  (sM_isPerson M p1).bind (fun r1 =>
  (if r1 = 0 then
  (some 0)
  else
  (sM_isPerson M p2).bind (fun r3 =>
  (if r3 = 0 then
  (some 0)
  else
  (if p1 = p2 then
  (some 0)
  else
  (some 1))))))
def sM_asNovel (M : jm_M) (p1 : Int32) : Option (Int32) :=
  (jm_rd 10 (M 0 9) p1).bind (fun v1 =>
  (sM_bits v1).bind (fun r2 =>
  (if r2 = 0 then
  (some 0)
  else
  (jm_rd 10 (M 0 6) p1).bind (fun v4 =>
  (some (v4 + r2))))))
def sM_weighs (M : jm_M) (p1 : Int32) : Option (Int32) :=
  (jm_rd 10 (M 0 6) p1).bind (fun v1 =>
  (jm_rd 10 (M 0 9) p1).bind (fun v2 =>
  (sM_bits v2).bind (fun r3 =>
  (jm_rd 10 (M 0 5) p1).bind (fun v4 =>
  (if v4 = 1 then
  (sM_asNovel M p1).bind (fun r6 =>
  (some (r6 + 2)))
  else
  (if v4 = 2 then
  (some (2 * v1))
  else
  (if v4 = 3 then
  (if r3 = 0 then
  (some (v1 + 5))
  else
  (some (v1 + r3)))
  else
  (if v4 = 4 then
  (sM_asNovel M p1).bind (fun r11 =>
  (some ((r11 + 2) + r3)))
  else
  (if v4 = 5 then
  (jm_rd 10 (M 0 10) p1).bind (fun v13 =>
  (some (v1 + v13)))
  else
  (if v4 = 6 then
  Option.bind (α := Int32) ((if r3 = 0 then
  (some (v1 + 5))
  else
  (some (v1 + r3)))) (fun e15 =>
  (jm_rm (M 0 0 15) 2).bind (fun v17 =>
  (if v17 = 1 then
  (some (e15 + 3))
  else
  (some (e15 + 0)))))
  else
  (if v4 = 7 then
  (sM_asNovel M p1).bind (fun r20 =>
  (if 10 ≤ ((r20 + 2) + r3) then
  (sM_asNovel M p1).bind (fun r22 =>
  (some ((r22 + 2) + r3)))
  else
  (some 10)))
  else
  (sM_asNovel M p1).bind (fun r23 =>
  (some r23)))))))))))))
def sM_price (M : jm_M) (p1 : Int32) : Option (Int32) :=
  (jm_rd 10 (M 0 6) p1).bind (fun v1 =>
  (jm_rd 10 (M 0 5) p1).bind (fun v2 =>
  (if v2 = 1 then
  (some 2)
  else
  (if v2 = 2 then
  (some ((3 * v1) + 3))
  else
  (if v2 = 3 then
  (some 1)
  else
  (if v2 = 4 then
  (some (v1 + 2))
  else
  (if v2 = 5 then
  (if 1 ≤ v1 then
  (some ((3 * v1) - 2))
  else
  (some 0))
  else
  (if v2 = 6 then
  (some 5)
  else
  (if v2 = 7 then
  (some 0)
  else
  (some (v1 + 1)))))))))))
def sM_byStep (M : jm_M) (p1 : Int32) (p2 : Int32) (p3 : Int32) : Option (Int32) :=
  (jm_rd 6 (M 0 13) p1).bind (fun v1 =>
  (jm_rd 6 (M 0 12) p1).bind (fun v2 =>
  (if v2 = 0 then
  (some (p2 + v1))
  else
  (if v2 = 1 then
  (if p2 ≤ v1 then
  (some 0)
  else
  (some (p2 - v1)))
  else
  (if v2 = 2 then
  (if v1 ≤ p2 then
  (some v1)
  else
  (some p2))
  else
  (if v2 = 3 then
  (if v1 ≤ p2 then
  (some p2)
  else
  (some 0))
  else
  (if v2 = 4 then
  (if p3 = 2 then
  (some (2 * p2))
  else
  (some p2))
  else
  (if v2 = 5 then
  (if p3 = 0 then
  (some 0)
  else
  (some p2))
  else
  (if v2 = 6 then
  (jm_dv p2 2).bind (fun v15 =>
  (some v15))
  else
  (jm_rm (M 0 0 15) 2).bind (fun v16 =>
  (if v16 = 1 then
  (some (p2 + 1))
  else
  (some p2))))))))))))
def sM_comesTo_L33 (M : jm_M) (x3 : Int32) (s5 : Int32 × Int32) : Option ((Int32 × Int32) ⊕ (Int32)) :=
  (if (M 0 0 16) ≤ s5.2 then
  (some (.inr s5.1))
  else
  (sM_byStep M s5.2 s5.1 x3).bind (fun r7 =>
  (some (.inl (r7, s5.2 + 1)))))
def sM_comesTo (M : jm_M) (p1 : Int32) (p2 : Int32) (p3 : Int32) : Option (Int32) :=
  (jm_rd 10 (M 0 9) p1).bind (fun v1 =>
  (jm_rd 10 (M 0 9) p1).bind (fun v2 =>
  (some ((((v1 : Int32) >>> ((p2 : Int32) &&& 31)) &&& 1) + (((v2 : Int32) >>> ((p3 : Int32) &&& 31)) &&& 1))).bind (fun x3 =>
  (sM_weighs M p1).bind (fun r4 =>
  Option.bind (jm_loop (sM_comesTo_L33 M x3) jm_N (r4, 0)) (fun e8 =>
  (some e8))))))
def sM_isHeld (M : jm_M) (p1 : Int32) (p2 : Int32) (p3 : Int32) : Option (Int32) :=
  (jm_rd 10 (M 0 8) p1).bind (fun v1 =>
  (if v1 = p2 then
  (some 1)
  else
  (jm_rd 10 (M 0 8) p1).bind (fun v3 =>
  (if v3 = p3 then
  (some 1)
  else
  (some 0)))))
def sM_overWith_L19 (M : jm_M) (p1 : Int32) (p2 : Int32) (p3 : Int32) (s4 : Int32 × Int32) : Option ((Int32 × Int32) ⊕ (Int32)) :=
  (if (M 0 0 14) ≤ s4.2 then
  (some (.inr s4.1))
  else
  (sM_isHeld M s4.2 p1 p2).bind (fun r6 =>
  (if r6 = 0 then
  (sM_has p3 s4.2).bind (fun r8 =>
  (if r8 = 0 then
  (some (s4.1 + 0)).bind (fun x10 =>
  (some (.inl (x10, s4.2 + 1))))
  else
  (sM_comesTo M s4.2 p1 p2).bind (fun r11 =>
  (some (s4.1 + r11)).bind (fun x12 =>
  (some (.inl (x12, s4.2 + 1)))))))
  else
  (sM_comesTo M s4.2 p1 p2).bind (fun r13 =>
  (some (s4.1 + r13)).bind (fun x14 =>
  (some (.inl (x14, s4.2 + 1))))))))
def sM_overWith (M : jm_M) (p1 : Int32) (p2 : Int32) (p3 : Int32) : Option (Int32) :=
  (jm_rd 6 (M 0 2) p1).bind (fun v1 =>
  (jm_rd 6 (M 0 2) p2).bind (fun v2 =>
  (some ((-v1) - v2)).bind (fun x3 =>
  Option.bind (jm_loop (sM_overWith_L19 M p1 p2 p3) jm_N (x3, 0)) (fun e15 =>
  (some e15)))))
def sM_overNow (M : jm_M) (p1 : Int32) (p2 : Int32) : Option (Int32) :=
  (sM_overWith M p1 p2 0).bind (fun r1 =>
  (some r1))
def sM_comesDown (M : jm_M) (p1 : Int32) (p2 : Int32) : Option (Int32) :=
  (sM_overNow M p1 p2).bind (fun r1 =>
  (if r1 < 0 then
  (some 0)
  else
  (some 1)))
def sM_compares_L2 (M : jm_M) (p1 : Int32) (p2 : Int32) (s1 : Int32) : Option ((Int32) ⊕ (Unit ⊕ (Int32))) :=
  (if 4 ≤ s1 then
  (some (.inr (.inl ())))
  else
  (jm_rd 10 (M 0 10) p1).bind (fun v3 =>
  Option.bind (α := Int32) ((if v3 ≤ s1 then
  (some (-1))
  else
  (jm_rd 40 (M 0 11) ((4 * p1) + s1)).bind (fun v6 =>
  (some v6)))) (fun e4 =>
  (jm_rd 10 (M 0 10) p2).bind (fun v7 =>
  Option.bind (α := Int32) ((if v7 ≤ s1 then
  (some (-1))
  else
  (jm_rd 40 (M 0 11) ((4 * p2) + s1)).bind (fun v10 =>
  (some v10)))) (fun e8 =>
  (if e4 = e8 then
  (some (.inl (s1 + 1)))
  else
  (some (.inr (.inr (e4 - e8))))))))))
def sM_compares (M : jm_M) (p1 : Int32) (p2 : Int32) : Option (Int32) :=
  Option.bind (jm_loop (sM_compares_L2 M p1 p2) jm_N 0) (Sum.elim (fun e12 =>
  (some 0)) some)
def sM_rankOf_L4 (M : jm_M) (p1 : Int32) (s1 : Int32 × Int32) : Option ((Int32 × Int32) ⊕ (Int32)) :=
  (if (M 0 0 14) ≤ s1.2 then
  (some (.inr s1.1))
  else
  (sM_compares M s1.2 p1).bind (fun r3 =>
  (if 0 ≤ r3 then
  (some (s1.1 + 0)).bind (fun x5 =>
  (some (.inl (x5, s1.2 + 1))))
  else
  (some (s1.1 + 1)).bind (fun x6 =>
  (some (.inl (x6, s1.2 + 1)))))))
def sM_rankOf (M : jm_M) (p1 : Int32) : Option (Int32) :=
  Option.bind (jm_loop (sM_rankOf_L4 M p1) jm_N (0, 0)) (fun e7 =>
  (some e7))
def sM_ofRank_L2 (M : jm_M) (p1 : Int32) (s1 : Int32) : Option ((Int32) ⊕ (Unit ⊕ (Int32))) :=
  (if (M 0 0 14) ≤ s1 then
  (some (.inr (.inl ())))
  else
  (sM_rankOf M s1).bind (fun r3 =>
  (if r3 = p1 then
  (some (.inr (.inr s1)))
  else
  (some (.inl (s1 + 1))))))
def sM_ofRank (M : jm_M) (p1 : Int32) : Option (Int32) :=
  Option.bind (jm_loop (sM_ofRank_L2 M p1) jm_N 0) (Sum.elim (fun e5 =>
  (some (-9))) some)
def sM_toRead_L5 (M : jm_M) (p1 : Int32) (s1 : Int32 × Int32) : Option ((Int32 × Int32) ⊕ (Int32)) :=
  (if (M 0 0 14) ≤ s1.2 then
  (some (.inr s1.1))
  else
  (jm_rd 10 (M 0 8) s1.2).bind (fun v3 =>
  (if v3 = p1 then
  (jm_rd 10 (M 0 9) s1.2).bind (fun v5 =>
  (sM_has v5 p1).bind (fun r6 =>
  (if r6 = 0 then
  (if s1.1 < 0 then
  (some (.inl (s1.2, s1.2 + 1)))
  else
  (sM_compares M s1.2 s1.1).bind (fun r9 =>
  (if 0 ≤ r9 then
  (some (.inl (s1.1, s1.2 + 1)))
  else
  (some (.inl (s1.2, s1.2 + 1))))))
  else
  (some (.inl (s1.1, s1.2 + 1))))))
  else
  (some (.inl (s1.1, s1.2 + 1))))))
def sM_toRead (M : jm_M) (p1 : Int32) : Option (Int32) :=
  Option.bind (jm_loop (sM_toRead_L5 M p1) jm_N ((-9), 0)) (fun e11 =>
  (some e11))
def sM_goesPerson (M : jm_M) (p1 : Int32) : Option (jm_M) :=
  (jm_rd 6 (M 0 3) p1).bind (fun v1 =>
  (jm_rm (M 0 0 15) (v1 + 2)).bind (fun v2 =>
  Option.bind (α := jm_M) ((if v2 = 0 then
  (jm_rd 6 (M 0 2) p1).bind (fun v5 =>
  (if 99 ≤ v5 then
  (some M)
  else
  (jm_rd 6 (M 0 2) p1).bind (fun v7 =>
  (jm_wa 6 M 0 2 p1 (v7 + 1)).bind (fun M8 =>
  (some M8)))))
  else
  (some M))) (fun e3 =>
  Option.bind (α := Int32) ((if (e3 0 0 17) = 0 then
  (sM_toRead e3 p1).bind (fun r11 =>
  (some r11))
  else
  (some (-9)))) (fun e9 =>
  (if 0 ≤ e9 then
  (jm_rd 10 (e3 0 9) e9).bind (fun v13 =>
  (jm_wa 10 e3 0 9 e9 (v13 ||| ((1 : Int32) <<< ((p1 : Int32) &&& 31)))).bind (fun M14 =>
  (jm_rd 10 (M14 0 7) e9).bind (fun v15 =>
  (jm_wa 10 M14 0 8 e9 v15).bind (fun M16 =>
  (some M16)))))
  else
  (some e3))))))
def sM_goesWeek_L12  (s2 : Int32 × jm_M) : Option ((Int32 × jm_M) ⊕ (jm_M)) :=
  (if (s2.2 0 0 13) ≤ s2.1 then
  (some (.inr s2.2))
  else
  (sM_goesPerson s2.2 s2.1).bind (fun r4 =>
  (some (.inl (s2.1 + 1, r4)))))
def sM_goesWeek (M : jm_M) : Option (jm_M) :=
  (jm_wf M 0 15 ((M 0 0 15) + 1)).bind (fun M1 =>
  Option.bind (jm_loop (sM_goesWeek_L12) jm_N (0, M1)) (fun e5 =>
  (some e5)))
def sM_goes_L2 (p1 : Int32) (s1 : Int32 × jm_M) : Option ((Int32 × jm_M) ⊕ (jm_M)) :=
  (if p1 ≤ s1.1 then
  (some (.inr s1.2))
  else
  (sM_goesWeek s1.2).bind (fun r3 =>
  (some (.inl (s1.1 + 1, r3)))))
def sM_goes (M : jm_M) (p1 : Int32) : Option (jm_M) :=
  Option.bind (jm_loop (sM_goes_L2 p1) jm_N (0, M)) (fun e4 =>
  (some e4))
def sM_feed (M : jm_M) (p1 : Int32) : Option (Int32 × jm_M) :=
  (sM_bound p1 0 255).bind (fun r1 =>
  Option.bind (α := Int32) ((if r1 = 0 then
  (if (M 0 0 26) = 96 then
  (some (-6))
  else
  (some r1))
  else
  (some r1))) (fun e2 =>
  (if e2 = 0 then
  (jm_wa 96 M 0 19 (M 0 0 26) p1).bind (fun M6 =>
  (jm_wf M6 0 26 ((M6 0 0 26) + 1)).bind (fun M7 =>
  (some (M7 0 0 26, M7))))
  else
  (sM_no M e2).bind (fun r8 =>
  (some (r8.1, r8.2))))))
def sM_sign (M : jm_M) : Option (Int32) :=
  (if (M 0 0 26) ≤ (M 0 0 27) then
  (some (-1))
  else
  (jm_rd 96 (M 0 19) (M 0 0 27)).bind (fun v2 =>
  (some v2)))
def sM_number_L4 (p1 : Int32) (s1 : Int32 × Int32 × jm_M) : Option ((Int32 × Int32 × jm_M) ⊕ ((Int32 × jm_M) ⊕ (Int32 × jm_M))) :=
  (if p1 ≤ s1.2.1 then
  (some (.inr (.inl (s1.1, s1.2.2))))
  else
  (sM_sign s1.2.2).bind (fun r3 =>
  (sM_isIn r3 48 57).bind (fun r4 =>
  (if r4 = 0 then
  (some (.inr (.inr ((-9), s1.2.2))))
  else
  (sM_sign s1.2.2).bind (fun r6 =>
  (some (((10 * s1.1) + r6) - 48)).bind (fun x7 =>
  (jm_wf s1.2.2 0 27 ((s1.2.2 0 0 27) + 1)).bind (fun M8 =>
  (some (.inl (x7, s1.2.1 + 1, M8))))))))))
def sM_number (M : jm_M) (p1 : Int32) : Option (Int32 × jm_M) :=
  Option.bind (jm_loop (sM_number_L4 p1) jm_N (0, 0, M)) (Sum.elim (fun e9 =>
  (some (e9.1, e9.2))) some)
def sM_readsDigits (M : jm_M) (p1 : Int32) : Option (Int32 × jm_M) :=
  (sM_number M p1).bind (fun r1 =>
  (jm_wa 147 r1.2 0 22 (M 0 0 29) r1.1).bind (fun M2 =>
  (jm_wf M2 0 29 ((M2 0 0 29) + 1)).bind (fun M3 =>
  (jm_rd 147 (M3 0 22) ((M3 0 0 29) - 1)).bind (fun v4 =>
  (if v4 < 0 then
  (some (0, M3))
  else
  (some (1, M3)))))))
def sM_readsTitle_L13  (s2 : jm_M) : Option ((jm_M) ⊕ (jm_M)) :=
  (sM_sign s2).bind (fun r3 =>
  (sM_isIn r3 97 122).bind (fun r4 =>
  (if r4 = 0 then
  (some (.inr s2))
  else
  (jm_wf s2 0 27 ((s2 0 0 27) + 1)).bind (fun M6 =>
  (some (.inl M6))))))
def sM_readsTitle (M : jm_M) : Option (Int32 × jm_M) :=
  (jm_wa 49 M 0 23 (M 0 0 28) (M 0 0 27)).bind (fun M1 =>
  Option.bind (jm_loop (sM_readsTitle_L13) jm_N M1) (fun e7 =>
  (jm_rd 49 (e7 0 23) (e7 0 0 28)).bind (fun v8 =>
  (jm_wa 49 e7 0 24 (e7 0 0 28) ((e7 0 0 27) - v8)).bind (fun M9 =>
  (jm_rd 49 (M9 0 24) (M9 0 0 28)).bind (fun v10 =>
  (if v10 ≤ 0 then
  (some (0, M9))
  else
  (some (1, M9))))))))
def sM_stepOf (p1 : Int32) : Option (Int32) :=
  (if p1 = 97 then
  (some 0)
  else
  (if p1 = 98 then
  (some (-9))
  else
  (if p1 = 99 then
  (some 2)
  else
  (if p1 = 100 then
  (some 4)
  else
  (if p1 = 101 then
  (some (-9))
  else
  (if p1 = 102 then
  (some (-9))
  else
  (if p1 = 103 then
  (some (-9))
  else
  (if p1 = 104 then
  (some 6)
  else
  (if p1 = 105 then
  (some (-9))
  else
  (if p1 = 106 then
  (some (-9))
  else
  (if p1 = 107 then
  (some (-9))
  else
  (if p1 = 108 then
  (some 1)
  else
  (if p1 = 109 then
  (some (-9))
  else
  (if p1 = 110 then
  (some (-9))
  else
  (if p1 = 111 then
  (some 7)
  else
  (if p1 = 112 then
  (some (-9))
  else
  (if p1 = 113 then
  (some (-9))
  else
  (if p1 = 114 then
  (some (-9))
  else
  (if p1 = 115 then
  (some (-9))
  else
  (if p1 = 116 then
  (some 3)
  else
  (if p1 = 117 then
  (some 5)
  else
  (some (-9)))))))))))))))))))))))
def sM_readsSteps_L15  (s2 : Int32 × jm_M) : Option ((Int32 × jm_M) ⊕ (Int32 × jm_M)) :=
  (sM_sign s2.2).bind (fun r3 =>
  (sM_stepOf r3).bind (fun r4 =>
  (if r4 < 0 then
  (some (.inr (s2.1, s2.2)))
  else
  (if s2.1 < 0 then
  (some (.inr (s2.1, s2.2)))
  else
  (sM_sign s2.2).bind (fun r7 =>
  (sM_stepOf r7).bind (fun r8 =>
  (jm_wa 97 s2.2 0 25 (s2.2 0 0 30) r8).bind (fun M9 =>
  (jm_wf M9 0 27 ((M9 0 0 27) + 1)).bind (fun M10 =>
  (jm_rd 97 (M10 0 25) (M10 0 0 30)).bind (fun v11 =>
  Option.bind (α := Int32 × jm_M) ((if 4 ≤ v11 then
  (some (0, M10))
  else
  (sM_number M10 2).bind (fun r14 =>
  (some (r14.1, r14.2))))) (fun e12 =>
  (jm_wa 97 e12.2 0 26 (e12.2 0 0 30) e12.1).bind (fun M15 =>
  (jm_wf M15 0 30 ((M15 0 0 30) + 1)).bind (fun M16 =>
  (some (.inl (e12.1, M16)))))))))))))))
def sM_readsSteps (M : jm_M) : Option (Int32 × jm_M) :=
  (jm_wa 49 M 0 23 (M 0 0 28) (M 0 0 30)).bind (fun M1 =>
  Option.bind (jm_loop (sM_readsSteps_L15) jm_N (0, M1)) (fun e17 =>
  (jm_rd 49 (e17.2 0 23) (e17.2 0 0 28)).bind (fun v18 =>
  (jm_wa 49 e17.2 0 24 (e17.2 0 0 28) ((e17.2 0 0 30) - v18)).bind (fun M19 =>
  (if e17.1 < 0 then
  (some (0, M19))
  else
  (some (1, M19)))))))
def sM_readsAll (M : jm_M) (p1 : Int32) : Option (Int32 × jm_M) :=
  (if p1 = 98 then
  (sM_readsDigits M 1).bind (fun r2 =>
  (if r2.1 = 0 then
  (some (0, r2.2))
  else
  (sM_readsDigits r2.2 1).bind (fun r4 =>
  (if r4.1 = 0 then
  (some (0, r4.2))
  else
  (sM_readsDigits r4.2 1).bind (fun r6 =>
  (if r6.1 = 0 then
  (some (0, r6.2))
  else
  (sM_readsTitle r6.2).bind (fun r8 =>
  (if r8.1 = 0 then
  (some (0, r8.2))
  else
  (some (1, r8.2))))))))))
  else
  (if p1 = 104 then
  (sM_readsDigits M 1).bind (fun r11 =>
  (if r11.1 = 0 then
  (some (0, r11.2))
  else
  (sM_readsTitle r11.2).bind (fun r13 =>
  (if r13.1 = 0 then
  (some (0, r13.2))
  else
  (some (1, r13.2))))))
  else
  (if p1 = 108 then
  (sM_readsSteps M).bind (fun r16 =>
  (jm_bz r16.1).bind (fun x17 => some (x17, r16.2)))
  else
  (if p1 = 112 then
  (sM_readsDigits M 2).bind (fun r20 =>
  (if r20.1 = 0 then
  (some (0, r20.2))
  else
  (sM_readsDigits r20.2 1).bind (fun r22 =>
  (if r22.1 = 0 then
  (some (0, r22.2))
  else
  (sM_readsDigits r22.2 2).bind (fun r24 =>
  (if r24.1 = 0 then
  (some (0, r24.2))
  else
  (some (1, r24.2))))))))
  else
  (if p1 = 114 then
  (sM_readsDigits M 1).bind (fun r27 =>
  (if r27.1 = 0 then
  (some (0, r27.2))
  else
  (sM_readsTitle r27.2).bind (fun r29 =>
  (if r29.1 = 0 then
  (some (0, r29.2))
  else
  (some (1, r29.2))))))
  else
  (sM_readsDigits M 2).bind (fun r31 =>
  (jm_bz r31.1).bind (fun x32 => some (x32, r31.2))))))))
def sM_statement (M : jm_M) : Option (Int32 × jm_M) :=
  (sM_sign M).bind (fun r1 =>
  (if r1 = 112 then
  (jm_wa 49 M 0 20 (M 0 0 28) r1).bind (fun M3 =>
  (jm_wa 49 M3 0 21 (M3 0 0 28) (M3 0 0 27)).bind (fun M4 =>
  (jm_wf M4 0 29 (3 * (M4 0 0 28))).bind (fun M5 =>
  (jm_wf M5 0 27 ((M5 0 0 27) + 1)).bind (fun M6 =>
  (sM_readsAll M6 r1).bind (fun r7 =>
  (if r7.1 = 0 then
  (some (0, r7.2))
  else
  (sM_sign r7.2).bind (fun r9 =>
  (if r9 = 59 then
  (jm_wf r7.2 0 27 ((r7.2 0 0 27) + 1)).bind (fun M11 =>
  (some (1, M11)))
  else
  (some (0, r7.2))))))))))
  else
  (if r1 = 98 then
  (jm_wa 49 M 0 20 (M 0 0 28) r1).bind (fun M13 =>
  (jm_wa 49 M13 0 21 (M13 0 0 28) (M13 0 0 27)).bind (fun M14 =>
  (jm_wf M14 0 29 (3 * (M14 0 0 28))).bind (fun M15 =>
  (jm_wf M15 0 27 ((M15 0 0 27) + 1)).bind (fun M16 =>
  (sM_readsAll M16 r1).bind (fun r17 =>
  (if r17.1 = 0 then
  (some (0, r17.2))
  else
  (sM_sign r17.2).bind (fun r19 =>
  (if r19 = 59 then
  (jm_wf r17.2 0 27 ((r17.2 0 0 27) + 1)).bind (fun M21 =>
  (some (1, M21)))
  else
  (some (0, r17.2))))))))))
  else
  (if r1 = 114 then
  (jm_wa 49 M 0 20 (M 0 0 28) r1).bind (fun M23 =>
  (jm_wa 49 M23 0 21 (M23 0 0 28) (M23 0 0 27)).bind (fun M24 =>
  (jm_wf M24 0 29 (3 * (M24 0 0 28))).bind (fun M25 =>
  (jm_wf M25 0 27 ((M25 0 0 27) + 1)).bind (fun M26 =>
  (sM_readsAll M26 r1).bind (fun r27 =>
  (if r27.1 = 0 then
  (some (0, r27.2))
  else
  (sM_sign r27.2).bind (fun r29 =>
  (if r29 = 59 then
  (jm_wf r27.2 0 27 ((r27.2 0 0 27) + 1)).bind (fun M31 =>
  (some (1, M31)))
  else
  (some (0, r27.2))))))))))
  else
  (if r1 = 104 then
  (jm_wa 49 M 0 20 (M 0 0 28) r1).bind (fun M33 =>
  (jm_wa 49 M33 0 21 (M33 0 0 28) (M33 0 0 27)).bind (fun M34 =>
  (jm_wf M34 0 29 (3 * (M34 0 0 28))).bind (fun M35 =>
  (jm_wf M35 0 27 ((M35 0 0 27) + 1)).bind (fun M36 =>
  (sM_readsAll M36 r1).bind (fun r37 =>
  (if r37.1 = 0 then
  (some (0, r37.2))
  else
  (sM_sign r37.2).bind (fun r39 =>
  (if r39 = 59 then
  (jm_wf r37.2 0 27 ((r37.2 0 0 27) + 1)).bind (fun M41 =>
  (some (1, M41)))
  else
  (some (0, r37.2))))))))))
  else
  (if r1 = 108 then
  (jm_wa 49 M 0 20 (M 0 0 28) r1).bind (fun M43 =>
  (jm_wa 49 M43 0 21 (M43 0 0 28) (M43 0 0 27)).bind (fun M44 =>
  (jm_wf M44 0 29 (3 * (M44 0 0 28))).bind (fun M45 =>
  (jm_wf M45 0 27 ((M45 0 0 27) + 1)).bind (fun M46 =>
  (sM_readsAll M46 r1).bind (fun r47 =>
  (if r47.1 = 0 then
  (some (0, r47.2))
  else
  (sM_sign r47.2).bind (fun r49 =>
  (if r49 = 59 then
  (jm_wf r47.2 0 27 ((r47.2 0 0 27) + 1)).bind (fun M51 =>
  (some (1, M51)))
  else
  (some (0, r47.2))))))))))
  else
  (if r1 = 119 then
  (jm_wa 49 M 0 20 (M 0 0 28) r1).bind (fun M53 =>
  (jm_wa 49 M53 0 21 (M53 0 0 28) (M53 0 0 27)).bind (fun M54 =>
  (jm_wf M54 0 29 (3 * (M54 0 0 28))).bind (fun M55 =>
  (jm_wf M55 0 27 ((M55 0 0 27) + 1)).bind (fun M56 =>
  (sM_readsAll M56 r1).bind (fun r57 =>
  (if r57.1 = 0 then
  (some (0, r57.2))
  else
  (sM_sign r57.2).bind (fun r59 =>
  (if r59 = 59 then
  (jm_wf r57.2 0 27 ((r57.2 0 0 27) + 1)).bind (fun M61 =>
  (some (1, M61)))
  else
  (some (0, r57.2))))))))))
  else
  (some (0, M)))))))))
def sM_isTitled_L20 (p3 : Int32) (M : jm_M) (p1 : Int32) (p2 : Int32) (s4 : Int32 × Int32) : Option ((Int32 × Int32) ⊕ (Int32)) :=
  (if p3 ≤ s4.2 then
  (some (.inr s4.1))
  else
  (if s4.1 = 0 then
  (some (.inr s4.1))
  else
  (jm_rd 40 (M 0 11) ((4 * p1) + s4.2)).bind (fun v7 =>
  (jm_rd 96 (M 0 19) (p2 + s4.2)).bind (fun v8 =>
  (if v7 = (v8 - 97) then
  (some (.inl (1, s4.2 + 1)))
  else
  (some (.inl (0, s4.2 + 1))))))))
def sM_isTitled (M : jm_M) (p1 : Int32) (p2 : Int32) (p3 : Int32) : Option (Int32) :=
  (jm_rd 10 (M 0 10) p1).bind (fun v1 =>
  Option.bind (α := Int32) ((if v1 = p3 then
  (some 1)
  else
  (some 0))) (fun e2 =>
  Option.bind (jm_loop (sM_isTitled_L20 p3 M p1 p2) jm_N (e2, 0)) (fun e10 =>
  (jm_bz e10).bind (fun x11 => some x11))))
def sM_titledBy_L2 (M : jm_M) (p1 : Int32) (s1 : Int32) : Option ((Int32) ⊕ (Unit ⊕ (Int32))) :=
  (if (M 0 0 14) ≤ s1 then
  (some (.inr (.inl ())))
  else
  (jm_rd 49 (M 0 23) p1).bind (fun v3 =>
  (jm_rd 49 (M 0 24) p1).bind (fun v4 =>
  (sM_isTitled M s1 v3 v4).bind (fun r5 =>
  (if r5 = 0 then
  (some (.inl (s1 + 1)))
  else
  (some (.inr (.inr s1))))))))
def sM_titledBy (M : jm_M) (p1 : Int32) : Option (Int32) :=
  Option.bind (jm_loop (sM_titledBy_L2 M p1) jm_N 0) (Sum.elim (fun e7 =>
  (some (-9))) some)
def sM_isMore (M : jm_M) (p1 : Int32) (p2 : Int32) (p3 : Int32) : Option (jm_M) :=
  (jm_wa 6 M 0 2 (M 0 0 13) p1).bind (fun M1 =>
  (jm_wa 6 M1 0 3 (M1 0 0 13) p2).bind (fun M2 =>
  (jm_wa 6 M2 0 4 (M2 0 0 13) p3).bind (fun M3 =>
  (jm_wf M3 0 13 ((M3 0 0 13) + 1)).bind (fun M4 =>
  (some M4)))))
def sM_isBrought (M : jm_M) (p1 : Int32) (p2 : Int32) (p3 : Int32) : Option (jm_M) :=
  (jm_wa 10 M 0 5 (M 0 0 14) p1).bind (fun M1 =>
  (jm_wa 10 M1 0 6 (M1 0 0 14) p2).bind (fun M2 =>
  (jm_wa 10 M2 0 7 (M2 0 0 14) p3).bind (fun M3 =>
  (jm_wa 10 M3 0 8 (M3 0 0 14) p3).bind (fun M4 =>
  (jm_wa 10 M4 0 9 (M4 0 0 14) 0).bind (fun M5 =>
  (jm_wa 10 M5 0 10 (M5 0 0 14) 0).bind (fun M6 =>
  (jm_wf M6 0 14 ((M6 0 0 14) + 1)).bind (fun M7 =>
  (some M7))))))))
def sM_isTitledMore (M : jm_M) (p1 : Int32) : Option (jm_M) :=
  (some ((M 0 0 14) - 1)).bind (fun x1 =>
  (jm_rd 10 (M 0 10) x1).bind (fun v2 =>
  (jm_wa 40 M 0 11 ((4 * x1) + v2) p1).bind (fun M3 =>
  (jm_rd 10 (M3 0 10) x1).bind (fun v4 =>
  (jm_wa 10 M3 0 10 x1 (v4 + 1)).bind (fun M5 =>
  (some M5))))))
def sM_comesPerson (M : jm_M) (p1 : Int32) : Option (Int32 × jm_M) :=
  (if (M 0 0 13) = 6 then
  (some (0, M))
  else
  (jm_rd 147 (M 0 22) p1).bind (fun v2 =>
  (jm_rd 147 (M 0 22) (p1 + 1)).bind (fun v3 =>
  (jm_rd 147 (M 0 22) (p1 + 2)).bind (fun v4 =>
  (sM_isMore M v2 v3 v4).bind (fun r5 =>
  (some (1, r5)))))))
def sM_comesBook_L83 (p1 : Int32) (s15 : Int32 × jm_M) : Option ((Int32 × jm_M) ⊕ (jm_M)) :=
  (jm_rd 49 (s15.2 0 24) p1).bind (fun v16 =>
  (if v16 ≤ s15.1 then
  (some (.inr s15.2))
  else
  (jm_rd 49 (s15.2 0 23) p1).bind (fun v18 =>
  (jm_rd 96 (s15.2 0 19) (v18 + s15.1)).bind (fun v19 =>
  (sM_isTitledMore s15.2 (v19 - 97)).bind (fun r20 =>
  (some (.inl (s15.1 + 1, r20))))))))
def sM_comesBook (M : jm_M) (p1 : Int32) (p2 : Int32) : Option (Int32 × jm_M) :=
  (jm_rd 147 (M 0 22) p2).bind (fun v1 =>
  (if 8 ≤ v1 then
  (some (0, M))
  else
  (jm_rd 147 (M 0 22) (p2 + 2)).bind (fun v3 =>
  (sM_isPlace M v3).bind (fun r4 =>
  (if r4 = 0 then
  (some (0, M))
  else
  (jm_rd 49 (M 0 24) p1).bind (fun v6 =>
  (if 4 < v6 then
  (some (0, M))
  else
  (sM_titledBy M p1).bind (fun r8 =>
  (if 0 ≤ r8 then
  (some (0, M))
  else
  (if (M 0 0 14) = 10 then
  (some (0, M))
  else
  (jm_rd 147 (M 0 22) p2).bind (fun v11 =>
  (jm_rd 147 (M 0 22) (p2 + 1)).bind (fun v12 =>
  (jm_rd 147 (M 0 22) (p2 + 2)).bind (fun v13 =>
  (sM_isBrought M v11 v12 v13).bind (fun r14 =>
  Option.bind (jm_loop (sM_comesBook_L83 p1) jm_N (0, r14)) (fun e21 =>
  (some (1, e21)))))))))))))))))
def sM_comesReading (M : jm_M) (p1 : Int32) (p2 : Int32) : Option (Int32 × jm_M) :=
  (sM_titledBy M p1).bind (fun r1 =>
  (jm_rd 147 (M 0 22) p2).bind (fun v2 =>
  (sM_isPerson M v2).bind (fun r3 =>
  (if r3 = 0 then
  (some (0, M))
  else
  (if 0 ≤ r1 then
  (jm_rd 10 (M 0 9) r1).bind (fun v6 =>
  (jm_rd 147 (M 0 22) p2).bind (fun v7 =>
  (jm_wa 10 M 0 9 r1 (v6 ||| ((1 : Int32) <<< ((v7 : Int32) &&& 31)))).bind (fun M8 =>
  (some (1, M8)))))
  else
  (some (0, M)))))))
def sM_comesHolding (M : jm_M) (p1 : Int32) (p2 : Int32) : Option (Int32 × jm_M) :=
  (sM_titledBy M p1).bind (fun r1 =>
  (jm_rd 147 (M 0 22) p2).bind (fun v2 =>
  (sM_isPlace M v2).bind (fun r3 =>
  (if r3 = 0 then
  (some (0, M))
  else
  (if 0 ≤ r1 then
  (jm_rd 147 (M 0 22) p2).bind (fun v6 =>
  (jm_wa 10 M 0 8 r1 v6).bind (fun M7 =>
  (some (1, M7))))
  else
  (some (0, M)))))))
def sM_comesLaw_L25 (p1 : Int32) (s5 : Int32 × jm_M) : Option ((Int32 × jm_M) ⊕ (jm_M)) :=
  (if (s5.2 0 0 16) ≤ s5.1 then
  (some (.inr s5.2))
  else
  (jm_rd 49 (s5.2 0 23) p1).bind (fun v7 =>
  (jm_rd 97 (s5.2 0 25) (v7 + s5.1)).bind (fun v8 =>
  (jm_wa 6 s5.2 0 12 s5.1 v8).bind (fun M9 =>
  (jm_rd 49 (M9 0 23) p1).bind (fun v10 =>
  (jm_rd 97 (M9 0 26) (v10 + s5.1)).bind (fun v11 =>
  (jm_wa 6 M9 0 13 s5.1 v11).bind (fun M12 =>
  (some (.inl (s5.1 + 1, M12))))))))))
def sM_comesLaw (M : jm_M) (p1 : Int32) : Option (Int32 × jm_M) :=
  (jm_rd 49 (M 0 24) p1).bind (fun v1 =>
  (if v1 ≤ 6 then
  (jm_rd 49 (M 0 24) p1).bind (fun v3 =>
  (jm_wf M 0 16 v3).bind (fun M4 =>
  Option.bind (jm_loop (sM_comesLaw_L25 p1) jm_N (0, M4)) (fun e13 =>
  (some (1, e13)))))
  else
  (some (0, M))))
def sM_comesWeeks (M : jm_M) (p1 : Int32) : Option (Int32 × jm_M) :=
  (sM_isIn p1 1 60).bind (fun r1 =>
  (if r1 = 0 then
  (some (0, M))
  else
  (if ((M 0 0 15) + p1) ≤ 999 then
  (sM_goes M p1).bind (fun r4 =>
  (some (1, r4)))
  else
  (some (0, M)))))
def sM_comesTold (M : jm_M) (p1 : Int32) : Option (Int32 × jm_M) :=
  (some (3 * p1)).bind (fun x1 =>
  (jm_rd 49 (M 0 20) p1).bind (fun v2 =>
  (if v2 = 98 then
  (sM_comesBook M p1 x1).bind (fun r4 =>
  (jm_bz r4.1).bind (fun x5 => some (x5, r4.2)))
  else
  (if v2 = 104 then
  (sM_comesHolding M p1 x1).bind (fun r8 =>
  (jm_bz r8.1).bind (fun x9 => some (x9, r8.2)))
  else
  (if v2 = 108 then
  (sM_comesLaw M p1).bind (fun r12 =>
  (jm_bz r12.1).bind (fun x13 => some (x13, r12.2)))
  else
  (if v2 = 112 then
  (sM_comesPerson M x1).bind (fun r16 =>
  (jm_bz r16.1).bind (fun x17 => some (x17, r16.2)))
  else
  (if v2 = 114 then
  (sM_comesReading M p1 x1).bind (fun r20 =>
  (jm_bz r20.1).bind (fun x21 => some (x21, r20.2)))
  else
  (jm_rd 147 (M 0 22) x1).bind (fun v23 =>
  (sM_comesWeeks M v23).bind (fun r24 =>
  (jm_bz r24.1).bind (fun x25 => some (x25, r24.2)))))))))))
def sM_passes_L2 (p1 : Nat × Nat) (s1 : Int32 × jm_M) : Option ((Int32 × jm_M) ⊕ (jm_M)) :=
  (jm_len jm_LM p1).bind (fun N2 =>
  (if (nI N2) ≤ s1.1 then
  (some (.inr s1.2))
  else
  Option.bind (α := jm_M) ((if (s1.2 0 0 33) = 0 then
  (jm_rd 1500 (s1.2 0 32) (s1.2 0 0 34)).bind (fun v6 =>
  (jm_len jm_LM p1).bind (fun N7 =>
  (jm_wa N7 s1.2 p1.1 p1.2 s1.1 v6).bind (fun M8 =>
  (some M8))))
  else
  (jm_len jm_LM p1).bind (fun N9 =>
  (jm_rd N9 (s1.2 p1.1 p1.2) s1.1).bind (fun v10 =>
  (jm_wa 1500 s1.2 0 32 (s1.2 0 0 34) v10).bind (fun M11 =>
  (some M11)))))) (fun e4 =>
  (jm_wf e4 0 34 ((e4 0 0 34) + 1)).bind (fun M12 =>
  (some (.inl (s1.1 + 1, M12)))))))
def sM_passes (M : jm_M) (p1 : Nat × Nat) : Option (jm_M) :=
  Option.bind (jm_loop (sM_passes_L2 p1) jm_N (0, M)) (fun e13 =>
  (some e13))
def sM_passOne (M : jm_M) (p1 : Int32) : Option (Int32 × jm_M) :=
  Option.bind (α := Int32) ((if (M 0 0 33) = 0 then
  (jm_rd 1500 (M 0 32) (M 0 0 34)).bind (fun v3 =>
  (some v3))
  else
  (some p1))) (fun e1 =>
  Option.bind (α := jm_M) ((if (M 0 0 33) = 0 then
  (some M)
  else
  (jm_wa 1500 M 0 32 (M 0 0 34) p1).bind (fun M6 =>
  (some M6)))) (fun e4 =>
  (jm_wf e4 0 34 ((e4 0 0 34) + 1)).bind (fun M7 =>
  (some (e1, M7)))))
def sM_passesAll (M : jm_M) (p1 : Int32) (p2 : Int32) : Option (jm_M) :=
  (jm_wf M 0 34 (135 * p1)).bind (fun M1 =>
  (jm_wz M1 0 33 p2).bind (fun M2 =>
  (sM_passes M2 (0, 2)).bind (fun r3 =>
  (sM_passes r3 (0, 3)).bind (fun r4 =>
  (sM_passes r4 (0, 4)).bind (fun r5 =>
  (sM_passes r5 (0, 5)).bind (fun r6 =>
  (sM_passes r6 (0, 6)).bind (fun r7 =>
  (sM_passes r7 (0, 7)).bind (fun r8 =>
  (sM_passes r8 (0, 8)).bind (fun r9 =>
  (sM_passes r9 (0, 9)).bind (fun r10 =>
  (sM_passes r10 (0, 10)).bind (fun r11 =>
  (sM_passes r11 (0, 11)).bind (fun r12 =>
  (sM_passes r12 (0, 12)).bind (fun r13 =>
  (sM_passes r13 (0, 13)).bind (fun r14 =>
  (sM_passOne r14 (r14 0 0 13)).bind (fun r15 =>
  (jm_wf r15.2 0 13 r15.1).bind (fun M16 =>
  (sM_passOne M16 (M16 0 0 14)).bind (fun r17 =>
  (jm_wf r17.2 0 14 r17.1).bind (fun M18 =>
  (sM_passOne M18 (M18 0 0 15)).bind (fun r19 =>
  (jm_wf r19.2 0 15 r19.1).bind (fun M20 =>
  (sM_passOne M20 (M20 0 0 16)).bind (fun r21 =>
  (jm_wf r21.2 0 16 r21.1).bind (fun M22 =>
  (some M22)))))))))))))))))))))))
def sM_town_L17  (s4 : Int32 × jm_M) : Option ((Int32 × jm_M) ⊕ (Int32 × jm_M)) :=
  (if s4.1 = 0 then
  (some (.inr (s4.1, s4.2)))
  else
  (if (s4.2 0 0 27) < (s4.2 0 0 26) then
  (sM_statement s4.2).bind (fun r7 =>
  Option.bind (α := Int32) ((if r7.1 = 0 then
  (some 0)
  else
  (some 1))) (fun e8 =>
  (jm_wf r7.2 0 28 ((r7.2 0 0 28) + e8)).bind (fun M10 =>
  (some (.inl (r7.1, M10))))))
  else
  (if (s4.2 0 0 28) = 0 then
  (sM_statement s4.2).bind (fun r12 =>
  Option.bind (α := Int32) ((if r12.1 = 0 then
  (some 0)
  else
  (some 1))) (fun e13 =>
  (jm_wf r12.2 0 28 ((r12.2 0 0 28) + e13)).bind (fun M15 =>
  (some (.inl (r12.1, M15))))))
  else
  (some (.inr (s4.1, s4.2))))))
def sM_town_L91  (s20 : Int32 × jm_M) : Option ((Int32 × jm_M) ⊕ (jm_M ⊕ (Int32 × jm_M))) :=
  (if (s20.2 0 0 28) ≤ s20.1 then
  (some (.inr (.inl s20.2)))
  else
  (sM_comesTold s20.2 s20.1).bind (fun r22 =>
  (if r22.1 = 0 then
  (sM_passesAll r22.2 1 0).bind (fun r24 =>
  (jm_rd 49 (r24 0 21) s20.1).bind (fun v25 =>
  (some (.inr (.inr ((-2000) - v25, r24))))))
  else
  (some (.inl (s20.1 + 1, r22.2))))))
def sM_town (M : jm_M) : Option (Int32 × jm_M) :=
  (jm_wf M 0 27 0).bind (fun M1 =>
  (jm_wf M1 0 28 0).bind (fun M2 =>
  (jm_wf M2 0 30 0).bind (fun M3 =>
  Option.bind (jm_loop (sM_town_L17) jm_N (1, M3)) (fun e16 =>
  (jm_wf e16.2 0 26 0).bind (fun M17 =>
  (if e16.1 = 0 then
  (some ((-1000) - (M17 0 0 27), M17))
  else
  (sM_passesAll M17 1 1).bind (fun r19 =>
  Option.bind (jm_loop (sM_town_L91) jm_N (0, r19)) (Sum.elim (fun e26 =>
  (jm_wf e26 0 36 0).bind (fun M27 =>
  (some (M27 0 0 28, M27)))) some))))))))
def sM_minds (M : jm_M) : Option (jm_M) :=
  (sM_passesAll M 2 1).bind (fun r1 =>
  (some r1))
def sM_forgets (M : jm_M) : Option (jm_M) :=
  (sM_passesAll M 2 0).bind (fun r1 =>
  (jm_wz r1 0 17 0).bind (fun M2 =>
  (some M2)))
def sM_remembers (M : jm_M) : Option (jm_M) :=
  Option.bind (α := jm_M) ((if (M 0 0 36) = 8 then
  (jm_rm ((M 0 0 35) + 1) 8).bind (fun v3 =>
  (jm_wf M 0 35 v3).bind (fun M4 =>
  (some M4)))
  else
  (jm_wf M 0 36 ((M 0 0 36) + 1)).bind (fun M5 =>
  (some M5)))) (fun e1 =>
  (jm_rm (((e1 0 0 35) + (e1 0 0 36)) - 1) 8).bind (fun v6 =>
  (sM_passesAll e1 (3 + v6) 1).bind (fun r7 =>
  (some r7))))
def sM_back (M : jm_M) : Option (Int32 × jm_M) :=
  (if (M 0 0 36) = 0 then
  (sM_no M (-3)).bind (fun r2 =>
  (some (r2.1, r2.2)))
  else
  (jm_rm (((M 0 0 35) + (M 0 0 36)) - 1) 8).bind (fun v3 =>
  (sM_passesAll M (3 + v3) 0).bind (fun r4 =>
  (jm_wf r4 0 36 ((r4 0 0 36) - 1)).bind (fun M5 =>
  (some (M5 0 0 36, M5))))))
def sM_image (M : jm_M) : Option (Int32 × jm_M) :=
  (jm_wz M 0 32 1).bind (fun M1 =>
  (sM_passesAll M1 0 1).bind (fun r2 =>
  (some (r2 0 0 15, r2))))
def sM_restore (M : jm_M) : Option (Int32 × jm_M) :=
  (if (M 0 0 32) = 0 then
  (sM_no M (-3)).bind (fun r2 =>
  (some (r2.1, r2.2)))
  else
  (sM_passesAll M 0 0).bind (fun r3 =>
  (jm_wf r3 0 36 0).bind (fun M4 =>
  (some (M4 0 0 15, M4)))))
def sM_manyRead_L4 (M : jm_M) (p1 : Int32) (s1 : Int32 × Int32) : Option ((Int32 × Int32) ⊕ (Int32)) :=
  (if (M 0 0 14) ≤ s1.2 then
  (some (.inr s1.1))
  else
  (jm_rd 10 (M 0 9) s1.2).bind (fun v3 =>
  (some (s1.1 + (((v3 : Int32) >>> ((p1 : Int32) &&& 31)) &&& 1))).bind (fun x4 =>
  (some (.inl (x4, s1.2 + 1))))))
def sM_manyRead (M : jm_M) (p1 : Int32) : Option (Int32) :=
  Option.bind (jm_loop (sM_manyRead_L4 M p1) jm_N (0, 0)) (fun e5 =>
  (some e5))
def sM_manyIn_L5 (p2 : Int32) (p1 : Nat × Nat) (M : jm_M) (p3 : Int32) (s1 : Int32 × Int32) : Option ((Int32 × Int32) ⊕ (Int32)) :=
  (if p2 ≤ s1.2 then
  (some (.inr s1.1))
  else
  (jm_len jm_LM p1).bind (fun N3 =>
  (jm_rd N3 (M p1.1 p1.2) s1.2).bind (fun v4 =>
  (if v4 = p3 then
  (some (s1.1 + 1)).bind (fun x6 =>
  (some (.inl (x6, s1.2 + 1))))
  else
  (some (s1.1 + 0)).bind (fun x7 =>
  (some (.inl (x7, s1.2 + 1))))))))
def sM_manyIn (M : jm_M) (p1 : Nat × Nat) (p2 : Int32) (p3 : Int32) : Option (Int32) :=
  Option.bind (jm_loop (sM_manyIn_L5 p2 p1 M p3) jm_N (0, 0)) (fun e8 =>
  (some e8))
def sM_person (M : jm_M) (p1 : Int32) (p2 : Int32) : Option (Int32 × jm_M) :=
  (sM_isPerson M p1).bind (fun r1 =>
  (if r1 = 0 then
  (sM_no M (-1)).bind (fun r3 =>
  (some (r3.1, r3.2)))
  else
  (if p2 = 0 then
  (jm_rd 6 (M 0 2) p1).bind (fun v5 =>
  (some (v5, M)))
  else
  (if p2 = 1 then
  (jm_rd 6 (M 0 3) p1).bind (fun v7 =>
  (some (v7, M)))
  else
  (if p2 = 2 then
  (jm_rd 6 (M 0 4) p1).bind (fun v9 =>
  (some (v9, M)))
  else
  (if p2 = 3 then
  (sM_manyRead M p1).bind (fun r11 =>
  (some (r11, M)))
  else
  (if p2 = 4 then
  (sM_manyIn M (0, 8) (M 0 0 14) p1).bind (fun r13 =>
  (some (r13, M)))
  else
  (if p2 = 5 then
  (sM_manyIn M (0, 7) (M 0 0 14) p1).bind (fun r15 =>
  (some (r15, M)))
  else
  (sM_no M (-2)).bind (fun r16 =>
  (some (r16.1, r16.2)))))))))))
def sM_book (M : jm_M) (p1 : Int32) (p2 : Int32) : Option (Int32 × jm_M) :=
  (sM_isBook M p1).bind (fun r1 =>
  (if r1 = 0 then
  (sM_no M (-1)).bind (fun r3 =>
  (some (r3.1, r3.2)))
  else
  (if p2 = 0 then
  (jm_rd 10 (M 0 5) p1).bind (fun v5 =>
  (some (v5, M)))
  else
  (if p2 = 1 then
  (jm_rd 10 (M 0 6) p1).bind (fun v7 =>
  (some (v7, M)))
  else
  (if p2 = 2 then
  (jm_rd 10 (M 0 7) p1).bind (fun v9 =>
  (some (v9, M)))
  else
  (if p2 = 3 then
  (jm_rd 10 (M 0 8) p1).bind (fun v11 =>
  (some (v11, M)))
  else
  (if p2 = 4 then
  (jm_rd 10 (M 0 9) p1).bind (fun v13 =>
  (some (v13, M)))
  else
  (if p2 = 5 then
  (sM_weighs M p1).bind (fun r15 =>
  (some (r15, M)))
  else
  (if p2 = 6 then
  (sM_price M p1).bind (fun r17 =>
  (some (r17, M)))
  else
  (if p2 = 7 then
  (jm_rd 10 (M 0 10) p1).bind (fun v19 =>
  (some (v19, M)))
  else
  (sM_no M (-2)).bind (fun r20 =>
  (some (r20.1, r20.2)))))))))))))
def sM_title (M : jm_M) (p1 : Int32) (p2 : Int32) : Option (Int32 × jm_M) :=
  (sM_isBook M p1).bind (fun r1 =>
  Option.bind (α := Int32) ((if r1 = 0 then
  (some (-1))
  else
  (if 0 ≤ p2 then
  (some 0)
  else
  (some (-4))))) (fun e2 =>
  (if e2 = 0 then
  (jm_rd 10 (M 0 10) p1).bind (fun v6 =>
  (if v6 ≤ p2 then
  (some ((-9), M))
  else
  (jm_rd 40 (M 0 11) ((4 * p1) + p2)).bind (fun v8 =>
  (some (v8, M)))))
  else
  (sM_no M e2).bind (fun r9 =>
  (some (r9.1, r9.2))))))
def sM_comes (M : jm_M) (p1 : Int32) (p2 : Int32) (p3 : Int32) : Option (Int32 × jm_M) :=
  Option.bind (α := Int32) ((if p1 < 0 then
  (some (-4))
  else
  (if p2 < 0 then
  (some (-4))
  else
  (if 0 ≤ p3 then
  (if 99 < p1 then
  (some (-6))
  else
  (if 9 < p2 then
  (some (-6))
  else
  (if 99 < p3 then
  (some (-6))
  else
  (if (M 0 0 13) = 6 then
  (some (-6))
  else
  (some 0)))))
  else
  (some (-4)))))) (fun e1 =>
  (if e1 = 0 then
  (sM_isMore M p1 p2 p3).bind (fun r10 =>
  (jm_wf r10 0 36 0).bind (fun M11 =>
  (some ((M11 0 0 13) - 1, M11))))
  else
  (sM_no M e1).bind (fun r12 =>
  (some (r12.1, r12.2)))))
def sM_isLetterTitle_L2 (M : jm_M) (p1 : Int32) (s1 : Int32) : Option ((Int32) ⊕ (Unit ⊕ (Int32))) :=
  (if (M 0 0 14) ≤ s1 then
  (some (.inr (.inl ())))
  else
  (jm_rd 10 (M 0 10) s1).bind (fun v3 =>
  (if v3 = 1 then
  (jm_rd 40 (M 0 11) (4 * s1)).bind (fun v5 =>
  (if v5 = p1 then
  (some (.inr (.inr 1)))
  else
  (some (.inl (s1 + 1)))))
  else
  (some (.inl (s1 + 1))))))
def sM_isLetterTitle (M : jm_M) (p1 : Int32) : Option (Int32) :=
  Option.bind (jm_loop (sM_isLetterTitle_L2 M p1) jm_N 0) (Sum.elim (fun e7 =>
  (some 0)) some)
def sM_brings (M : jm_M) (p1 : Int32) (p2 : Int32) (p3 : Int32) (p4 : Int32) : Option (Int32 × jm_M) :=
  (sM_isIn p1 0 7).bind (fun r1 =>
  Option.bind (α := Int32) ((if r1 = 0 then
  (some (-2))
  else
  (if p2 < 0 then
  (some (-4))
  else
  (if 0 ≤ p4 then
  (if 9 < p2 then
  (some (-6))
  else
  (if 25 < p4 then
  (some (-6))
  else
  (if (M 0 0 14) = 10 then
  (some (-6))
  else
  (sM_isPlace M p3).bind (fun r9 =>
  (if r9 = 0 then
  (some (-1))
  else
  (some 0))))))
  else
  (some (-4)))))) (fun e2 =>
  Option.bind (α := Int32) ((if e2 = 0 then
  (sM_isLetterTitle M p4).bind (fun r13 =>
  (if r13 = 0 then
  (some e2)
  else
  (some (-3))))
  else
  (some e2))) (fun e11 =>
  (if e11 = 0 then
  (sM_isBrought M p1 p2 p3).bind (fun r16 =>
  (sM_isTitledMore r16 p4).bind (fun r17 =>
  (jm_wf r17 0 36 0).bind (fun M18 =>
  (some ((M18 0 0 14) - 1, M18)))))
  else
  (sM_no M e11).bind (fun r19 =>
  (some (r19.1, r19.2)))))))
def sM_eats (M : jm_M) (p1 : Int32) (p2 : Int32) : Option (Int32 × jm_M) :=
  (sM_isPerson M p1).bind (fun r1 =>
  Option.bind (α := Int32) ((if r1 = 0 then
  (some (-1))
  else
  (sM_bound p2 0 99).bind (fun r4 =>
  (some r4)))) (fun e2 =>
  (if e2 = 0 then
  (sM_remembers M).bind (fun r6 =>
  (jm_rd 6 (r6 0 2) p1).bind (fun v7 =>
  (jm_wa 6 r6 0 2 p1 p2).bind (fun M8 =>
  (some (v7, M8)))))
  else
  (sM_no M e2).bind (fun r9 =>
  (some (r9.1, r9.2))))))
def sM_reads (M : jm_M) (p1 : Int32) (p2 : Int32) : Option (Int32 × jm_M) :=
  (sM_isPerson M p1).bind (fun r1 =>
  (if r1 = 0 then
  (sM_no M (-1)).bind (fun r3 =>
  (some (r3.1, r3.2)))
  else
  (sM_isBook M p2).bind (fun r4 =>
  (if r4 = 0 then
  (sM_no M (-1)).bind (fun r6 =>
  (some (r6.1, r6.2)))
  else
  (sM_remembers M).bind (fun r7 =>
  (jm_rd 10 (r7 0 9) p2).bind (fun v8 =>
  (sM_has v8 p1).bind (fun r9 =>
  Option.bind (α := Int32) ((if r9 = 0 then
  (some 1)
  else
  (some 0))) (fun e10 =>
  (jm_rd 10 (r7 0 9) p2).bind (fun v12 =>
  (jm_wa 10 r7 0 9 p2 (v12 ||| ((1 : Int32) <<< ((p1 : Int32) &&& 31)))).bind (fun M13 =>
  (some (e10, M13))))))))))))
def sM_lends (M : jm_M) (p1 : Int32) (p2 : Int32) : Option (Int32 × jm_M) :=
  (sM_isBook M p1).bind (fun r1 =>
  (if r1 = 0 then
  (sM_no M (-1)).bind (fun r3 =>
  (some (r3.1, r3.2)))
  else
  (sM_isPlace M p2).bind (fun r4 =>
  (if r4 = 0 then
  (sM_no M (-1)).bind (fun r6 =>
  (some (r6.1, r6.2)))
  else
  (sM_remembers M).bind (fun r7 =>
  (jm_rd 10 (r7 0 8) p1).bind (fun v8 =>
  (jm_wa 10 r7 0 8 p1 p2).bind (fun M9 =>
  (some (v8, M9)))))))))
def sM_buys (M : jm_M) (p1 : Int32) (p2 : Int32) : Option (Int32 × jm_M) :=
  (sM_isPerson M p1).bind (fun r1 =>
  Option.bind (α := Int32) ((if r1 = 0 then
  (some (-1))
  else
  (sM_isBook M p2).bind (fun r4 =>
  (if r4 = 0 then
  (some (-1))
  else
  (jm_rd 10 (M 0 7) p2).bind (fun v6 =>
  (if v6 = 9 then
  (jm_rd 6 (M 0 4) p1).bind (fun v8 =>
  (sM_price M p2).bind (fun r9 =>
  (if r9 ≤ v8 then
  (some 0)
  else
  (some (-3)))))
  else
  (some (-3)))))))) (fun e2 =>
  (if e2 = 0 then
  (sM_remembers M).bind (fun r12 =>
  (jm_rd 6 (r12 0 4) p1).bind (fun v13 =>
  (sM_price r12 p2).bind (fun r14 =>
  (jm_wa 6 r12 0 4 p1 (v13 - r14)).bind (fun M15 =>
  (jm_wa 10 M15 0 7 p2 p1).bind (fun M16 =>
  (jm_wa 10 M16 0 8 p2 p1).bind (fun M17 =>
  (jm_rd 6 (M17 0 4) p1).bind (fun v18 =>
  (some (v18, M17)))))))))
  else
  (sM_no M e2).bind (fun r19 =>
  (some (r19.1, r19.2))))))
def sM_step (M : jm_M) (p1 : Int32) (p2 : Int32) : Option (Int32 × jm_M) :=
  (sM_isIn p1 0 7).bind (fun r1 =>
  Option.bind (α := Int32) ((if r1 = 0 then
  (some (-2))
  else
  (sM_bound p2 0 99).bind (fun r4 =>
  (some r4)))) (fun e2 =>
  Option.bind (α := Int32) ((if e2 = 0 then
  (if (M 0 0 16) = 6 then
  (some (-6))
  else
  (some e2))
  else
  (some e2))) (fun e5 =>
  (if e5 = 0 then
  (sM_remembers M).bind (fun r9 =>
  (jm_wa 6 r9 0 12 (r9 0 0 16) p1).bind (fun M10 =>
  (jm_wa 6 M10 0 13 (M10 0 0 16) p2).bind (fun M11 =>
  (jm_wf M11 0 16 ((M11 0 0 16) + 1)).bind (fun M12 =>
  (some (M12 0 0 16, M12))))))
  else
  (sM_no M e5).bind (fun r13 =>
  (some (r13.1, r13.2)))))))
def sM_clearLaw (M : jm_M) : Option (Int32 × jm_M) :=
  (sM_remembers M).bind (fun r1 =>
  (some (r1 0 0 16)).bind (fun x2 =>
  (jm_wf r1 0 16 0).bind (fun M3 =>
  (some (x2, M3)))))
def sM_weeks (M : jm_M) (p1 : Int32) : Option (Int32 × jm_M) :=
  (sM_bound p1 1 60).bind (fun r1 =>
  Option.bind (α := Int32) ((if r1 = 0 then
  (if ((M 0 0 15) + p1) ≤ 999 then
  (some r1)
  else
  (some (-6)))
  else
  (some r1))) (fun e2 =>
  (if e2 = 0 then
  (sM_remembers M).bind (fun r6 =>
  (sM_goes r6 p1).bind (fun r7 =>
  (some (r7 0 0 15, r7))))
  else
  (sM_no M e2).bind (fun r8 =>
  (some (r8.1, r8.2))))))
def sM_over (M : jm_M) (p1 : Int32) (p2 : Int32) : Option (Int32 × jm_M) :=
  (sM_areTwo M p1 p2).bind (fun r1 =>
  (if r1 = 0 then
  (sM_lower M (-1)).bind (fun r3 =>
  (some (r3.1, r3.2)))
  else
  (sM_overNow M p1 p2).bind (fun r4 =>
  (some (r4, M)))))
def sM_pan (M : jm_M) (p1 : Int32) (p2 : Int32) (p3 : Int32) : Option (Int32 × jm_M) :=
  (sM_areTwo M p1 p2).bind (fun r1 =>
  (if r1 = 0 then
  (sM_no M (-1)).bind (fun r3 =>
  (some (r3.1, r3.2)))
  else
  (sM_isBook M p3).bind (fun r4 =>
  (if r4 = 0 then
  (sM_no M (-1)).bind (fun r6 =>
  (some (r6.1, r6.2)))
  else
  (sM_comesTo M p3 p1 p2).bind (fun r7 =>
  (some (r7, M)))))))
def sM_overThen (M : jm_M) (p1 : Int32) (p2 : Int32) (p3 : Int32) : Option (Int32 × jm_M) :=
  (sM_areTwo M p1 p2).bind (fun r1 =>
  Option.bind (α := Int32) ((if r1 = 0 then
  (some (-1))
  else
  (sM_bound p3 0 60).bind (fun r4 =>
  (some r4)))) (fun e2 =>
  (if e2 = 0 then
  (sM_minds M).bind (fun r6 =>
  (sM_goes r6 p3).bind (fun r7 =>
  (sM_overNow r7 p1 p2).bind (fun r8 =>
  (sM_forgets r7).bind (fun r9 =>
  (some (r8, r9))))))
  else
  (sM_lower M e2).bind (fun r10 =>
  (some (r10.1, r10.2))))))
def sM_then (M : jm_M) (p1 : Int32) (p2 : Int32) (p3 : Int32) : Option (Int32 × jm_M) :=
  (sM_bound p1 0 60).bind (fun r1 =>
  Option.bind (α := Int32) ((if r1 = 0 then
  (sM_isIn p2 0 2).bind (fun r4 =>
  (if r4 = 0 then
  (some (-2))
  else
  (some r1)))
  else
  (some r1))) (fun e2 =>
  Option.bind (α := Int32) ((if e2 = 0 then
  (if p2 = 0 then
  (sM_isPerson M p3).bind (fun r9 =>
  (if r9 = 0 then
  (some (-1))
  else
  (some e2)))
  else
  (sM_isBook M p3).bind (fun r11 =>
  (if r11 = 0 then
  (some (-1))
  else
  (some e2))))
  else
  (some e2))) (fun e6 =>
  (if e6 = 0 then
  (sM_minds M).bind (fun r14 =>
  (sM_goes r14 p1).bind (fun r15 =>
  Option.bind (α := Int32) ((if p2 = 0 then
  (jm_rd 6 (r15 0 2) p3).bind (fun v18 =>
  (some v18))
  else
  (if p2 = 1 then
  (jm_rd 10 (r15 0 9) p3).bind (fun v20 =>
  (sM_bits v20).bind (fun r21 =>
  (some r21)))
  else
  (jm_rd 10 (r15 0 8) p3).bind (fun v22 =>
  (some v22))))) (fun e16 =>
  (sM_forgets r15).bind (fun r23 =>
  (some (e16, r23))))))
  else
  (sM_no M e6).bind (fun r24 =>
  (some (r24.1, r24.2)))))))
def sM_whenFrom_L2 (p1 : Int32) (p2 : Int32) (s1 : Int32 × jm_M) : Option ((Int32 × jm_M) ⊕ (jm_M ⊕ (Int32 × jm_M))) :=
  (if 60 < s1.1 then
  (some (.inr (.inl s1.2)))
  else
  (sM_comesDown s1.2 p1 p2).bind (fun r3 =>
  (if r3 = 0 then
  (sM_goesWeek s1.2).bind (fun r5 =>
  (some (.inl (s1.1 + 1, r5))))
  else
  (some (.inr (.inr (s1.1, s1.2)))))))
def sM_whenFrom (M : jm_M) (p1 : Int32) (p2 : Int32) : Option (Int32 × jm_M) :=
  Option.bind (jm_loop (sM_whenFrom_L2 p1 p2) jm_N (0, M)) (Sum.elim (fun e6 =>
  (some ((-9), e6))) some)
def sM_when (M : jm_M) (p1 : Int32) (p2 : Int32) : Option (Int32 × jm_M) :=
  (sM_areTwo M p1 p2).bind (fun r1 =>
  (if r1 = 0 then
  (sM_no M (-1)).bind (fun r3 =>
  (some (r3.1, r3.2)))
  else
  (sM_minds M).bind (fun r4 =>
  (sM_whenFrom r4 p1 p2).bind (fun r5 =>
  (sM_forgets r5.2).bind (fun r6 =>
  (some (r5.1, r6)))))))
def sM_marksDown_L14 (s1 : Int32 × jm_M) (s4 : Int32 × jm_M) : Option ((Int32 × jm_M) ⊕ (jm_M)) :=
  (if (s4.2 0 0 13) ≤ s4.1 then
  (some (.inr s4.2))
  else
  (sM_comesDown s4.2 s1.1 s4.1).bind (fun r6 =>
  Option.bind (α := Int32) ((if r6 = 0 then
  (some 0)
  else
  (some 1))) (fun e7 =>
  (jm_wa 36 s4.2 0 38 ((6 * s1.1) + s4.1) e7).bind (fun M9 =>
  (some (.inl (s4.1 + 1, M9)))))))
def sM_marksDown_L2  (s1 : Int32 × jm_M) : Option ((Int32 × jm_M) ⊕ (jm_M)) :=
  (if (s1.2 0 0 13) ≤ s1.1 then
  (some (.inr s1.2))
  else
  (some (s1.1 + 1)).bind (fun x3 =>
  Option.bind (jm_loop (sM_marksDown_L14 s1) jm_N (x3, s1.2)) (fun e10 =>
  (some (.inl (s1.1 + 1, e10))))))
def sM_marksDown (M : jm_M) : Option (jm_M) :=
  Option.bind (jm_loop (sM_marksDown_L2) jm_N (0, M)) (fun e11 =>
  (some e11))
def sM_firstDown_L14 (M : jm_M) (s1 : Int32) (s4 : Int32) : Option ((Int32) ⊕ (Unit ⊕ ((Int32) ⊕ (Unit ⊕ (Int32))))) :=
  (if (M 0 0 13) ≤ s4 then
  (some (.inr (.inl ())))
  else
  (jm_rd 36 (M 0 38) ((6 * s1) + s4)).bind (fun v6 =>
  (if v6 = 0 then
  (sM_comesDown M s1 s4).bind (fun r8 =>
  (if r8 = 0 then
  (some (.inl (s4 + 1)))
  else
  (some (.inr (.inr (.inr (.inr ((10 * s1) + s4))))))))
  else
  (some (.inl (s4 + 1))))))
def sM_firstDown_L2 (M : jm_M) (s1 : Int32) : Option ((Int32) ⊕ (Unit ⊕ (Int32))) :=
  (if (M 0 0 13) ≤ s1 then
  (some (.inr (.inl ())))
  else
  (some (s1 + 1)).bind (fun x3 =>
  Option.bind (jm_loop (sM_firstDown_L14 M s1) jm_N x3) (Sum.elim (fun e10 =>
  (some (.inl (s1 + 1)))) some)))
def sM_firstDown (M : jm_M) : Option (Int32) :=
  Option.bind (jm_loop (sM_firstDown_L2 M) jm_N 0) (Sum.elim (fun e11 =>
  (some (-9))) some)
def sM_first_L13  (s3 : Int32 × Int32 × jm_M) : Option ((Int32 × Int32 × jm_M) ⊕ (Int32 × jm_M)) :=
  (if 60 ≤ s3.2.1 then
  (some (.inr (s3.1, s3.2.2)))
  else
  (if 0 ≤ s3.1 then
  (some (.inr (s3.1, s3.2.2)))
  else
  (sM_goesWeek s3.2.2).bind (fun r6 =>
  (sM_firstDown r6).bind (fun r7 =>
  (some (.inl (r7, s3.2.1 + 1, r6)))))))
def sM_first (M : jm_M) : Option (Int32 × jm_M) :=
  (sM_marksDown M).bind (fun r1 =>
  (sM_minds r1).bind (fun r2 =>
  Option.bind (jm_loop (sM_first_L13) jm_N ((-9), 0, r2)) (fun e8 =>
  (sM_forgets e8.2).bind (fun r9 =>
  (some (e8.1, r9))))))
def sM_pricesOf_L4 (M : jm_M) (p1 : Int32) (s1 : Int32 × Int32) : Option ((Int32 × Int32) ⊕ (Int32)) :=
  (if (M 0 0 14) ≤ s1.2 then
  (some (.inr s1.1))
  else
  (sM_has p1 s1.2).bind (fun r3 =>
  (if r3 = 0 then
  (some (s1.1 + 0)).bind (fun x5 =>
  (some (.inl (x5, s1.2 + 1))))
  else
  (sM_price M s1.2).bind (fun r6 =>
  (some (s1.1 + r6)).bind (fun x7 =>
  (some (.inl (x7, s1.2 + 1))))))))
def sM_pricesOf (M : jm_M) (p1 : Int32) : Option (Int32) :=
  Option.bind (jm_loop (sM_pricesOf_L4 M p1) jm_N (0, 0)) (fun e8 =>
  (some e8))
def sM_ownedBy_L4 (M : jm_M) (p1 : Int32) (s1 : Int32 × Int32) : Option ((Int32 × Int32) ⊕ (Int32)) :=
  (if (M 0 0 14) ≤ s1.2 then
  (some (.inr s1.1))
  else
  (jm_rd 10 (M 0 7) s1.2).bind (fun v3 =>
  (if v3 = p1 then
  (some (s1.1 ||| ((1 : Int32) <<< ((s1.2 : Int32) &&& 31)))).bind (fun x5 =>
  (some (.inl (x5, s1.2 + 1))))
  else
  (some (s1.1 ||| 0)).bind (fun x6 =>
  (some (.inl (x6, s1.2 + 1)))))))
def sM_ownedBy (M : jm_M) (p1 : Int32) : Option (Int32) :=
  Option.bind (jm_loop (sM_ownedBy_L4 M p1) jm_N (0, 0)) (fun e7 =>
  (some e7))
def sM_isBetter (M : jm_M) (p1 : Int32) (p2 : Int32) : Option (Int32) :=
  (if 0 ≤ p2 then
  (sM_pricesOf M p1).bind (fun r2 =>
  (sM_pricesOf M p2).bind (fun r3 =>
  (if r2 = r3 then
  (sM_bits p1).bind (fun r5 =>
  (sM_bits p2).bind (fun r6 =>
  (if r6 ≤ r5 then
  (some 0)
  else
  (some 1))))
  else
  (sM_pricesOf M p1).bind (fun r8 =>
  (sM_pricesOf M p2).bind (fun r9 =>
  (if r9 ≤ r8 then
  (some 0)
  else
  (some 1)))))))
  else
  (some 1))
def sM_buy_L57 (M : jm_M) (r7 : Int32) (p1 : Int32) (p2 : Int32) (s8 : Int32 × Int32) : Option ((Int32 × Int32) ⊕ (Int32)) :=
  (if ((1 : Int32) <<< ((M 0 0 14 : Int32) &&& 31)) ≤ s8.2 then
  (some (.inr s8.1))
  else
  (if (s8.2 &&& (r7 ^^^ (-1))) = 0 then
  (sM_isBetter M s8.2 s8.1).bind (fun r11 =>
  (if r11 = 0 then
  (some (.inl (s8.1, s8.2 + 1)))
  else
  (sM_overWith M p1 p2 s8.2).bind (fun r13 =>
  (if r13 < 0 then
  (some (.inl (s8.1, s8.2 + 1)))
  else
  (some (.inl (s8.2, s8.2 + 1)))))))
  else
  (some (.inl (s8.1, s8.2 + 1)))))
def sM_buy (M : jm_M) (p1 : Int32) (p2 : Int32) (p3 : Int32) : Option (Int32 × jm_M) :=
  (sM_areTwo M p1 p2).bind (fun r1 =>
  Option.bind (α := Int32) ((if r1 = 0 then
  (some (-1))
  else
  (sM_isIn p3 0 1).bind (fun r4 =>
  (if r4 = 0 then
  (some (-2))
  else
  (some 0))))) (fun e2 =>
  (if e2 = 0 then
  (sM_ownedBy M 9).bind (fun r7 =>
  Option.bind (jm_loop (sM_buy_L57 M r7 p1 p2) jm_N ((-9), 0)) (fun e15 =>
  (if 0 ≤ e15 then
  (if p3 = 0 then
  (some (e15, M))
  else
  (sM_pricesOf M e15).bind (fun r18 =>
  (some (r18, M))))
  else
  (some ((-9), M)))))
  else
  (sM_no M e2).bind (fun r19 =>
  (some (r19.1, r19.2))))))
def sM_borrow_L53 (p1 : Int32) (p2 : Int32) (s7 : Int32 × Int32 × Int32 × jm_M) : Option ((Int32 × Int32 × Int32 × jm_M) ⊕ (Int32 × Int32 × jm_M)) :=
  (if (s7.2.2.2 0 0 14) ≤ s7.2.2.1 then
  (some (.inr (s7.1, s7.2.1, s7.2.2.2)))
  else
  (sM_isHeld s7.2.2.2 s7.2.2.1 p1 p2).bind (fun r9 =>
  (if r9 = 0 then
  (sM_minds s7.2.2.2).bind (fun r11 =>
  (jm_wa 10 r11 0 8 s7.2.2.1 p1).bind (fun M12 =>
  (sM_whenFrom M12 p1 p2).bind (fun r13 =>
  (sM_forgets r13.2).bind (fun r14 =>
  (if r13.1 < 0 then
  (some (.inl (s7.1, s7.2.1, s7.2.2.1 + 1, r14)))
  else
  (if s7.1 < 0 then
  (some (.inl (s7.2.2.1, r13.1, s7.2.2.1 + 1, r14)))
  else
  (if r13.1 < s7.2.1 then
  (some (.inl (s7.2.2.1, r13.1, s7.2.2.1 + 1, r14)))
  else
  (some (.inl (s7.1, s7.2.1, s7.2.2.1 + 1, r14))))))))))
  else
  (some (.inl (s7.1, s7.2.1, s7.2.2.1 + 1, s7.2.2.2))))))
def sM_borrow (M : jm_M) (p1 : Int32) (p2 : Int32) (p3 : Int32) : Option (Int32 × jm_M) :=
  (sM_areTwo M p1 p2).bind (fun r1 =>
  Option.bind (α := Int32) ((if r1 = 0 then
  (some (-1))
  else
  (sM_isIn p3 0 1).bind (fun r4 =>
  (if r4 = 0 then
  (some (-2))
  else
  (some 0))))) (fun e2 =>
  (if e2 = 0 then
  Option.bind (jm_loop (sM_borrow_L53 p1 p2) jm_N ((-9), (-9), 0, M)) (fun e18 =>
  (if p3 = 0 then
  (some (e18.1, e18.2.2))
  else
  (some (e18.2.1, e18.2.2))))
  else
  (sM_no M e2).bind (fun r20 =>
  (some (r20.1, r20.2))))))
def sM_taught_L72 (p1 : Int32) (p4 : Int32) (p2 : Int32) (p3 : Int32) (s12 : Int32 × Int32 × Int32 × jm_M) : Option ((Int32 × Int32 × Int32 × jm_M) ⊕ (Int32 × jm_M)) :=
  (if (s12.2.2.2 0 0 14) ≤ s12.2.2.1 then
  (some (.inr (s12.1, s12.2.2.2)))
  else
  (sM_minds s12.2.2.2).bind (fun r14 =>
  (jm_rd 10 (r14 0 9) s12.2.2.1).bind (fun v15 =>
  (jm_wa 10 r14 0 9 s12.2.2.1 (v15 ||| ((1 : Int32) <<< ((p1 : Int32) &&& 31)))).bind (fun M16 =>
  (sM_goes M16 p4).bind (fun r17 =>
  (sM_overNow r17 p2 p3).bind (fun r18 =>
  (sM_forgets r17).bind (fun r19 =>
  (if s12.2.1 < r18 then
  (some (.inl (s12.2.2.1, r18, s12.2.2.1 + 1, r19)))
  else
  (some (.inl (s12.1, s12.2.1, s12.2.2.1 + 1, r19)))))))))))
def sM_taught (M : jm_M) (p1 : Int32) (p2 : Int32) (p3 : Int32) (p4 : Int32) : Option (Int32 × jm_M) :=
  (sM_isPerson M p1).bind (fun r1 =>
  Option.bind (α := Int32) ((if r1 = 0 then
  (some (-1))
  else
  (sM_areTwo M p2 p3).bind (fun r4 =>
  (if r4 = 0 then
  (some (-1))
  else
  (sM_bound p4 0 60).bind (fun r6 =>
  (some r6)))))) (fun e2 =>
  (if e2 = 0 then
  (sM_minds M).bind (fun r8 =>
  (sM_goes r8 p4).bind (fun r9 =>
  (sM_overNow r9 p2 p3).bind (fun r10 =>
  (sM_forgets r9).bind (fun r11 =>
  Option.bind (jm_loop (sM_taught_L72 p1 p4 p2 p3) jm_N ((-9), r10, 0, r11)) (fun e21 =>
  (some (e21.1, e21.2)))))))
  else
  (sM_no M e2).bind (fun r22 =>
  (some (r22.1, r22.2))))))
def sM_leastIn_L2 (p1 : Int32) (s1 : Int32) : Option ((Int32) ⊕ (Int32)) :=
  (sM_has p1 s1).bind (fun r2 =>
  (if r2 = 0 then
  (some (.inl (s1 + 1)))
  else
  (some (.inr s1))))
def sM_leastIn (p1 : Int32) : Option (Int32) :=
  Option.bind (jm_loop (sM_leastIn_L2 p1) jm_N 0) (fun e4 =>
  (some e4))
def sM_findMost_L53 (x6 : Int32) (r5 : Int32) (s3 : Int32 × jm_M) (s10 : Int32 × jm_M) : Option ((Int32 × jm_M) ⊕ (jm_M)) :=
  (if (s10.2 0 0 13) ≤ s10.1 then
  (some (.inr s10.2))
  else
  (sM_has x6 s10.1).bind (fun r12 =>
  (if r12 = 0 then
  (some (.inl (s10.1 + 1, s10.2)))
  else
  (jm_rd 36 (s10.2 0 38) ((6 * r5) + s10.1)).bind (fun v14 =>
  (if v14 = 1 then
  (jm_rd 64 (s10.2 0 39) (x6 &&& (((1 : Int32) <<< ((s10.1 : Int32) &&& 31)) ^^^ (-1)))).bind (fun v16 =>
  (jm_rd 64 (s10.2 0 39) s3.1).bind (fun v17 =>
  (if (v16 + 1) ≤ v17 then
  (some (.inl (s10.1 + 1, s10.2)))
  else
  (jm_rd 64 (s10.2 0 39) (x6 &&& (((1 : Int32) <<< ((s10.1 : Int32) &&& 31)) ^^^ (-1)))).bind (fun v19 =>
  (jm_wa 64 s10.2 0 39 s3.1 (v19 + 1)).bind (fun M20 =>
  (some (.inl (s10.1 + 1, M20))))))))
  else
  (some (.inl (s10.1 + 1, s10.2))))))))
def sM_findMost_L13  (s3 : Int32 × jm_M) : Option ((Int32 × jm_M) ⊕ (jm_M)) :=
  (if ((1 : Int32) <<< ((s3.2 0 0 13 : Int32) &&& 31)) ≤ s3.1 then
  (some (.inr s3.2))
  else
  (sM_leastIn s3.1).bind (fun r5 =>
  (some (s3.1 &&& (((1 : Int32) <<< ((r5 : Int32) &&& 31)) ^^^ (-1)))).bind (fun x6 =>
  (jm_rd 64 (s3.2 0 39) x6).bind (fun v7 =>
  (jm_wa 64 s3.2 0 39 s3.1 v7).bind (fun M8 =>
  (some (r5 + 1)).bind (fun x9 =>
  Option.bind (jm_loop (sM_findMost_L53 x6 r5 s3) jm_N (x9, M8)) (fun e21 =>
  (some (.inl (s3.1 + 1, e21))))))))))
def sM_findMost (M : jm_M) : Option (jm_M) :=
  (sM_marksDown M).bind (fun r1 =>
  (jm_wa 64 r1 0 39 0 0).bind (fun M2 =>
  Option.bind (jm_loop (sM_findMost_L13) jm_N (1, M2)) (fun e22 =>
  (some e22))))
def sM_partnerFor_L5 (M : jm_M) (p2 : Int32) (p1 : Int32) (p3 : Int32) (s2 : Int32) : Option ((Int32) ⊕ (Unit ⊕ (Int32))) :=
  (if (M 0 0 13) ≤ s2 then
  (some (.inr (.inl ())))
  else
  (sM_has p2 s2).bind (fun r4 =>
  (if r4 = 0 then
  (some (.inl (s2 + 1)))
  else
  (jm_rd 36 (M 0 38) ((6 * p1) + s2)).bind (fun v6 =>
  (if v6 = 1 then
  (jm_rd 64 (M 0 39) (p2 &&& (((1 : Int32) <<< ((s2 : Int32) &&& 31)) ^^^ (-1)))).bind (fun v8 =>
  (if (v8 + 1) = p3 then
  (some (.inr (.inr s2)))
  else
  (some (.inl (s2 + 1)))))
  else
  (some (.inl (s2 + 1))))))))
def sM_partnerFor (M : jm_M) (p1 : Int32) (p2 : Int32) (p3 : Int32) : Option (Int32) :=
  (some (p1 + 1)).bind (fun x1 =>
  Option.bind (jm_loop (sM_partnerFor_L5 M p2 p1 p3) jm_N x1) (Sum.elim (fun e10 =>
  (some (-9))) some))
def sM_findPartners_L9  (s2 : Int32 × jm_M) : Option ((Int32 × jm_M) ⊕ (jm_M)) :=
  (if s2.1 = 0 then
  (some (.inr s2.2))
  else
  (sM_leastIn s2.1).bind (fun r4 =>
  (jm_rd 64 (s2.2 0 39) s2.1).bind (fun v5 =>
  (sM_partnerFor s2.2 r4 (s2.1 &&& (((1 : Int32) <<< ((r4 : Int32) &&& 31)) ^^^ (-1))) v5).bind (fun r6 =>
  (jm_wa 6 s2.2 0 40 r4 r6).bind (fun M7 =>
  (some (s2.1 &&& (((1 : Int32) <<< ((r4 : Int32) &&& 31)) ^^^ (-1)))).bind (fun x8 =>
  (if 0 ≤ r6 then
  (jm_wa 6 M7 0 40 r6 r4).bind (fun M10 =>
  (some (x8 &&& (((1 : Int32) <<< ((r6 : Int32) &&& 31)) ^^^ (-1)))).bind (fun x11 =>
  (some (.inl (x11, M10)))))
  else
  (some (.inl (x8, M7))))))))))
def sM_findPartners (M : jm_M) : Option (jm_M) :=
  (some (((1 : Int32) <<< ((M 0 0 13 : Int32) &&& 31)) - 1)).bind (fun x1 =>
  Option.bind (jm_loop (sM_findPartners_L9) jm_N (x1, M)) (fun e12 =>
  (some e12)))
def sM_couples (M : jm_M) (p1 : Int32) : Option (Int32 × jm_M) :=
  (sM_isIn p1 (-1) ((M 0 0 13) - 1)).bind (fun r1 =>
  (if r1 = 0 then
  (sM_no M (-1)).bind (fun r3 =>
  (some (r3.1, r3.2)))
  else
  (sM_findMost M).bind (fun r4 =>
  (if 0 ≤ p1 then
  (sM_findPartners r4).bind (fun r6 =>
  (jm_rd 6 (r6 0 40) p1).bind (fun v7 =>
  (some (v7, r6))))
  else
  (jm_rd 64 (r4 0 39) (((1 : Int32) <<< ((r4 0 0 13 : Int32) &&& 31)) - 1)).bind (fun v8 =>
  (some (v8, r4)))))))
def sM_isHeavier (M : jm_M) (p1 : Int32) (p2 : Int32) (p3 : Int32) (p4 : Int32) : Option (Int32) :=
  (sM_comesTo M p1 p3 p4).bind (fun r1 =>
  (sM_comesTo M p2 p3 p4).bind (fun r2 =>
  (if r1 = r2 then
  (sM_compares M p1 p2).bind (fun r4 =>
  (if 0 ≤ r4 then
  (some 0)
  else
  (some 1)))
  else
  (if r1 ≤ r2 then
  (some 0)
  else
  (some 1)))))
def sM_heavierThan_L6 (M : jm_M) (p1 : Int32) (p2 : Int32) (p3 : Int32) (s1 : Int32 × Int32) : Option ((Int32 × Int32) ⊕ (Int32)) :=
  (if (M 0 0 14) ≤ s1.2 then
  (some (.inr s1.1))
  else
  (if s1.2 = p1 then
  (some (s1.1 + 0)).bind (fun x4 =>
  (some (.inl (x4, s1.2 + 1))))
  else
  (sM_isHeld M s1.2 p2 p3).bind (fun r5 =>
  (if r5 = 0 then
  (some (s1.1 + 0)).bind (fun x7 =>
  (some (.inl (x7, s1.2 + 1))))
  else
  (sM_isHeavier M s1.2 p1 p2 p3).bind (fun r8 =>
  (if r8 = 0 then
  (some (s1.1 + 0)).bind (fun x10 =>
  (some (.inl (x10, s1.2 + 1))))
  else
  (some (s1.1 + 1)).bind (fun x11 =>
  (some (.inl (x11, s1.2 + 1))))))))))
def sM_heavierThan (M : jm_M) (p1 : Int32) (p2 : Int32) (p3 : Int32) : Option (Int32) :=
  Option.bind (jm_loop (sM_heavierThan_L6 M p1 p2 p3) jm_N (0, 0)) (fun e12 =>
  (some e12))
def sM_heaviest_L40 (M : jm_M) (p1 : Int32) (p2 : Int32) (p3 : Int32) (s6 : Int32) : Option ((Int32) ⊕ (Unit ⊕ (Int32 × jm_M))) :=
  (if (M 0 0 14) ≤ s6 then
  (some (.inr (.inl ())))
  else
  (sM_isHeld M s6 p1 p2).bind (fun r8 =>
  (if r8 = 0 then
  (some (.inl (s6 + 1)))
  else
  (sM_heavierThan M s6 p1 p2).bind (fun r10 =>
  (if r10 = p3 then
  (some (.inr (.inr (s6, M))))
  else
  (some (.inl (s6 + 1))))))))
def sM_heaviest (M : jm_M) (p1 : Int32) (p2 : Int32) (p3 : Int32) : Option (Int32 × jm_M) :=
  (sM_areTwo M p1 p2).bind (fun r1 =>
  Option.bind (α := Int32) ((if r1 = 0 then
  (some (-1))
  else
  (if 0 ≤ p3 then
  (some 0)
  else
  (some (-4))))) (fun e2 =>
  (if e2 = 0 then
  Option.bind (jm_loop (sM_heaviest_L40 M p1 p2 p3) jm_N 0) (Sum.elim (fun e12 =>
  (some ((-9), M))) some)
  else
  (sM_no M e2).bind (fun r13 =>
  (some (r13.1, r13.2))))))
def sM_wasSo_L2 (p1 : Int32) (p2 : Int32) (s1 : Int32 × jm_M) : Option ((Int32 × jm_M) ⊕ (jm_M ⊕ (Int32 × jm_M))) :=
  (if (s1.2 0 0 41) ≤ s1.1 then
  (some (.inr (.inl s1.2)))
  else
  (sM_overNow s1.2 p1 p2).bind (fun r3 =>
  (jm_rd 12 (s1.2 0 41) s1.1).bind (fun v4 =>
  (if r3 = v4 then
  (sM_goesWeek s1.2).bind (fun r6 =>
  (some (.inl (s1.1 + 1, r6))))
  else
  (some (.inr (.inr (0, s1.2))))))))
def sM_wasSo (M : jm_M) (p1 : Int32) (p2 : Int32) : Option (Int32 × jm_M) :=
  Option.bind (jm_loop (sM_wasSo_L2 p1 p2) jm_N (0, M)) (Sum.elim (fun e7 =>
  (some (1, e7))) some)
def sM_whatKind_L57 (p4 : Int32) (p3 : Int32) (p1 : Int32) (p2 : Int32) (s9 : Int32 × Int32 × jm_M) : Option ((Int32 × Int32 × jm_M) ⊕ (Int32 × jm_M)) :=
  Option.bind (α := Int32) ((if p4 = 0 then
  (some 8)
  else
  (some 10))) (fun e10 =>
  (if e10 ≤ s9.2.1 then
  (some (.inr (s9.1, s9.2.2)))
  else
  (sM_minds s9.2.2).bind (fun r13 =>
  Option.bind (α := jm_M) ((if p4 = 0 then
  (jm_wa 10 r13 0 5 p3 s9.2.1).bind (fun M16 =>
  (some M16))
  else
  (jm_wa 10 r13 0 6 p3 s9.2.1).bind (fun M17 =>
  (some M17)))) (fun e14 =>
  (sM_wasSo e14 p1 p2).bind (fun r18 =>
  Option.bind (α := Int32) ((if r18.1 = 0 then
  (some 0)
  else
  (some ((1 : Int32) <<< ((s9.2.1 : Int32) &&& 31))))) (fun e19 =>
  (some (s9.1 ||| e19)).bind (fun x21 =>
  (sM_forgets r18.2).bind (fun r22 =>
  (some (.inl (x21, s9.2.1 + 1, r22)))))))))))
def sM_whatKind (M : jm_M) (p1 : Int32) (p2 : Int32) (p3 : Int32) (p4 : Int32) : Option (Int32 × jm_M) :=
  (sM_areTwo M p1 p2).bind (fun r1 =>
  Option.bind (α := Int32) ((if r1 = 0 then
  (some (-1))
  else
  (sM_isBook M p3).bind (fun r4 =>
  (if r4 = 0 then
  (some (-1))
  else
  (sM_isIn p4 0 1).bind (fun r6 =>
  (if r6 = 0 then
  (some (-2))
  else
  (some 0))))))) (fun e2 =>
  (if e2 = 0 then
  Option.bind (jm_loop (sM_whatKind_L57 p4 p3 p1 p2) jm_N (0, 0, M)) (fun e23 =>
  (some (e23.1, e23.2)))
  else
  (sM_no M e2).bind (fun r24 =>
  (some (r24.1, r24.2))))))
def sM_gives_L2 (p1 : Int32) (s1 : Int32 × jm_M) : Option ((Int32 × jm_M) ⊕ (jm_M)) :=
  (if (s1.2 0 0 14) ≤ s1.1 then
  (some (.inr s1.2))
  else
  (jm_rd 10 (s1.2 0 8) s1.1).bind (fun v3 =>
  Option.bind (α := Int32) ((if v3 = p1 then
  (jm_rd 10 (s1.2 0 7) s1.1).bind (fun v6 =>
  (some v6))
  else
  (jm_rd 10 (s1.2 0 8) s1.1).bind (fun v7 =>
  (some v7)))) (fun e4 =>
  (jm_wa 10 s1.2 0 8 s1.1 e4).bind (fun M8 =>
  (some (.inl (s1.1 + 1, M8)))))))
def sM_gives (M : jm_M) (p1 : Int32) : Option (jm_M) :=
  Option.bind (jm_loop (sM_gives_L2 p1) jm_N (0, M)) (fun e9 =>
  (some e9))
def sM_findEnds_L3 (p1 : Int32) (p2 : Int32) (p3 : Int32) (s1 : Int32 × jm_M) : Option ((Int32 × jm_M) ⊕ (jm_M)) :=
  (if 4 ≤ s1.1 then
  (some (.inr s1.2))
  else
  (sM_minds s1.2).bind (fun r3 =>
  (jm_dv s1.1 2).bind (fun v4 =>
  Option.bind (α := jm_M) ((if v4 = 1 then
  (sM_gives r3 p1).bind (fun r7 =>
  (some r7))
  else
  (some r3))) (fun e5 =>
  (jm_rm s1.1 2).bind (fun v8 =>
  Option.bind (α := jm_M) ((if v8 = 1 then
  (sM_gives e5 p2).bind (fun r11 =>
  (some r11))
  else
  (some e5))) (fun e9 =>
  (sM_goes e9 p3).bind (fun r12 =>
  (sM_manyRead r12 p1).bind (fun r13 =>
  (jm_dv s1.1 2).bind (fun v14 =>
  (jm_wa 8 r12 0 43 (2 * s1.1) (r13 + (2 * v14))).bind (fun M15 =>
  (sM_manyRead M15 p2).bind (fun r16 =>
  (jm_rm s1.1 2).bind (fun v17 =>
  (jm_wa 8 M15 0 43 ((2 * s1.1) + 1) (r16 + (2 * v17))).bind (fun M18 =>
  (sM_forgets M18).bind (fun r19 =>
  (some (.inl (s1.1 + 1, r19)))))))))))))))))
def sM_findEnds (M : jm_M) (p1 : Int32) (p2 : Int32) (p3 : Int32) : Option (jm_M) :=
  Option.bind (jm_loop (sM_findEnds_L3 p1 p2 p3) jm_N (0, M)) (fun e20 =>
  (some e20))
def sM_two_L44 (r6 : jm_M) (s7 : Int32) : Option ((Int32) ⊕ (Unit ⊕ (Int32 × jm_M))) :=
  (if 4 ≤ s7 then
  (some (.inr (.inl ())))
  else
  (jm_rd 8 (r6 0 43) (2 * (s7 ^^^ 2))).bind (fun v9 =>
  (jm_rd 8 (r6 0 43) (2 * s7)).bind (fun v10 =>
  (if v10 < v9 then
  (some (.inl (s7 + 1)))
  else
  (jm_rd 8 (r6 0 43) ((2 * (s7 ^^^ 1)) + 1)).bind (fun v12 =>
  (jm_rd 8 (r6 0 43) ((2 * s7) + 1)).bind (fun v13 =>
  (if v13 < v12 then
  (some (.inl (s7 + 1)))
  else
  (jm_dv s7 2).bind (fun v15 =>
  (jm_rm s7 2).bind (fun v16 =>
  (some (.inr (.inr ((10 * v15) + v16, r6)))))))))))))
def sM_two (M : jm_M) (p1 : Int32) (p2 : Int32) (p3 : Int32) : Option (Int32 × jm_M) :=
  (sM_areTwo M p1 p2).bind (fun r1 =>
  Option.bind (α := Int32) ((if r1 = 0 then
  (some (-1))
  else
  (sM_bound p3 1 30).bind (fun r4 =>
  (some r4)))) (fun e2 =>
  (if e2 = 0 then
  (sM_findEnds M p1 p2 p3).bind (fun r6 =>
  Option.bind (jm_loop (sM_two_L44 r6) jm_N 0) (Sum.elim (fun e17 =>
  (some ((-9), r6))) some))
  else
  (sM_no M e2).bind (fun r18 =>
  (some (r18.1, r18.2))))))
def sM_divisor_L6  (s1 : Int64 × Int64) : Option ((Int64 × Int64) ⊕ (Int64)) :=
  (if (lg_cmp s1.2 0) = 0 then
  (some (.inr s1.1))
  else
  (jm_lrm s1.1 s1.2).bind (fun v3 =>
  (some (.inl (s1.2, v3)))))
def sM_divisor (p1 : Int64) (p2 : Int64) : Option (Int64) :=
  Option.bind (jm_loop (sM_divisor_L6) jm_N (p1, p2)) (fun e4 =>
  (some e4))
def sM_partOf (p1 : Int64) (p2 : Int64) (p3 : Int32) : Option (Int64) :=
  Option.bind (α := Int64) ((if p3 = 0 then
  (some p1)
  else
  (some p2))) (fun e1 =>
  (sM_divisor p1 p2).bind (fun r3 =>
  (jm_ldv e1 r3).bind (fun v4 =>
  (some v4))))
def sM_damp_L85 (p3 : Int32) (p4 : Int32) (s11 : Int64 × Int32) : Option ((Int64 × Int32) ⊕ (Int64)) :=
  (if p3 ≤ s11.2 then
  (some (.inr s11.1))
  else
  (some (s11.1 * ((p4 : Int32).toInt64))).bind (fun x13 =>
  (some (.inl (x13, s11.2 + 1)))))
def sM_damp_L126 (p3 : Int32) (s15 : Int64 × Int32 × jm_M) (p4 : Int32) (s18 : Int64 × Int32 × jm_M) : Option ((Int64 × Int32 × jm_M) ⊕ (Int64 × jm_M)) :=
  (if p3 ≤ s18.2.1 then
  (some (.inr (s18.1, s18.2.2)))
  else
  (sM_has s15.2.1 s18.2.1).bind (fun r20 =>
  (jm_wz s18.2.2 0 17 r20).bind (fun M21 =>
  Option.bind (α := Int64) ((if (M21 0 0 17) = 0 then
  (some ((p4 - 1 : Int32).toInt64))
  else
  (some 1))) (fun e22 =>
  (some (s18.1 * e22)).bind (fun x24 =>
  (sM_goesWeek M21).bind (fun r25 =>
  (some (.inl (x24, s18.2.1 + 1, r25)))))))))
def sM_damp_L108 (p3 : Int32) (p4 : Int32) (p1 : Int32) (p2 : Int32) (s15 : Int64 × Int32 × jm_M) : Option ((Int64 × Int32 × jm_M) ⊕ (Int64 × jm_M)) :=
  (if ((1 : Int32) <<< ((p3 : Int32) &&& 31)) ≤ s15.2.1 then
  (some (.inr (s15.1, s15.2.2)))
  else
  (sM_minds s15.2.2).bind (fun r17 =>
  Option.bind (jm_loop (sM_damp_L126 p3 s15 p4) jm_N (1, 0, r17)) (fun e26 =>
  (sM_comesDown e26.2 p1 p2).bind (fun r27 =>
  Option.bind (α := Int64) ((if r27 = 0 then
  (some 0)
  else
  (some e26.1))) (fun e28 =>
  (some (s15.1 + e28)).bind (fun x30 =>
  (sM_forgets e26.2).bind (fun r31 =>
  (some (.inl (x30, s15.2.1 + 1, r31))))))))))
def sM_damp (M : jm_M) (p1 : Int32) (p2 : Int32) (p3 : Int32) (p4 : Int32) (p5 : Int32) : Option (Int64 × jm_M) :=
  (sM_areTwo M p1 p2).bind (fun r1 =>
  Option.bind (α := Int32) ((if r1 = 0 then
  (some (-1))
  else
  (if p3 < 0 then
  (some (-4))
  else
  (if 2 ≤ p4 then
  (if 7 < p3 then
  (some (-6))
  else
  (if p4 ≤ 20 then
  (sM_isIn p5 0 1).bind (fun r8 =>
  (if r8 = 0 then
  (some (-2))
  else
  (some 0)))
  else
  (some (-6))))
  else
  (some (-4)))))) (fun e2 =>
  (if e2 = 0 then
  Option.bind (jm_loop (sM_damp_L85 p3 p4) jm_N (1, 0)) (fun e14 =>
  Option.bind (jm_loop (sM_damp_L108 p3 p4 p1 p2) jm_N (0, 0, M)) (fun e32 =>
  (sM_partOf e32.1 e14 p5).bind (fun r33 =>
  (some (r33, e32.2)))))
  else
  (sM_lowestOf M e2).bind (fun r34 =>
  (some (r34.1, r34.2))))))
def sM_titles (M : jm_M) (p1 : Int32) (p2 : Int32) : Option (Int32 × jm_M) :=
  (sM_isBook M p1).bind (fun r1 =>
  Option.bind (α := Int32) ((if r1 = 0 then
  (some (-1))
  else
  (sM_isIn p2 0 1).bind (fun r4 =>
  (if r4 = 0 then
  (some (-2))
  else
  (some 0))))) (fun e2 =>
  (if e2 = 0 then
  (if p2 = 0 then
  (sM_rankOf M p1).bind (fun r8 =>
  (some (r8, M)))
  else
  (sM_rankOf M p1).bind (fun r9 =>
  (sM_ofRank M (r9 + 1)).bind (fun r10 =>
  (some (r10, M)))))
  else
  (sM_no M e2).bind (fun r11 =>
  (some (r11.1, r11.2))))))
def sM_from_L23 (M : jm_M) (p1 : Int32) (s3 : Int32 × Int32) : Option ((Int32 × Int32) ⊕ (Int32)) :=
  (if (M 0 0 14) ≤ s3.2 then
  (some (.inr s3.1))
  else
  (jm_rd 40 (M 0 11) (4 * s3.2)).bind (fun v5 =>
  (if p1 ≤ v5 then
  (some (s3.1 + 0)).bind (fun x7 =>
  (some (.inl (x7, s3.2 + 1))))
  else
  (some (s3.1 + 1)).bind (fun x8 =>
  (some (.inl (x8, s3.2 + 1)))))))
def sM_from (M : jm_M) (p1 : Int32) : Option (Int32 × jm_M) :=
  (sM_bound p1 0 25).bind (fun r1 =>
  (if r1 = 0 then
  Option.bind (jm_loop (sM_from_L23 M p1) jm_N (0, 0)) (fun e9 =>
  (sM_ofRank M e9).bind (fun r10 =>
  (some (r10, M))))
  else
  (sM_no M r1).bind (fun r11 =>
  (some (r11.1, r11.2)))))
def sM_kindsOn_L4 (M : jm_M) (p1 : Int32) (s1 : Int32 × Int32) : Option ((Int32 × Int32) ⊕ (Int32)) :=
  (if (M 0 0 14) ≤ s1.2 then
  (some (.inr s1.1))
  else
  (jm_rd 10 (M 0 8) s1.2).bind (fun v3 =>
  (if v3 = p1 then
  (jm_rd 10 (M 0 5) s1.2).bind (fun v5 =>
  (some (s1.1 ||| ((1 : Int32) <<< ((v5 : Int32) &&& 31)))).bind (fun x6 =>
  (some (.inl (x6, s1.2 + 1)))))
  else
  (some (s1.1 ||| 0)).bind (fun x7 =>
  (some (.inl (x7, s1.2 + 1)))))))
def sM_kindsOn (M : jm_M) (p1 : Int32) : Option (Int32) :=
  Option.bind (jm_loop (sM_kindsOn_L4 M p1) jm_N (0, 0)) (fun e8 =>
  (some e8))
def sM_manyOn_L5 (M : jm_M) (p1 : Int32) (p2 : Int32) (s1 : Int32 × Int32) : Option ((Int32 × Int32) ⊕ (Int32)) :=
  (if (M 0 0 14) ≤ s1.2 then
  (some (.inr s1.1))
  else
  (jm_rd 10 (M 0 8) s1.2).bind (fun v3 =>
  (if v3 = p1 then
  (jm_rd 10 (M 0 5) s1.2).bind (fun v5 =>
  (if v5 = p2 then
  (some (s1.1 + 1)).bind (fun x7 =>
  (some (.inl (x7, s1.2 + 1))))
  else
  (some (s1.1 + 0)).bind (fun x8 =>
  (some (.inl (x8, s1.2 + 1))))))
  else
  (some (s1.1 + 0)).bind (fun x9 =>
  (some (.inl (x9, s1.2 + 1)))))))
def sM_manyOn (M : jm_M) (p1 : Int32) (p2 : Int32) : Option (Int32) :=
  Option.bind (jm_loop (sM_manyOn_L5 M p1 p2) jm_N (0, 0)) (fun e10 =>
  (some e10))
def sM_mostOn_L5 (M : jm_M) (p1 : Int32) (s1 : Int32 × Int32) : Option ((Int32 × Int32) ⊕ (Int32)) :=
  (if 8 ≤ s1.2 then
  (some (.inr s1.1))
  else
  (sM_manyOn M p1 s1.2).bind (fun r3 =>
  Option.bind (α := Int32) ((if 0 ≤ s1.1 then
  (sM_manyOn M p1 s1.1).bind (fun r6 =>
  (some r6))
  else
  (some 0))) (fun e4 =>
  (if r3 ≤ e4 then
  (some (.inl (s1.1, s1.2 + 1)))
  else
  (some (.inl (s1.2, s1.2 + 1)))))))
def sM_mostOn (M : jm_M) (p1 : Int32) : Option (Int32) :=
  Option.bind (jm_loop (sM_mostOn_L5 M p1) jm_N ((-9), 0)) (fun e8 =>
  (some e8))
def sM_pricesOn_L4 (M : jm_M) (p1 : Int32) (s1 : Int32 × Int32) : Option ((Int32 × Int32) ⊕ (Int32)) :=
  (if (M 0 0 14) ≤ s1.2 then
  (some (.inr s1.1))
  else
  (jm_rd 10 (M 0 8) s1.2).bind (fun v3 =>
  (if v3 = p1 then
  (sM_price M s1.2).bind (fun r5 =>
  (some (s1.1 + r5)).bind (fun x6 =>
  (some (.inl (x6, s1.2 + 1)))))
  else
  (some (s1.1 + 0)).bind (fun x7 =>
  (some (.inl (x7, s1.2 + 1)))))))
def sM_pricesOn (M : jm_M) (p1 : Int32) : Option (Int32) :=
  Option.bind (jm_loop (sM_pricesOn_L4 M p1) jm_N (0, 0)) (fun e8 =>
  (some e8))
def sM_shelf (M : jm_M) (p1 : Int32) (p2 : Int32) : Option (Int32 × jm_M) :=
  (sM_isPlace M p1).bind (fun r1 =>
  (if r1 = 0 then
  (sM_no M (-1)).bind (fun r3 =>
  (some (r3.1, r3.2)))
  else
  (if p2 = 0 then
  (sM_manyIn M (0, 8) (M 0 0 14) p1).bind (fun r5 =>
  (some (r5, M)))
  else
  (if p2 = 1 then
  (sM_kindsOn M p1).bind (fun r7 =>
  (some (r7, M)))
  else
  (if p2 = 2 then
  (sM_pricesOn M p1).bind (fun r9 =>
  (some (r9, M)))
  else
  (if p2 = 3 then
  (sM_mostOn M p1).bind (fun r11 =>
  (some (r11, M)))
  else
  (sM_no M (-2)).bind (fun r12 =>
  (some (r12.1, r12.2)))))))))
def sM_sizeOf (p1 : Int32) : Option (Int32) :=
  (if 0 ≤ p1 then
  (some p1)
  else
  (some (-p1)))
def sM_closest_L20 (M : jm_M) (s1 : Int32 × Int32 × Int32) (s4 : Int32 × Int32 × Int32) : Option ((Int32 × Int32 × Int32) ⊕ (Int32 × Int32)) :=
  (if (M 0 0 13) ≤ s4.2.2 then
  (some (.inr (s4.1, s4.2.1)))
  else
  (sM_overNow M s1.2.2 s4.2.2).bind (fun r6 =>
  (sM_sizeOf r6).bind (fun r7 =>
  (if s4.1 < 0 then
  (some ((10 * s1.2.2) + s4.2.2)).bind (fun x9 =>
  (some (.inl (x9, r7, s4.2.2 + 1))))
  else
  (if r7 < s4.2.1 then
  (some ((10 * s1.2.2) + s4.2.2)).bind (fun x11 =>
  (some (.inl (x11, r7, s4.2.2 + 1))))
  else
  (some (.inl (s4.1, s4.2.1, s4.2.2 + 1))))))))
def sM_closest_L7 (M : jm_M) (s1 : Int32 × Int32 × Int32) : Option ((Int32 × Int32 × Int32) ⊕ (Int32)) :=
  (if (M 0 0 13) ≤ s1.2.2 then
  (some (.inr s1.1))
  else
  (some (s1.2.2 + 1)).bind (fun x3 =>
  Option.bind (jm_loop (sM_closest_L20 M s1) jm_N (s1.1, s1.2.1, x3)) (fun e12 =>
  (some (.inl (e12.1, e12.2, s1.2.2 + 1))))))
def sM_closest (M : jm_M) : Option (Int32) :=
  Option.bind (jm_loop (sM_closest_L7 M) jm_N ((-9), 0, 0)) (fun e13 =>
  (some e13))
def sM_poor_L5 (M : jm_M) (s1 : Int32 × Int32) : Option ((Int32 × Int32) ⊕ (Int32)) :=
  (if (M 0 0 14) ≤ s1.2 then
  (some (.inr s1.1))
  else
  (jm_rd 10 (M 0 7) s1.2).bind (fun v3 =>
  (if v3 = 9 then
  (if s1.1 < 0 then
  (sM_price M s1.2).bind (fun r6 =>
  (some (.inl (r6, s1.2 + 1))))
  else
  (sM_price M s1.2).bind (fun r7 =>
  (if s1.1 ≤ r7 then
  (some (.inl (s1.1, s1.2 + 1)))
  else
  (sM_price M s1.2).bind (fun r9 =>
  (some (.inl (r9, s1.2 + 1)))))))
  else
  (some (.inl (s1.1, s1.2 + 1))))))
def sM_poor_L57 (M : jm_M) (e10 : Int32) (s11 : Int32 × Int32) : Option ((Int32 × Int32) ⊕ (Int32)) :=
  (if (M 0 0 13) ≤ s11.2 then
  (some (.inr s11.1))
  else
  (jm_rd 6 (M 0 4) s11.2).bind (fun v13 =>
  (if e10 ≤ v13 then
  (some (s11.1 + 0)).bind (fun x15 =>
  (some (.inl (x15, s11.2 + 1))))
  else
  (some (s11.1 + 1)).bind (fun x16 =>
  (some (.inl (x16, s11.2 + 1)))))))
def sM_poor (M : jm_M) : Option (Int32) :=
  Option.bind (jm_loop (sM_poor_L5 M) jm_N ((-9), 0)) (fun e10 =>
  Option.bind (jm_loop (sM_poor_L57 M e10) jm_N (0, 0)) (fun e17 =>
  (some e17)))
def sM_unread_L4 (M : jm_M) (s1 : Int32 × Int32) : Option ((Int32 × Int32) ⊕ (Int32)) :=
  (if (M 0 0 14) ≤ s1.2 then
  (some (.inr s1.1))
  else
  (jm_rd 10 (M 0 9) s1.2).bind (fun v3 =>
  (if v3 = 0 then
  (some (s1.1 ||| ((1 : Int32) <<< ((s1.2 : Int32) &&& 31)))).bind (fun x5 =>
  (some (.inl (x5, s1.2 + 1))))
  else
  (some (s1.1 ||| 0)).bind (fun x6 =>
  (some (.inl (x6, s1.2 + 1)))))))
def sM_unread (M : jm_M) : Option (Int32) :=
  Option.bind (jm_loop (sM_unread_L4 M) jm_N (0, 0)) (fun e7 =>
  (some e7))
def sM_lent_L4 (M : jm_M) (s1 : Int32 × Int32) : Option ((Int32 × Int32) ⊕ (Int32)) :=
  (if (M 0 0 14) ≤ s1.2 then
  (some (.inr s1.1))
  else
  (jm_rd 10 (M 0 8) s1.2).bind (fun v3 =>
  (jm_rd 10 (M 0 7) s1.2).bind (fun v4 =>
  (if v3 = v4 then
  (some (s1.1 ||| 0)).bind (fun x6 =>
  (some (.inl (x6, s1.2 + 1))))
  else
  (some (s1.1 ||| ((1 : Int32) <<< ((s1.2 : Int32) &&& 31)))).bind (fun x7 =>
  (some (.inl (x7, s1.2 + 1))))))))
def sM_lent (M : jm_M) : Option (Int32) :=
  Option.bind (jm_loop (sM_lent_L4 M) jm_N (0, 0)) (fun e8 =>
  (some e8))
def sM_sight (M : jm_M) (p1 : Int32) : Option (Int32 × jm_M) :=
  (if p1 = 0 then
  (sM_closest M).bind (fun r2 =>
  (some (r2, M)))
  else
  (if p1 = 1 then
  (sM_poor M).bind (fun r4 =>
  (some (r4, M)))
  else
  (if p1 = 2 then
  (sM_unread M).bind (fun r6 =>
  (some (r6, M)))
  else
  (if p1 = 3 then
  (sM_lent M).bind (fun r8 =>
  (some (r8, M)))
  else
  (sM_no M (-2)).bind (fun r9 =>
  (some (r9.1, r9.2)))))))
def sM_share (M : jm_M) (p1 : Int32) (p2 : Int32) : Option (Int64 × jm_M) :=
  (sM_isPerson M p1).bind (fun r1 =>
  Option.bind (α := Int32) ((if r1 = 0 then
  (some (-1))
  else
  (sM_isIn p2 0 1).bind (fun r4 =>
  (if r4 = 0 then
  (some (-2))
  else
  (some 0))))) (fun e2 =>
  (if e2 = 0 then
  (if (M 0 0 14) = 0 then
  (some ((p2 : Int32).toInt64, M))
  else
  (sM_manyRead M p1).bind (fun r8 =>
  (sM_partOf ((r8 : Int32).toInt64) ((M 0 0 14 : Int32).toInt64) p2).bind (fun r9 =>
  (some (r9, M)))))
  else
  (sM_lowestOf M e2).bind (fun r10 =>
  (some (r10.1, r10.2))))))
def sM_byHeart_L20 (M : jm_M) (p1 : Int32) (p2 : Int32) (s4 : Int32 × Int32) : Option ((Int32 × Int32) ⊕ (Int32)) :=
  (if (M 0 0 14) ≤ s4.2 then
  (some (.inr s4.1))
  else
  (jm_rd 10 (M 0 9) s4.2).bind (fun v6 =>
  (sM_has v6 p1).bind (fun r7 =>
  (if r7 = 0 then
  (some (s4.1 ||| 0)).bind (fun x9 =>
  (some (.inl (x9, s4.2 + 1))))
  else
  (jm_rd 10 (M 0 9) s4.2).bind (fun v10 =>
  (sM_has v10 p2).bind (fun r11 =>
  (if r11 = 0 then
  (some (s4.1 ||| 0)).bind (fun x13 =>
  (some (.inl (x13, s4.2 + 1))))
  else
  (some (s4.1 ||| ((1 : Int32) <<< ((s4.2 : Int32) &&& 31)))).bind (fun x14 =>
  (some (.inl (x14, s4.2 + 1)))))))))))
def sM_byHeart (M : jm_M) (p1 : Int32) (p2 : Int32) : Option (Int32 × jm_M) :=
  (sM_areTwo M p1 p2).bind (fun r1 =>
  (if r1 = 0 then
  (sM_no M (-1)).bind (fun r3 =>
  (some (r3.1, r3.2)))
  else
  Option.bind (jm_loop (sM_byHeart_L20 M p1 p2) jm_N (0, 0)) (fun e15 =>
  (some (e15, M)))))
def sM_kinds (M : jm_M) (p1 : Int32) : Option (Int32 × jm_M) :=
  (sM_isIn p1 0 7).bind (fun r1 =>
  (if r1 = 0 then
  (sM_no M (-2)).bind (fun r3 =>
  (some (r3.1, r3.2)))
  else
  (sM_manyIn M (0, 5) (M 0 0 14) p1).bind (fun r4 =>
  (some (r4, M)))))
def sM_row (M : jm_M) (p1 : Int32) : Option (Int32 × jm_M) :=
  (sM_bound p1 (-99) 99).bind (fun r1 =>
  Option.bind (α := Int32) ((if r1 = 0 then
  (if (M 0 0 41) = 12 then
  (some (-6))
  else
  (some r1))
  else
  (some r1))) (fun e2 =>
  (if e2 = 0 then
  (jm_wa 12 M 0 41 (M 0 0 41) p1).bind (fun M6 =>
  (jm_wf M6 0 41 ((M6 0 0 41) + 1)).bind (fun M7 =>
  (some (M7 0 0 41, M7))))
  else
  (sM_no M e2).bind (fun r8 =>
  (some (r8.1, r8.2))))))
def sM_judge_L12 (x1 : Int32) (M2 : jm_M) (s3 : Int32) : Option ((Int32) ⊕ (Unit ⊕ (Int32 × jm_M))) :=
  (if x1 ≤ s3 then
  (some (.inr (.inl ())))
  else
  (sM_isPerson M2 s3).bind (fun r5 =>
  (if r5 = 0 then
  (some (.inr (.inr (s3, M2))))
  else
  (jm_rd 6 (M2 0 2) s3).bind (fun v7 =>
  (jm_rd 12 (M2 0 41) s3).bind (fun v8 =>
  (if v7 = v8 then
  (some (.inl (s3 + 1)))
  else
  (some (.inr (.inr (s3, M2))))))))))
def sM_judge (M : jm_M) : Option (Int32 × jm_M) :=
  (some (M 0 0 41)).bind (fun x1 =>
  (jm_wf M 0 41 0).bind (fun M2 =>
  Option.bind (jm_loop (sM_judge_L12 x1 M2) jm_N 0) (Sum.elim (fun e10 =>
  (some ((-9), M2))) some)))
def sM_clear (M : jm_M) : Option (Int32 × jm_M) :=
  (some (M 0 0 41)).bind (fun x1 =>
  (jm_wf M 0 41 0).bind (fun M2 =>
  (some (x1, M2))))
def sM_draw (M : jm_M) (p1 : Int32) : Option (Int32 × jm_M) :=
  (jm_wf M 0 43 (((M 0 0 43) * 1103515245) + 12345)).bind (fun M1 =>
  (jm_dv ((M1 0 0 43) &&& 2147483647) 65536).bind (fun v2 =>
  (jm_rm v2 p1).bind (fun v3 =>
  (some (v3, M1)))))
def sM_allRead_L4 (M : jm_M) (s1 : Int32 × Int32) : Option ((Int32 × Int32) ⊕ (Int32)) :=
  (if (M 0 0 14) ≤ s1.2 then
  (some (.inr s1.1))
  else
  (jm_rd 10 (M 0 9) s1.2).bind (fun v3 =>
  (sM_bits v3).bind (fun r4 =>
  (some (s1.1 + r4)).bind (fun x5 =>
  (some (.inl (x5, s1.2 + 1)))))))
def sM_allRead (M : jm_M) : Option (Int32) :=
  Option.bind (jm_loop (sM_allRead_L4 M) jm_N (0, 0)) (fun e6 =>
  (some e6))
def sM_manyDown_L16 (M : jm_M) (s1 : Int32 × Int32) (s4 : Int32 × Int32) : Option ((Int32 × Int32) ⊕ (Int32)) :=
  (if (M 0 0 13) ≤ s4.2 then
  (some (.inr s4.1))
  else
  (sM_comesDown M s1.2 s4.2).bind (fun r6 =>
  (if r6 = 0 then
  (some (s4.1 + 0)).bind (fun x8 =>
  (some (.inl (x8, s4.2 + 1))))
  else
  (some (s4.1 + 1)).bind (fun x9 =>
  (some (.inl (x9, s4.2 + 1)))))))
def sM_manyDown_L4 (M : jm_M) (s1 : Int32 × Int32) : Option ((Int32 × Int32) ⊕ (Int32)) :=
  (if (M 0 0 13) ≤ s1.2 then
  (some (.inr s1.1))
  else
  (some (s1.2 + 1)).bind (fun x3 =>
  Option.bind (jm_loop (sM_manyDown_L16 M s1) jm_N (s1.1, x3)) (fun e10 =>
  (some (.inl (e10, s1.2 + 1))))))
def sM_manyDown (M : jm_M) : Option (Int32) :=
  Option.bind (jm_loop (sM_manyDown_L4 M) jm_N (0, 0)) (fun e11 =>
  (some e11))
def sM_lots_L77  (s14 : Int32 × jm_M) : Option ((Int32 × jm_M) ⊕ (jm_M)) :=
  (if (s14.2 0 0 14) ≤ s14.1 then
  (some (.inr s14.2))
  else
  Option.bind (α := Int32 × jm_M) ((if (s14.2 0 0 13) = 0 then
  (some (9, s14.2))
  else
  (sM_draw s14.2 (s14.2 0 0 13)).bind (fun r18 =>
  (some (r18.1, r18.2))))) (fun e16 =>
  (jm_wa 10 e16.2 0 8 s14.1 e16.1).bind (fun M19 =>
  (some (.inl (s14.1 + 1, M19))))))
def sM_lots_L50 (p1 : Int32) (p3 : Int32) (s8 : Int32 × Int32 × jm_M) : Option ((Int32 × Int32 × jm_M) ⊕ (Int32 × jm_M)) :=
  (if p1 ≤ s8.2.1 then
  (some (.inr (s8.1, s8.2.2)))
  else
  Option.bind (α := Int32) ((if p3 = 0 then
  (sM_allRead s8.2.2).bind (fun r12 =>
  (some r12))
  else
  (some 0))) (fun e10 =>
  (sM_minds s8.2.2).bind (fun r13 =>
  Option.bind (jm_loop (sM_lots_L77) jm_N (0, r13)) (fun e20 =>
  (sM_goes e20 8).bind (fun r21 =>
  Option.bind (α := Int32) ((if p3 = 0 then
  (sM_allRead r21).bind (fun r24 =>
  (some r24))
  else
  (sM_manyDown r21).bind (fun r25 =>
  (some r25)))) (fun e22 =>
  (some (s8.1 + (e22 - e10))).bind (fun x26 =>
  (sM_forgets r21).bind (fun r27 =>
  (some (.inl (x26, s8.2.1 + 1, r27)))))))))))
def sM_lots (M : jm_M) (p1 : Int32) (p2 : Int32) (p3 : Int32) : Option (Int32 × jm_M) :=
  (sM_bound p1 1 20).bind (fun r1 =>
  Option.bind (α := Int32) ((if r1 = 0 then
  (sM_isIn p3 0 1).bind (fun r4 =>
  (if r4 = 0 then
  (some (-2))
  else
  (some r1)))
  else
  (some r1))) (fun e2 =>
  (if e2 = 0 then
  (jm_wf M 0 43 p2).bind (fun M7 =>
  Option.bind (jm_loop (sM_lots_L50 p1 p3) jm_N (0, 0, M7)) (fun e28 =>
  (some (e28.1, e28.2))))
  else
  (sM_no M e2).bind (fun r29 =>
  (some (r29.1, r29.2))))))
def sM_allWeights_L4 (M : jm_M) (s1 : Int32 × Int32) : Option ((Int32 × Int32) ⊕ (Int32)) :=
  (if (M 0 0 13) ≤ s1.2 then
  (some (.inr s1.1))
  else
  (jm_rd 6 (M 0 2) s1.2).bind (fun v3 =>
  (some (s1.1 + v3)).bind (fun x4 =>
  (some (.inl (x4, s1.2 + 1))))))
def sM_allWeights (M : jm_M) : Option (Int32) :=
  Option.bind (jm_loop (sM_allWeights_L4 M) jm_N (0, 0)) (fun e5 =>
  (some e5))
def sM_count (M : jm_M) (p1 : Int32) : Option (Int32) :=
  (sM_isIn p1 11 16).bind (fun r1 =>
  (if r1 = 0 then
  (if p1 = 0 then
  (some (M 0 0 13))
  else
  (if p1 = 1 then
  (some (M 0 0 14))
  else
  (if p1 = 2 then
  (some (M 0 0 15))
  else
  (if p1 = 3 then
  (some (M 0 0 16))
  else
  (if p1 = 4 then
  (sM_allWeights M).bind (fun r8 =>
  (some r8))
  else
  (if p1 = 5 then
  (some (M 0 0 26))
  else
  (if p1 = 6 then
  (some (M 0 0 41))
  else
  (if p1 = 7 then
  (some (M 0 0 36))
  else
  (if p1 = 8 then
  (sM_manyDown M).bind (fun r13 =>
  (some r13))
  else
  (some (-9)))))))))))
  else
  (jm_rd 7 (M 0 1) (p1 - 10)).bind (fun v14 =>
  (some v14))))
end
section
theorem inX0a : ∀ w ∈ u_ws RX0 TX0 4, w ∈ lw_tbl := by decide +kernel
theorem inX0b : ∀ w ∈ u_ws RX0 TX0 4, goodWord w = true := by decide +kernel
theorem inX0 : ∀ w ∈ u_ws RX0 TX0 4, w ∈ jm_tb := fun w hw => List.mem_filter.mpr ⟨inX0a w hw, inX0b w hw⟩
theorem inX1a : ∀ w ∈ u_ws RX1 TX1 4, w ∈ lw_tbl := by decide +kernel
theorem inX1b : ∀ w ∈ u_ws RX1 TX1 4, goodWord w = true := by decide +kernel
theorem inX1 : ∀ w ∈ u_ws RX1 TX1 4, w ∈ jm_tb := fun w hw => List.mem_filter.mpr ⟨inX1a w hw, inX1b w hw⟩
theorem inX2a : ∀ w ∈ u_ws RX2 TX2 7, w ∈ lw_tbl := by decide +kernel
theorem inX2b : ∀ w ∈ u_ws RX2 TX2 7, goodWord w = true := by decide +kernel
theorem inX2 : ∀ w ∈ u_ws RX2 TX2 7, w ∈ jm_tb := fun w hw => List.mem_filter.mpr ⟨inX2a w hw, inX2b w hw⟩
theorem inX4a : ∀ w ∈ u_ws RX4 TX4 3, w ∈ lw_tbl := by decide +kernel
theorem inX4b : ∀ w ∈ u_ws RX4 TX4 3, goodWord w = true := by decide +kernel
theorem inX4 : ∀ w ∈ u_ws RX4 TX4 3, w ∈ jm_tb := fun w hw => List.mem_filter.mpr ⟨inX4a w hw, inX4b w hw⟩
theorem inX5a : ∀ w ∈ u_ws RX5 TX5 4, w ∈ lw_tbl := by decide +kernel
theorem inX5b : ∀ w ∈ u_ws RX5 TX5 4, goodWord w = true := by decide +kernel
theorem inX5 : ∀ w ∈ u_ws RX5 TX5 4, w ∈ jm_tb := fun w hw => List.mem_filter.mpr ⟨inX5a w hw, inX5b w hw⟩
theorem inX7a : ∀ w ∈ u_ws RX7 TX7 15, w ∈ lw_tbl := by decide +kernel
theorem inX7b : ∀ w ∈ u_ws RX7 TX7 15, goodWord w = true := by decide +kernel
theorem inX7 : ∀ w ∈ u_ws RX7 TX7 15, w ∈ jm_tb := fun w hw => List.mem_filter.mpr ⟨inX7a w hw, inX7b w hw⟩
theorem inX8a : ∀ w ∈ u_ws RX8 TX8 12, w ∈ lw_tbl := by decide +kernel
theorem inX8b : ∀ w ∈ u_ws RX8 TX8 12, goodWord w = true := by decide +kernel
theorem inX8 : ∀ w ∈ u_ws RX8 TX8 12, w ∈ jm_tb := fun w hw => List.mem_filter.mpr ⟨inX8a w hw, inX8b w hw⟩
theorem inX9a : ∀ w ∈ u_ws RX9 TX9 44, w ∈ lw_tbl := by decide +kernel
theorem inX9b : ∀ w ∈ u_ws RX9 TX9 44, goodWord w = true := by decide +kernel
theorem inX9 : ∀ w ∈ u_ws RX9 TX9 44, w ∈ jm_tb := fun w hw => List.mem_filter.mpr ⟨inX9a w hw, inX9b w hw⟩
theorem kc_1 : Int32.ofInt 1 = 1 := by decide
theorem kc_2 : Int32.ofInt 2 = 2 := by decide
theorem kc_4 : Int32.ofInt 4 = 4 := by decide
theorem kb_8 : (Int8.ofInt 8).toInt32 = 8 := by decide
theorem kb_16 : (Int8.ofInt 16).toInt32 = 16 := by decide
theorem kb_63 : (Int8.ofInt 63).toInt32 = 63 := by decide
theorem kb_96 : (Int8.ofInt 96).toInt32 = 96 := by decide
theorem ks_255 : (Int16.ofInt 255).toInt32 = 255 := by decide
theorem kb_m6 : (Int8.ofInt (-6)).toInt32 = (-6) := by decide
theorem kb_m4 : (Int8.ofInt (-4)).toInt32 = (-4) := by decide
theorem kc_m1 : Int32.ofInt (-1) = (-1) := by decide
theorem kc_0 : Int32.ofInt 0 = 0 := by decide
theorem kb_48 : (Int8.ofInt 48).toInt32 = 48 := by decide
theorem kb_57 : (Int8.ofInt 57).toInt32 = 57 := by decide
theorem kb_97 : (Int8.ofInt 97).toInt32 = 97 := by decide
theorem kb_122 : (Int8.ofInt 122).toInt32 = 122 := by decide
theorem kb_m9 : (Int8.ofInt (-9)).toInt32 = (-9) := by decide
theorem kb_59 : (Int8.ofInt 59).toInt32 = 59 := by decide
theorem kc_3 : Int32.ofInt 3 = 3 := by decide
theorem kc_5 : Int32.ofInt 5 = 5 := by decide
theorem kb_112 : (Int8.ofInt 112).toInt32 = 112 := by decide
theorem kb_98 : (Int8.ofInt 98).toInt32 = 98 := by decide
theorem kb_114 : (Int8.ofInt 114).toInt32 = 114 := by decide
theorem kb_104 : (Int8.ofInt 104).toInt32 = 104 := by decide
theorem kb_108 : (Int8.ofInt 108).toInt32 = 108 := by decide
theorem kb_119 : (Int8.ofInt 119).toInt32 = 119 := by decide
theorem kb_6 : (Int8.ofInt 6).toInt32 = 6 := by decide
theorem kb_10 : (Int8.ofInt 10).toInt32 = 10 := by decide
theorem kb_27 : (Int8.ofInt 27).toInt32 = 27 := by decide
theorem kb_9 : (Int8.ofInt 9).toInt32 = 9 := by decide
theorem kb_99 : (Int8.ofInt 99).toInt32 = 99 := by decide
theorem kb_60 : (Int8.ofInt 60).toInt32 = 60 := by decide
theorem ks_999 : (Int16.ofInt 999).toInt32 = 999 := by decide
theorem ks_m1000 : (Int16.ofInt (-1000)).toInt32 = (-1000) := by decide
theorem ks_m2000 : (Int16.ofInt (-2000)).toInt32 = (-2000) := by decide
theorem kb_m2 : (Int8.ofInt (-2)).toInt32 = (-2) := by decide
theorem kb_25 : (Int8.ofInt 25).toInt32 = 25 := by decide
theorem kb_m3 : (Int8.ofInt (-3)).toInt32 = (-3) := by decide
theorem kb_30 : (Int8.ofInt 30).toInt32 = 30 := by decide
theorem ks_130 : (Int16.ofInt 130).toInt32 = 130 := by decide
theorem kb_7 : (Int8.ofInt 7).toInt32 = 7 := by decide
theorem kb_20 : (Int8.ofInt 20).toInt32 = 20 := by decide
theorem ks_12345 : (Int16.ofInt 12345).toInt32 = 12345 := by decide
theorem kb_m99 : (Int8.ofInt (-99)).toInt32 = (-99) := by decide
theorem kb_12 : (Int8.ofInt 12).toInt32 = 12 := by decide
theorem kb_11 : (Int8.ofInt 11).toInt32 = 11 := by decide
theorem kb_31 : (Int8.ofInt 31).toInt32 = 31 := by decide
theorem ks_135 : (Int16.ofInt 135).toInt32 = 135 := by decide
theorem tw_531 : Cond.constant "java/lang/Integer" 265 (1431655765) ∈ jm_tb := List.mem_filter.mpr ⟨List.mem_of_getElem? (i := 531) (by decide +kernel), by decide +kernel⟩
theorem tw_532 : Cond.constant "java/lang/Integer" 266 (858993459) ∈ jm_tb := List.mem_filter.mpr ⟨List.mem_of_getElem? (i := 532) (by decide +kernel), by decide +kernel⟩
theorem tw_533 : Cond.constant "java/lang/Integer" 267 (252645135) ∈ jm_tb := List.mem_filter.mpr ⟨List.mem_of_getElem? (i := 533) (by decide +kernel), by decide +kernel⟩
theorem tw_313 : Cond.fieldLink "WeighedInBooks" 61 "WeighedInBooks" "refused" "[I" ∈ jm_tb := List.mem_filter.mpr ⟨List.mem_of_getElem? (i := 313) (by decide +kernel), by decide +kernel⟩
theorem fl_X8_61 : jm_Fl "WeighedInBooks" 61 6 11 := ⟨_, _, _, rfl, by decide, inX8, tw_313⟩
theorem tw_213 : Cond.fieldLink "WeighedInBooks$Statements" 22 "WeighedInBooks$Statements" "letters" "I" ∈ jm_tb := List.mem_filter.mpr ⟨List.mem_of_getElem? (i := 213) (by decide +kernel), by decide +kernel⟩
theorem fl_X5_22 : jm_Fl "WeighedInBooks$Statements" 22 4 1 := ⟨_, _, _, rfl, by decide, inX5, tw_213⟩
theorem tw_212 : Cond.fieldLink "WeighedInBooks$Statements" 9 "WeighedInBooks$Statements" "letter" "[I" ∈ jm_tb := List.mem_filter.mpr ⟨List.mem_of_getElem? (i := 212) (by decide +kernel), by decide +kernel⟩
theorem fl_X5_9 : jm_Fl "WeighedInBooks$Statements" 9 4 0 := ⟨_, _, _, rfl, by decide, inX5, tw_212⟩
theorem fp_X5_22 : jm_Fp "WeighedInBooks$Statements" 22 4 1 .int := ⟨_, _, _, tyX5, rfl, by decide, inX5, tw_213, tyX5_ok, nmX5, rfl, by decide +kernel⟩
theorem tw_343 : Cond.methodLink "WeighedInBooks" 64 yX8_refuse ∈ jm_tb := List.mem_filter.mpr ⟨List.mem_of_getElem? (i := 343) (by decide +kernel), by decide +kernel⟩
theorem tw_345 : Cond.instanceMethod yX8_refuse ∈ jm_tb := List.mem_filter.mpr ⟨List.mem_of_getElem? (i := 345) (by decide +kernel), by decide +kernel⟩
theorem tw_0 : Cond.selects yX8_refuse.cls yX8_refuse yX8_refuse ∈ jm_tb := List.mem_filter.mpr ⟨List.mem_of_getElem? (i := 0) (by decide +kernel), by decide +kernel⟩
theorem tw_82 : Cond.initialized yX8_refuse.cls ∈ jm_tb := List.mem_filter.mpr ⟨List.mem_of_getElem? (i := 82) (by decide +kernel), by decide +kernel⟩
theorem tw_346 : Cond.code yX8_refuse cX8_refuse 2 (some .int) ∈ jm_tb := List.mem_filter.mpr ⟨List.mem_of_getElem? (i := 346) (by decide +kernel), by decide +kernel⟩
theorem qX8_64 : jm_CV "WeighedInBooks" 64 yX8_refuse cX8_refuse 2 (some .int) 1 := ⟨tw_343, tw_345, tw_0, tw_82, tw_346, by decide, by decide, by decide +kernel⟩
theorem tw_306 : Cond.fieldLink "WeighedInBooks" 29 "WeighedInBooks" "told" "LWeighedInBooks$Statements;" ∈ jm_tb := List.mem_filter.mpr ⟨List.mem_of_getElem? (i := 306) (by decide +kernel), by decide +kernel⟩
theorem fl_X8_29 : jm_Fl "WeighedInBooks" 29 6 4 := ⟨_, _, _, rfl, by decide, inX8, tw_306⟩
theorem tw_214 : Cond.fieldLink "WeighedInBooks" 68 "WeighedInBooks$Statements" "letters" "I" ∈ jm_tb := List.mem_filter.mpr ⟨List.mem_of_getElem? (i := 214) (by decide +kernel), by decide +kernel⟩
theorem fl_X8_68 : jm_Fl "WeighedInBooks" 68 4 1 := ⟨_, _, _, rfl, by decide, inX5, tw_214⟩
theorem tw_347 : Cond.methodLink "WeighedInBooks" 72 yX5_addLetter ∈ jm_tb := List.mem_filter.mpr ⟨List.mem_of_getElem? (i := 347) (by decide +kernel), by decide +kernel⟩
theorem tw_348 : Cond.instanceMethod yX5_addLetter ∈ jm_tb := List.mem_filter.mpr ⟨List.mem_of_getElem? (i := 348) (by decide +kernel), by decide +kernel⟩
theorem tw_349 : Cond.selects yX5_addLetter.cls yX5_addLetter yX5_addLetter ∈ jm_tb := List.mem_filter.mpr ⟨List.mem_of_getElem? (i := 349) (by decide +kernel), by decide +kernel⟩
theorem tw_85 : Cond.initialized yX5_addLetter.cls ∈ jm_tb := List.mem_filter.mpr ⟨List.mem_of_getElem? (i := 85) (by decide +kernel), by decide +kernel⟩
theorem tw_350 : Cond.code yX5_addLetter cX5_addLetter 2 (some .int) ∈ jm_tb := List.mem_filter.mpr ⟨List.mem_of_getElem? (i := 350) (by decide +kernel), by decide +kernel⟩
theorem qX8_72 : jm_CV "WeighedInBooks" 72 yX5_addLetter cX5_addLetter 2 (some .int) 1 := ⟨tw_347, tw_348, tw_349, tw_85, tw_350, by decide, by decide, by decide +kernel⟩
theorem tw_215 : Cond.fieldLink "WeighedInBooks$Statements" 30 "WeighedInBooks$Statements" "place" "I" ∈ jm_tb := List.mem_filter.mpr ⟨List.mem_of_getElem? (i := 215) (by decide +kernel), by decide +kernel⟩
theorem fl_X5_30 : jm_Fl "WeighedInBooks$Statements" 30 4 2 := ⟨_, _, _, rfl, by decide, inX5, tw_215⟩
theorem tw_367 : Cond.methodLink "WeighedInBooks$Statements" 37 yX5_here ∈ jm_tb := List.mem_filter.mpr ⟨List.mem_of_getElem? (i := 367) (by decide +kernel), by decide +kernel⟩
theorem tw_368 : Cond.instanceMethod yX5_here ∈ jm_tb := List.mem_filter.mpr ⟨List.mem_of_getElem? (i := 368) (by decide +kernel), by decide +kernel⟩
theorem tw_369 : Cond.selects yX5_here.cls yX5_here yX5_here ∈ jm_tb := List.mem_filter.mpr ⟨List.mem_of_getElem? (i := 369) (by decide +kernel), by decide +kernel⟩
theorem tw_370 : Cond.code yX5_here cX5_here 1 (some .int) ∈ jm_tb := List.mem_filter.mpr ⟨List.mem_of_getElem? (i := 370) (by decide +kernel), by decide +kernel⟩
theorem qX5_37 : jm_CV "WeighedInBooks$Statements" 37 yX5_here cX5_here 1 (some .int) 0 := ⟨tw_367, tw_368, tw_369, tw_85, tw_370, by decide, by decide, by decide +kernel⟩
theorem fp_X5_30 : jm_Fp "WeighedInBooks$Statements" 30 4 2 .int := ⟨_, _, _, tyX5, rfl, by decide, inX5, tw_215, tyX5_ok, nmX5, rfl, by decide +kernel⟩
theorem tw_383 : Cond.methodLink "WeighedInBooks$Statements" 66 yX5_isTitleLetter ∈ jm_tb := List.mem_filter.mpr ⟨List.mem_of_getElem? (i := 383) (by decide +kernel), by decide +kernel⟩
theorem tw_384 : Cond.instanceMethod yX5_isTitleLetter ∈ jm_tb := List.mem_filter.mpr ⟨List.mem_of_getElem? (i := 384) (by decide +kernel), by decide +kernel⟩
theorem tw_385 : Cond.selects yX5_isTitleLetter.cls yX5_isTitleLetter yX5_isTitleLetter ∈ jm_tb := List.mem_filter.mpr ⟨List.mem_of_getElem? (i := 385) (by decide +kernel), by decide +kernel⟩
theorem tw_386 : Cond.code yX5_isTitleLetter cX5_isTitleLetter 2 (some .boolean) ∈ jm_tb := List.mem_filter.mpr ⟨List.mem_of_getElem? (i := 386) (by decide +kernel), by decide +kernel⟩
theorem qX5_66 : jm_CV "WeighedInBooks$Statements" 66 yX5_isTitleLetter cX5_isTitleLetter 2 (some .boolean) 1 := ⟨tw_383, tw_384, tw_385, tw_85, tw_386, by decide, by decide, by decide +kernel⟩
theorem tw_395 : Cond.fieldLink "WeighedInBooks$Statements" 69 "WeighedInBooks$Statements" "STEP_LETTERS" "[C" ∈ jm_tb := List.mem_filter.mpr ⟨List.mem_of_getElem? (i := 395) (by decide +kernel), by decide +kernel⟩
theorem tw_391 : Cond.methodLink "WeighedInBooks$Statements" 63 yX5_stepHere ∈ jm_tb := List.mem_filter.mpr ⟨List.mem_of_getElem? (i := 391) (by decide +kernel), by decide +kernel⟩
theorem tw_392 : Cond.instanceMethod yX5_stepHere ∈ jm_tb := List.mem_filter.mpr ⟨List.mem_of_getElem? (i := 392) (by decide +kernel), by decide +kernel⟩
theorem tw_393 : Cond.selects yX5_stepHere.cls yX5_stepHere yX5_stepHere ∈ jm_tb := List.mem_filter.mpr ⟨List.mem_of_getElem? (i := 393) (by decide +kernel), by decide +kernel⟩
theorem tw_394 : Cond.code yX5_stepHere cX5_stepHere 2 (some .int) ∈ jm_tb := List.mem_filter.mpr ⟨List.mem_of_getElem? (i := 394) (by decide +kernel), by decide +kernel⟩
theorem qX5_63 : jm_CV "WeighedInBooks$Statements" 63 yX5_stepHere cX5_stepHere 2 (some .int) 0 := ⟨tw_391, tw_392, tw_393, tw_85, tw_394, by decide, by decide, by decide +kernel⟩
theorem tw_375 : Cond.methodLink "WeighedInBooks$Statements" 54 yX5_passDigits ∈ jm_tb := List.mem_filter.mpr ⟨List.mem_of_getElem? (i := 375) (by decide +kernel), by decide +kernel⟩
theorem tw_376 : Cond.instanceMethod yX5_passDigits ∈ jm_tb := List.mem_filter.mpr ⟨List.mem_of_getElem? (i := 376) (by decide +kernel), by decide +kernel⟩
theorem tw_377 : Cond.selects yX5_passDigits.cls yX5_passDigits yX5_passDigits ∈ jm_tb := List.mem_filter.mpr ⟨List.mem_of_getElem? (i := 377) (by decide +kernel), by decide +kernel⟩
theorem tw_378 : Cond.code yX5_passDigits cX5_passDigits 3 (some .boolean) ∈ jm_tb := List.mem_filter.mpr ⟨List.mem_of_getElem? (i := 378) (by decide +kernel), by decide +kernel⟩
theorem qX5_54 : jm_CV "WeighedInBooks$Statements" 54 yX5_passDigits cX5_passDigits 3 (some .boolean) 1 := ⟨tw_375, tw_376, tw_377, tw_85, tw_378, by decide, by decide, by decide +kernel⟩
theorem tw_379 : Cond.methodLink "WeighedInBooks$Statements" 57 yX5_passTitle ∈ jm_tb := List.mem_filter.mpr ⟨List.mem_of_getElem? (i := 379) (by decide +kernel), by decide +kernel⟩
theorem tw_380 : Cond.instanceMethod yX5_passTitle ∈ jm_tb := List.mem_filter.mpr ⟨List.mem_of_getElem? (i := 380) (by decide +kernel), by decide +kernel⟩
theorem tw_381 : Cond.selects yX5_passTitle.cls yX5_passTitle yX5_passTitle ∈ jm_tb := List.mem_filter.mpr ⟨List.mem_of_getElem? (i := 381) (by decide +kernel), by decide +kernel⟩
theorem tw_382 : Cond.code yX5_passTitle cX5_passTitle 1 (some .boolean) ∈ jm_tb := List.mem_filter.mpr ⟨List.mem_of_getElem? (i := 382) (by decide +kernel), by decide +kernel⟩
theorem qX5_57 : jm_CV "WeighedInBooks$Statements" 57 yX5_passTitle cX5_passTitle 1 (some .boolean) 0 := ⟨tw_379, tw_380, tw_381, tw_85, tw_382, by decide, by decide, by decide +kernel⟩
theorem tw_387 : Cond.methodLink "WeighedInBooks$Statements" 60 yX5_passSteps ∈ jm_tb := List.mem_filter.mpr ⟨List.mem_of_getElem? (i := 387) (by decide +kernel), by decide +kernel⟩
theorem tw_388 : Cond.instanceMethod yX5_passSteps ∈ jm_tb := List.mem_filter.mpr ⟨List.mem_of_getElem? (i := 388) (by decide +kernel), by decide +kernel⟩
theorem tw_389 : Cond.selects yX5_passSteps.cls yX5_passSteps yX5_passSteps ∈ jm_tb := List.mem_filter.mpr ⟨List.mem_of_getElem? (i := 389) (by decide +kernel), by decide +kernel⟩
theorem tw_390 : Cond.code yX5_passSteps cX5_passSteps 3 (some .boolean) ∈ jm_tb := List.mem_filter.mpr ⟨List.mem_of_getElem? (i := 390) (by decide +kernel), by decide +kernel⟩
theorem qX5_60 : jm_CV "WeighedInBooks$Statements" 60 yX5_passSteps cX5_passSteps 3 (some .boolean) 0 := ⟨tw_387, tw_388, tw_389, tw_85, tw_390, by decide, by decide, by decide +kernel⟩
theorem tw_371 : Cond.methodLink "WeighedInBooks$Statements" 48 yX5_passBody ∈ jm_tb := List.mem_filter.mpr ⟨List.mem_of_getElem? (i := 371) (by decide +kernel), by decide +kernel⟩
theorem tw_372 : Cond.instanceMethod yX5_passBody ∈ jm_tb := List.mem_filter.mpr ⟨List.mem_of_getElem? (i := 372) (by decide +kernel), by decide +kernel⟩
theorem tw_373 : Cond.selects yX5_passBody.cls yX5_passBody yX5_passBody ∈ jm_tb := List.mem_filter.mpr ⟨List.mem_of_getElem? (i := 373) (by decide +kernel), by decide +kernel⟩
theorem tw_374 : Cond.code yX5_passBody cX5_passBody 2 (some .boolean) ∈ jm_tb := List.mem_filter.mpr ⟨List.mem_of_getElem? (i := 374) (by decide +kernel), by decide +kernel⟩
theorem qX5_48 : jm_CV "WeighedInBooks$Statements" 48 yX5_passBody cX5_passBody 2 (some .boolean) 1 := ⟨tw_371, tw_372, tw_373, tw_85, tw_374, by decide, by decide, by decide +kernel⟩
theorem tw_397 : Cond.methodLink "WeighedInBooks$Statements" 51 yX5_passLetter ∈ jm_tb := List.mem_filter.mpr ⟨List.mem_of_getElem? (i := 397) (by decide +kernel), by decide +kernel⟩
theorem tw_398 : Cond.instanceMethod yX5_passLetter ∈ jm_tb := List.mem_filter.mpr ⟨List.mem_of_getElem? (i := 398) (by decide +kernel), by decide +kernel⟩
theorem tw_399 : Cond.selects yX5_passLetter.cls yX5_passLetter yX5_passLetter ∈ jm_tb := List.mem_filter.mpr ⟨List.mem_of_getElem? (i := 399) (by decide +kernel), by decide +kernel⟩
theorem tw_400 : Cond.code yX5_passLetter cX5_passLetter 2 (some .boolean) ∈ jm_tb := List.mem_filter.mpr ⟨List.mem_of_getElem? (i := 400) (by decide +kernel), by decide +kernel⟩
theorem qX5_51 : jm_CV "WeighedInBooks$Statements" 51 yX5_passLetter cX5_passLetter 2 (some .boolean) 1 := ⟨tw_397, tw_398, tw_399, tw_85, tw_400, by decide, by decide, by decide +kernel⟩
theorem tw_363 : Cond.methodLink "WeighedInBooks$Statements" 45 yX5_passStatement ∈ jm_tb := List.mem_filter.mpr ⟨List.mem_of_getElem? (i := 363) (by decide +kernel), by decide +kernel⟩
theorem tw_364 : Cond.instanceMethod yX5_passStatement ∈ jm_tb := List.mem_filter.mpr ⟨List.mem_of_getElem? (i := 364) (by decide +kernel), by decide +kernel⟩
theorem tw_365 : Cond.selects yX5_passStatement.cls yX5_passStatement yX5_passStatement ∈ jm_tb := List.mem_filter.mpr ⟨List.mem_of_getElem? (i := 365) (by decide +kernel), by decide +kernel⟩
theorem tw_366 : Cond.code yX5_passStatement cX5_passStatement 2 (some .boolean) ∈ jm_tb := List.mem_filter.mpr ⟨List.mem_of_getElem? (i := 366) (by decide +kernel), by decide +kernel⟩
theorem qX5_45 : jm_CV "WeighedInBooks$Statements" 45 yX5_passStatement cX5_passStatement 2 (some .boolean) 0 := ⟨tw_363, tw_364, tw_365, tw_85, tw_366, by decide, by decide, by decide +kernel⟩
theorem tw_109 : Cond.fieldLink "WeighedInBooks$Town" 45 "WeighedInBooks$Town" "people" "I" ∈ jm_tb := List.mem_filter.mpr ⟨List.mem_of_getElem? (i := 109) (by decide +kernel), by decide +kernel⟩
theorem fl_X7_45 : jm_Fl "WeighedInBooks$Town" 45 5 0 := ⟨_, _, _, rfl, by decide, inX7, tw_109⟩
theorem fp_X7_45 : jm_Fp "WeighedInBooks$Town" 45 5 0 .int := ⟨_, _, _, tyX7, rfl, by decide, inX7, tw_109, tyX7_ok, nmX7, rfl, by decide +kernel⟩
theorem tw_114 : Cond.fieldLink "WeighedInBooks$Town" 9 "WeighedInBooks$Town" "weight" "[I" ∈ jm_tb := List.mem_filter.mpr ⟨List.mem_of_getElem? (i := 114) (by decide +kernel), by decide +kernel⟩
theorem fl_X7_9 : jm_Fl "WeighedInBooks$Town" 9 5 1 := ⟨_, _, _, rfl, by decide, inX7, tw_114⟩
theorem tw_405 : Cond.methodLink "WeighedInBooks$Town" 49 arraycopyName ∈ jm_tb := List.mem_filter.mpr ⟨List.mem_of_getElem? (i := 405) (by decide +kernel), by decide +kernel⟩
theorem tw_407 : Cond.native arraycopyName ∈ jm_tb := List.mem_filter.mpr ⟨List.mem_of_getElem? (i := 407) (by decide +kernel), by decide +kernel⟩
theorem tw_406 : Cond.static arraycopyName ∈ jm_tb := List.mem_filter.mpr ⟨List.mem_of_getElem? (i := 406) (by decide +kernel), by decide +kernel⟩
theorem tw_90 : Cond.initialized "java/lang/System" ∈ jm_tb := List.mem_filter.mpr ⟨List.mem_of_getElem? (i := 90) (by decide +kernel), by decide +kernel⟩
theorem tw_116 : Cond.fieldLink "WeighedInBooks$Town" 15 "WeighedInBooks$Town" "appetite" "[I" ∈ jm_tb := List.mem_filter.mpr ⟨List.mem_of_getElem? (i := 116) (by decide +kernel), by decide +kernel⟩
theorem fl_X7_15 : jm_Fl "WeighedInBooks$Town" 15 5 2 := ⟨_, _, _, rfl, by decide, inX7, tw_116⟩
theorem tw_118 : Cond.fieldLink "WeighedInBooks$Town" 18 "WeighedInBooks$Town" "purse" "[I" ∈ jm_tb := List.mem_filter.mpr ⟨List.mem_of_getElem? (i := 118) (by decide +kernel), by decide +kernel⟩
theorem fl_X7_18 : jm_Fl "WeighedInBooks$Town" 18 5 3 := ⟨_, _, _, rfl, by decide, inX7, tw_118⟩
theorem tw_121 : Cond.fieldLink "WeighedInBooks$Town" 55 "WeighedInBooks$Town" "books" "I" ∈ jm_tb := List.mem_filter.mpr ⟨List.mem_of_getElem? (i := 121) (by decide +kernel), by decide +kernel⟩
theorem fl_X7_55 : jm_Fl "WeighedInBooks$Town" 55 5 4 := ⟨_, _, _, rfl, by decide, inX7, tw_121⟩
theorem fp_X7_55 : jm_Fp "WeighedInBooks$Town" 55 5 4 .int := ⟨_, _, _, tyX7, rfl, by decide, inX7, tw_121, tyX7_ok, nmX7, rfl, by decide +kernel⟩
theorem tw_125 : Cond.fieldLink "WeighedInBooks$Town" 21 "WeighedInBooks$Town" "kind" "[I" ∈ jm_tb := List.mem_filter.mpr ⟨List.mem_of_getElem? (i := 125) (by decide +kernel), by decide +kernel⟩
theorem fl_X7_21 : jm_Fl "WeighedInBooks$Town" 21 5 5 := ⟨_, _, _, rfl, by decide, inX7, tw_125⟩
theorem tw_128 : Cond.fieldLink "WeighedInBooks$Town" 24 "WeighedInBooks$Town" "figure" "[I" ∈ jm_tb := List.mem_filter.mpr ⟨List.mem_of_getElem? (i := 128) (by decide +kernel), by decide +kernel⟩
theorem fl_X7_24 : jm_Fl "WeighedInBooks$Town" 24 5 6 := ⟨_, _, _, rfl, by decide, inX7, tw_128⟩
theorem tw_131 : Cond.fieldLink "WeighedInBooks$Town" 27 "WeighedInBooks$Town" "owner" "[I" ∈ jm_tb := List.mem_filter.mpr ⟨List.mem_of_getElem? (i := 131) (by decide +kernel), by decide +kernel⟩
theorem fl_X7_27 : jm_Fl "WeighedInBooks$Town" 27 5 7 := ⟨_, _, _, rfl, by decide, inX7, tw_131⟩
theorem tw_134 : Cond.fieldLink "WeighedInBooks$Town" 30 "WeighedInBooks$Town" "holder" "[I" ∈ jm_tb := List.mem_filter.mpr ⟨List.mem_of_getElem? (i := 134) (by decide +kernel), by decide +kernel⟩
theorem fl_X7_30 : jm_Fl "WeighedInBooks$Town" 30 5 8 := ⟨_, _, _, rfl, by decide, inX7, tw_134⟩
theorem tw_138 : Cond.fieldLink "WeighedInBooks$Town" 33 "WeighedInBooks$Town" "readers" "[I" ∈ jm_tb := List.mem_filter.mpr ⟨List.mem_of_getElem? (i := 138) (by decide +kernel), by decide +kernel⟩
theorem fl_X7_33 : jm_Fl "WeighedInBooks$Town" 33 5 9 := ⟨_, _, _, rfl, by decide, inX7, tw_138⟩
theorem tw_142 : Cond.fieldLink "WeighedInBooks$Town" 36 "WeighedInBooks$Town" "title" "[I" ∈ jm_tb := List.mem_filter.mpr ⟨List.mem_of_getElem? (i := 142) (by decide +kernel), by decide +kernel⟩
theorem fl_X7_36 : jm_Fl "WeighedInBooks$Town" 36 5 10 := ⟨_, _, _, rfl, by decide, inX7, tw_142⟩
theorem tw_144 : Cond.fieldLink "WeighedInBooks$Town" 58 "WeighedInBooks$Town" "week" "I" ∈ jm_tb := List.mem_filter.mpr ⟨List.mem_of_getElem? (i := 144) (by decide +kernel), by decide +kernel⟩
theorem fl_X7_58 : jm_Fl "WeighedInBooks$Town" 58 5 11 := ⟨_, _, _, rfl, by decide, inX7, tw_144⟩
theorem fp_X7_58 : jm_Fp "WeighedInBooks$Town" 58 5 11 .int := ⟨_, _, _, tyX7, rfl, by decide, inX7, tw_144, tyX7_ok, nmX7, rfl, by decide +kernel⟩
theorem tw_147 : Cond.fieldLink "WeighedInBooks$Town" 61 "WeighedInBooks$Town" "steps" "I" ∈ jm_tb := List.mem_filter.mpr ⟨List.mem_of_getElem? (i := 147) (by decide +kernel), by decide +kernel⟩
theorem fl_X7_61 : jm_Fl "WeighedInBooks$Town" 61 5 12 := ⟨_, _, _, rfl, by decide, inX7, tw_147⟩
theorem fp_X7_61 : jm_Fp "WeighedInBooks$Town" 61 5 12 .int := ⟨_, _, _, tyX7, rfl, by decide, inX7, tw_147, tyX7_ok, nmX7, rfl, by decide +kernel⟩
theorem tw_150 : Cond.fieldLink "WeighedInBooks$Town" 39 "WeighedInBooks$Town" "step" "[I" ∈ jm_tb := List.mem_filter.mpr ⟨List.mem_of_getElem? (i := 150) (by decide +kernel), by decide +kernel⟩
theorem fl_X7_39 : jm_Fl "WeighedInBooks$Town" 39 5 13 := ⟨_, _, _, rfl, by decide, inX7, tw_150⟩
theorem tw_151 : Cond.fieldLink "WeighedInBooks$Town" 42 "WeighedInBooks$Town" "stepNumber" "[I" ∈ jm_tb := List.mem_filter.mpr ⟨List.mem_of_getElem? (i := 151) (by decide +kernel), by decide +kernel⟩
theorem fl_X7_42 : jm_Fl "WeighedInBooks$Town" 42 5 14 := ⟨_, _, _, rfl, by decide, inX7, tw_151⟩
theorem tw_416 : Cond.methodLink "WeighedInBooks$Statements" 91 yX5_takeNumber ∈ jm_tb := List.mem_filter.mpr ⟨List.mem_of_getElem? (i := 416) (by decide +kernel), by decide +kernel⟩
theorem tw_417 : Cond.instanceMethod yX5_takeNumber ∈ jm_tb := List.mem_filter.mpr ⟨List.mem_of_getElem? (i := 417) (by decide +kernel), by decide +kernel⟩
theorem tw_418 : Cond.selects yX5_takeNumber.cls yX5_takeNumber yX5_takeNumber ∈ jm_tb := List.mem_filter.mpr ⟨List.mem_of_getElem? (i := 418) (by decide +kernel), by decide +kernel⟩
theorem tw_419 : Cond.code yX5_takeNumber cX5_takeNumber 4 (some .int) ∈ jm_tb := List.mem_filter.mpr ⟨List.mem_of_getElem? (i := 419) (by decide +kernel), by decide +kernel⟩
theorem qX5_91 : jm_CV "WeighedInBooks$Statements" 91 yX5_takeNumber cX5_takeNumber 4 (some .int) 1 := ⟨tw_416, tw_417, tw_418, tw_85, tw_419, by decide, by decide, by decide +kernel⟩
theorem tw_216 : Cond.fieldLink "WeighedInBooks$Statements" 18 "WeighedInBooks$Statements" "draft" "LWeighedInBooks$Town;" ∈ jm_tb := List.mem_filter.mpr ⟨List.mem_of_getElem? (i := 216) (by decide +kernel), by decide +kernel⟩
theorem fl_X5_18 : jm_Fl "WeighedInBooks$Statements" 18 4 3 := ⟨_, _, _, rfl, by decide, inX5, tw_216⟩
theorem tw_113 : Cond.fieldLink "WeighedInBooks$Statements" 95 "WeighedInBooks$Town" "people" "I" ∈ jm_tb := List.mem_filter.mpr ⟨List.mem_of_getElem? (i := 113) (by decide +kernel), by decide +kernel⟩
theorem fl_X5_95 : jm_Fl "WeighedInBooks$Statements" 95 5 0 := ⟨_, _, _, rfl, by decide, inX7, tw_113⟩
theorem tw_420 : Cond.methodLink "WeighedInBooks$Statements" 98 yX7_addPerson ∈ jm_tb := List.mem_filter.mpr ⟨List.mem_of_getElem? (i := 420) (by decide +kernel), by decide +kernel⟩
theorem tw_421 : Cond.instanceMethod yX7_addPerson ∈ jm_tb := List.mem_filter.mpr ⟨List.mem_of_getElem? (i := 421) (by decide +kernel), by decide +kernel⟩
theorem tw_422 : Cond.selects yX7_addPerson.cls yX7_addPerson yX7_addPerson ∈ jm_tb := List.mem_filter.mpr ⟨List.mem_of_getElem? (i := 422) (by decide +kernel), by decide +kernel⟩
theorem tw_83 : Cond.initialized yX7_addPerson.cls ∈ jm_tb := List.mem_filter.mpr ⟨List.mem_of_getElem? (i := 83) (by decide +kernel), by decide +kernel⟩
theorem tw_423 : Cond.code yX7_addPerson cX7_addPerson 5 (some .int) ∈ jm_tb := List.mem_filter.mpr ⟨List.mem_of_getElem? (i := 423) (by decide +kernel), by decide +kernel⟩
theorem qX5_98 : jm_CV "WeighedInBooks$Statements" 98 yX7_addPerson cX7_addPerson 5 (some .int) 3 := ⟨tw_420, tw_421, tw_422, tw_83, tw_423, by decide, by decide, by decide +kernel⟩
theorem tw_432 : Cond.methodLink "WeighedInBooks$Statements" 146 yX6_longer ∈ jm_tb := List.mem_filter.mpr ⟨List.mem_of_getElem? (i := 432) (by decide +kernel), by decide +kernel⟩
theorem tw_433 : Cond.static yX6_longer ∈ jm_tb := List.mem_filter.mpr ⟨List.mem_of_getElem? (i := 433) (by decide +kernel), by decide +kernel⟩
theorem tw_91 : Cond.initialized yX6_longer.cls ∈ jm_tb := List.mem_filter.mpr ⟨List.mem_of_getElem? (i := 91) (by decide +kernel), by decide +kernel⟩
theorem tw_434 : Cond.code yX6_longer cX6_longer 5 (some .int) ∈ jm_tb := List.mem_filter.mpr ⟨List.mem_of_getElem? (i := 434) (by decide +kernel), by decide +kernel⟩
theorem qX5_146 : jm_CS "WeighedInBooks$Statements" 146 yX6_longer cX6_longer 5 (some .int) 3 := ⟨tw_432, tw_433, tw_91, tw_434, by decide, by decide, by decide +kernel⟩
theorem tw_439 : Cond.methodLink "WeighedInBooks$Town" 64 yX7_hasPerson ∈ jm_tb := List.mem_filter.mpr ⟨List.mem_of_getElem? (i := 439) (by decide +kernel), by decide +kernel⟩
theorem tw_440 : Cond.instanceMethod yX7_hasPerson ∈ jm_tb := List.mem_filter.mpr ⟨List.mem_of_getElem? (i := 440) (by decide +kernel), by decide +kernel⟩
theorem tw_441 : Cond.selects yX7_hasPerson.cls yX7_hasPerson yX7_hasPerson ∈ jm_tb := List.mem_filter.mpr ⟨List.mem_of_getElem? (i := 441) (by decide +kernel), by decide +kernel⟩
theorem tw_442 : Cond.code yX7_hasPerson cX7_hasPerson 2 (some .boolean) ∈ jm_tb := List.mem_filter.mpr ⟨List.mem_of_getElem? (i := 442) (by decide +kernel), by decide +kernel⟩
theorem qX7_64 : jm_CV "WeighedInBooks$Town" 64 yX7_hasPerson cX7_hasPerson 2 (some .boolean) 1 := ⟨tw_439, tw_440, tw_441, tw_83, tw_442, by decide, by decide, by decide +kernel⟩
theorem tw_428 : Cond.methodLink "WeighedInBooks$Statements" 102 yX5_takeTitle ∈ jm_tb := List.mem_filter.mpr ⟨List.mem_of_getElem? (i := 428) (by decide +kernel), by decide +kernel⟩
theorem tw_429 : Cond.instanceMethod yX5_takeTitle ∈ jm_tb := List.mem_filter.mpr ⟨List.mem_of_getElem? (i := 429) (by decide +kernel), by decide +kernel⟩
theorem tw_430 : Cond.selects yX5_takeTitle.cls yX5_takeTitle yX5_takeTitle ∈ jm_tb := List.mem_filter.mpr ⟨List.mem_of_getElem? (i := 430) (by decide +kernel), by decide +kernel⟩
theorem tw_431 : Cond.code yX5_takeTitle cX5_takeTitle 3 (some .int) ∈ jm_tb := List.mem_filter.mpr ⟨List.mem_of_getElem? (i := 431) (by decide +kernel), by decide +kernel⟩
theorem qX5_102 : jm_CV "WeighedInBooks$Statements" 102 yX5_takeTitle cX5_takeTitle 3 (some .int) 0 := ⟨tw_428, tw_429, tw_430, tw_85, tw_431, by decide, by decide, by decide +kernel⟩
theorem tw_435 : Cond.methodLink "WeighedInBooks$Statements" 105 yX7_hasKeeper ∈ jm_tb := List.mem_filter.mpr ⟨List.mem_of_getElem? (i := 435) (by decide +kernel), by decide +kernel⟩
theorem tw_436 : Cond.instanceMethod yX7_hasKeeper ∈ jm_tb := List.mem_filter.mpr ⟨List.mem_of_getElem? (i := 436) (by decide +kernel), by decide +kernel⟩
theorem tw_437 : Cond.selects yX7_hasKeeper.cls yX7_hasKeeper yX7_hasKeeper ∈ jm_tb := List.mem_filter.mpr ⟨List.mem_of_getElem? (i := 437) (by decide +kernel), by decide +kernel⟩
theorem tw_438 : Cond.code yX7_hasKeeper cX7_hasKeeper 2 (some .boolean) ∈ jm_tb := List.mem_filter.mpr ⟨List.mem_of_getElem? (i := 438) (by decide +kernel), by decide +kernel⟩
theorem qX5_105 : jm_CV "WeighedInBooks$Statements" 105 yX7_hasKeeper cX7_hasKeeper 2 (some .boolean) 1 := ⟨tw_435, tw_436, tw_437, tw_83, tw_438, by decide, by decide, by decide +kernel⟩
theorem tw_124 : Cond.fieldLink "WeighedInBooks$Statements" 108 "WeighedInBooks$Town" "books" "I" ∈ jm_tb := List.mem_filter.mpr ⟨List.mem_of_getElem? (i := 124) (by decide +kernel), by decide +kernel⟩
theorem fl_X5_108 : jm_Fl "WeighedInBooks$Statements" 108 5 4 := ⟨_, _, _, rfl, by decide, inX7, tw_124⟩
theorem tw_443 : Cond.methodLink "WeighedInBooks$Statements" 113 yX7_bookWithTitle ∈ jm_tb := List.mem_filter.mpr ⟨List.mem_of_getElem? (i := 443) (by decide +kernel), by decide +kernel⟩
theorem tw_444 : Cond.instanceMethod yX7_bookWithTitle ∈ jm_tb := List.mem_filter.mpr ⟨List.mem_of_getElem? (i := 444) (by decide +kernel), by decide +kernel⟩
theorem tw_445 : Cond.selects yX7_bookWithTitle.cls yX7_bookWithTitle yX7_bookWithTitle ∈ jm_tb := List.mem_filter.mpr ⟨List.mem_of_getElem? (i := 445) (by decide +kernel), by decide +kernel⟩
theorem tw_446 : Cond.code yX7_bookWithTitle cX7_bookWithTitle 3 (some .int) ∈ jm_tb := List.mem_filter.mpr ⟨List.mem_of_getElem? (i := 446) (by decide +kernel), by decide +kernel⟩
theorem qX5_113 : jm_CV "WeighedInBooks$Statements" 113 yX7_bookWithTitle cX7_bookWithTitle 3 (some .int) 1 := ⟨tw_443, tw_444, tw_445, tw_83, tw_446, by decide, by decide, by decide +kernel⟩
theorem tw_447 : Cond.methodLink "WeighedInBooks$Statements" 116 yX7_addBook ∈ jm_tb := List.mem_filter.mpr ⟨List.mem_of_getElem? (i := 447) (by decide +kernel), by decide +kernel⟩
theorem tw_448 : Cond.instanceMethod yX7_addBook ∈ jm_tb := List.mem_filter.mpr ⟨List.mem_of_getElem? (i := 448) (by decide +kernel), by decide +kernel⟩
theorem tw_449 : Cond.selects yX7_addBook.cls yX7_addBook yX7_addBook ∈ jm_tb := List.mem_filter.mpr ⟨List.mem_of_getElem? (i := 449) (by decide +kernel), by decide +kernel⟩
theorem tw_450 : Cond.code yX7_addBook cX7_addBook 6 (some .int) ∈ jm_tb := List.mem_filter.mpr ⟨List.mem_of_getElem? (i := 450) (by decide +kernel), by decide +kernel⟩
theorem qX5_116 : jm_CV "WeighedInBooks$Statements" 116 yX7_addBook cX7_addBook 6 (some .int) 4 := ⟨tw_447, tw_448, tw_449, tw_83, tw_450, by decide, by decide, by decide +kernel⟩
theorem tw_455 : Cond.methodLink "WeighedInBooks$Statements" 120 yX7_hasPerson ∈ jm_tb := List.mem_filter.mpr ⟨List.mem_of_getElem? (i := 455) (by decide +kernel), by decide +kernel⟩
theorem qX5_120 : jm_CV "WeighedInBooks$Statements" 120 yX7_hasPerson cX7_hasPerson 2 (some .boolean) 1 := ⟨tw_455, tw_440, tw_441, tw_83, tw_442, by decide, by decide, by decide +kernel⟩
theorem tw_456 : Cond.methodLink "WeighedInBooks$Statements" 123 yX7_hasBook ∈ jm_tb := List.mem_filter.mpr ⟨List.mem_of_getElem? (i := 456) (by decide +kernel), by decide +kernel⟩
theorem tw_457 : Cond.instanceMethod yX7_hasBook ∈ jm_tb := List.mem_filter.mpr ⟨List.mem_of_getElem? (i := 457) (by decide +kernel), by decide +kernel⟩
theorem tw_458 : Cond.selects yX7_hasBook.cls yX7_hasBook yX7_hasBook ∈ jm_tb := List.mem_filter.mpr ⟨List.mem_of_getElem? (i := 458) (by decide +kernel), by decide +kernel⟩
theorem tw_459 : Cond.code yX7_hasBook cX7_hasBook 2 (some .boolean) ∈ jm_tb := List.mem_filter.mpr ⟨List.mem_of_getElem? (i := 459) (by decide +kernel), by decide +kernel⟩
theorem qX5_123 : jm_CV "WeighedInBooks$Statements" 123 yX7_hasBook cX7_hasBook 2 (some .boolean) 1 := ⟨tw_456, tw_457, tw_458, tw_83, tw_459, by decide, by decide, by decide +kernel⟩
theorem tw_141 : Cond.fieldLink "WeighedInBooks$Statements" 126 "WeighedInBooks$Town" "readers" "[I" ∈ jm_tb := List.mem_filter.mpr ⟨List.mem_of_getElem? (i := 141) (by decide +kernel), by decide +kernel⟩
theorem fl_X5_126 : jm_Fl "WeighedInBooks$Statements" 126 5 9 := ⟨_, _, _, rfl, by decide, inX7, tw_141⟩
theorem tw_137 : Cond.fieldLink "WeighedInBooks$Statements" 129 "WeighedInBooks$Town" "holder" "[I" ∈ jm_tb := List.mem_filter.mpr ⟨List.mem_of_getElem? (i := 137) (by decide +kernel), by decide +kernel⟩
theorem fl_X5_129 : jm_Fl "WeighedInBooks$Statements" 129 5 8 := ⟨_, _, _, rfl, by decide, inX7, tw_137⟩
theorem tw_149 : Cond.fieldLink "WeighedInBooks$Statements" 132 "WeighedInBooks$Town" "steps" "I" ∈ jm_tb := List.mem_filter.mpr ⟨List.mem_of_getElem? (i := 149) (by decide +kernel), by decide +kernel⟩
theorem fp_X5_132 : jm_Fp "WeighedInBooks$Statements" 132 5 12 .int := ⟨_, _, _, tyX7, rfl, by decide, inX7, tw_149, tyX7_ok, nmX7, rfl, by decide +kernel⟩
theorem tw_468 : Cond.methodLink "WeighedInBooks$Statements" 135 yX7_addStep ∈ jm_tb := List.mem_filter.mpr ⟨List.mem_of_getElem? (i := 468) (by decide +kernel), by decide +kernel⟩
theorem tw_469 : Cond.instanceMethod yX7_addStep ∈ jm_tb := List.mem_filter.mpr ⟨List.mem_of_getElem? (i := 469) (by decide +kernel), by decide +kernel⟩
theorem tw_470 : Cond.selects yX7_addStep.cls yX7_addStep yX7_addStep ∈ jm_tb := List.mem_filter.mpr ⟨List.mem_of_getElem? (i := 470) (by decide +kernel), by decide +kernel⟩
theorem tw_471 : Cond.code yX7_addStep cX7_addStep 3 none ∈ jm_tb := List.mem_filter.mpr ⟨List.mem_of_getElem? (i := 471) (by decide +kernel), by decide +kernel⟩
theorem qX5_135 : jm_CV "WeighedInBooks$Statements" 135 yX7_addStep cX7_addStep 3 none 2 := ⟨tw_468, tw_469, tw_470, tw_83, tw_471, by decide, by decide, by decide +kernel⟩
theorem tw_491 : Cond.methodLink "WeighedInBooks$Town" 85 yX7_hasRead ∈ jm_tb := List.mem_filter.mpr ⟨List.mem_of_getElem? (i := 491) (by decide +kernel), by decide +kernel⟩
theorem tw_492 : Cond.instanceMethod yX7_hasRead ∈ jm_tb := List.mem_filter.mpr ⟨List.mem_of_getElem? (i := 492) (by decide +kernel), by decide +kernel⟩
theorem tw_493 : Cond.selects yX7_hasRead.cls yX7_hasRead yX7_hasRead ∈ jm_tb := List.mem_filter.mpr ⟨List.mem_of_getElem? (i := 493) (by decide +kernel), by decide +kernel⟩
theorem tw_494 : Cond.code yX7_hasRead cX7_hasRead 3 (some .int) ∈ jm_tb := List.mem_filter.mpr ⟨List.mem_of_getElem? (i := 494) (by decide +kernel), by decide +kernel⟩
theorem qX7_85 : jm_CV "WeighedInBooks$Town" 85 yX7_hasRead cX7_hasRead 3 (some .int) 2 := ⟨tw_491, tw_492, tw_493, tw_83, tw_494, by decide, by decide, by decide +kernel⟩
theorem tw_484 : Cond.methodLink "WeighedInBooks$Town" 95 Lib.Math.min.name ∈ jm_tb := List.mem_filter.mpr ⟨List.mem_of_getElem? (i := 484) (by decide +kernel), by decide +kernel⟩
theorem tw_485 : Cond.static Lib.Math.min.name ∈ jm_tb := List.mem_filter.mpr ⟨List.mem_of_getElem? (i := 485) (by decide +kernel), by decide +kernel⟩
theorem tw_92 : Cond.initialized "java/lang/Math" ∈ jm_tb := List.mem_filter.mpr ⟨List.mem_of_getElem? (i := 92) (by decide +kernel), by decide +kernel⟩
theorem tw_486 : Cond.code Lib.Math.min.name Lib.Math.min.code 2 (some .int) ∈ jm_tb := List.mem_filter.mpr ⟨List.mem_of_getElem? (i := 486) (by decide +kernel), by decide +kernel⟩
theorem tw_487 : Cond.methodLink "WeighedInBooks$Town" 119 yX7_readNext ∈ jm_tb := List.mem_filter.mpr ⟨List.mem_of_getElem? (i := 487) (by decide +kernel), by decide +kernel⟩
theorem tw_488 : Cond.instanceMethod yX7_readNext ∈ jm_tb := List.mem_filter.mpr ⟨List.mem_of_getElem? (i := 488) (by decide +kernel), by decide +kernel⟩
theorem tw_489 : Cond.selects yX7_readNext.cls yX7_readNext yX7_readNext ∈ jm_tb := List.mem_filter.mpr ⟨List.mem_of_getElem? (i := 489) (by decide +kernel), by decide +kernel⟩
theorem tw_490 : Cond.code yX7_readNext cX7_readNext 4 none ∈ jm_tb := List.mem_filter.mpr ⟨List.mem_of_getElem? (i := 490) (by decide +kernel), by decide +kernel⟩
theorem qX7_119 : jm_CV "WeighedInBooks$Town" 119 yX7_readNext cX7_readNext 4 none 1 := ⟨tw_487, tw_488, tw_489, tw_83, tw_490, by decide, by decide, by decide +kernel⟩
theorem tw_480 : Cond.methodLink "WeighedInBooks$Town" 115 yX7_weekPasses ∈ jm_tb := List.mem_filter.mpr ⟨List.mem_of_getElem? (i := 480) (by decide +kernel), by decide +kernel⟩
theorem tw_481 : Cond.instanceMethod yX7_weekPasses ∈ jm_tb := List.mem_filter.mpr ⟨List.mem_of_getElem? (i := 481) (by decide +kernel), by decide +kernel⟩
theorem tw_482 : Cond.selects yX7_weekPasses.cls yX7_weekPasses yX7_weekPasses ∈ jm_tb := List.mem_filter.mpr ⟨List.mem_of_getElem? (i := 482) (by decide +kernel), by decide +kernel⟩
theorem tw_483 : Cond.code yX7_weekPasses cX7_weekPasses 4 none ∈ jm_tb := List.mem_filter.mpr ⟨List.mem_of_getElem? (i := 483) (by decide +kernel), by decide +kernel⟩
theorem qX7_115 : jm_CV "WeighedInBooks$Town" 115 yX7_weekPasses cX7_weekPasses 4 none 1 := ⟨tw_480, tw_481, tw_482, tw_83, tw_483, by decide, by decide, by decide +kernel⟩
theorem tw_146 : Cond.fieldLink "WeighedInBooks$Statements" 139 "WeighedInBooks$Town" "week" "I" ∈ jm_tb := List.mem_filter.mpr ⟨List.mem_of_getElem? (i := 146) (by decide +kernel), by decide +kernel⟩
theorem fl_X5_139 : jm_Fl "WeighedInBooks$Statements" 139 5 11 := ⟨_, _, _, rfl, by decide, inX7, tw_146⟩
theorem tw_476 : Cond.methodLink "WeighedInBooks$Statements" 142 yX7_weeksPass ∈ jm_tb := List.mem_filter.mpr ⟨List.mem_of_getElem? (i := 476) (by decide +kernel), by decide +kernel⟩
theorem tw_477 : Cond.instanceMethod yX7_weeksPass ∈ jm_tb := List.mem_filter.mpr ⟨List.mem_of_getElem? (i := 477) (by decide +kernel), by decide +kernel⟩
theorem tw_478 : Cond.selects yX7_weeksPass.cls yX7_weeksPass yX7_weeksPass ∈ jm_tb := List.mem_filter.mpr ⟨List.mem_of_getElem? (i := 478) (by decide +kernel), by decide +kernel⟩
theorem tw_479 : Cond.code yX7_weeksPass cX7_weeksPass 3 none ∈ jm_tb := List.mem_filter.mpr ⟨List.mem_of_getElem? (i := 479) (by decide +kernel), by decide +kernel⟩
theorem qX5_142 : jm_CV "WeighedInBooks$Statements" 142 yX7_weeksPass cX7_weeksPass 3 none 1 := ⟨tw_476, tw_477, tw_478, tw_83, tw_479, by decide, by decide, by decide +kernel⟩
theorem tw_424 : Cond.methodLink "WeighedInBooks$Statements" 76 yX5_takeBook ∈ jm_tb := List.mem_filter.mpr ⟨List.mem_of_getElem? (i := 424) (by decide +kernel), by decide +kernel⟩
theorem tw_425 : Cond.instanceMethod yX5_takeBook ∈ jm_tb := List.mem_filter.mpr ⟨List.mem_of_getElem? (i := 425) (by decide +kernel), by decide +kernel⟩
theorem tw_426 : Cond.selects yX5_takeBook.cls yX5_takeBook yX5_takeBook ∈ jm_tb := List.mem_filter.mpr ⟨List.mem_of_getElem? (i := 426) (by decide +kernel), by decide +kernel⟩
theorem tw_427 : Cond.code yX5_takeBook cX5_takeBook 5 (some .boolean) ∈ jm_tb := List.mem_filter.mpr ⟨List.mem_of_getElem? (i := 427) (by decide +kernel), by decide +kernel⟩
theorem qX5_76 : jm_CV "WeighedInBooks$Statements" 76 yX5_takeBook cX5_takeBook 5 (some .boolean) 0 := ⟨tw_424, tw_425, tw_426, tw_85, tw_427, by decide, by decide, by decide +kernel⟩
theorem tw_460 : Cond.methodLink "WeighedInBooks$Statements" 82 yX5_takeHolder ∈ jm_tb := List.mem_filter.mpr ⟨List.mem_of_getElem? (i := 460) (by decide +kernel), by decide +kernel⟩
theorem tw_461 : Cond.instanceMethod yX5_takeHolder ∈ jm_tb := List.mem_filter.mpr ⟨List.mem_of_getElem? (i := 461) (by decide +kernel), by decide +kernel⟩
theorem tw_462 : Cond.selects yX5_takeHolder.cls yX5_takeHolder yX5_takeHolder ∈ jm_tb := List.mem_filter.mpr ⟨List.mem_of_getElem? (i := 462) (by decide +kernel), by decide +kernel⟩
theorem tw_463 : Cond.code yX5_takeHolder cX5_takeHolder 3 (some .boolean) ∈ jm_tb := List.mem_filter.mpr ⟨List.mem_of_getElem? (i := 463) (by decide +kernel), by decide +kernel⟩
theorem qX5_82 : jm_CV "WeighedInBooks$Statements" 82 yX5_takeHolder cX5_takeHolder 3 (some .boolean) 0 := ⟨tw_460, tw_461, tw_462, tw_85, tw_463, by decide, by decide, by decide +kernel⟩
theorem tw_464 : Cond.methodLink "WeighedInBooks$Statements" 85 yX5_takeLaw ∈ jm_tb := List.mem_filter.mpr ⟨List.mem_of_getElem? (i := 464) (by decide +kernel), by decide +kernel⟩
theorem tw_465 : Cond.instanceMethod yX5_takeLaw ∈ jm_tb := List.mem_filter.mpr ⟨List.mem_of_getElem? (i := 465) (by decide +kernel), by decide +kernel⟩
theorem tw_466 : Cond.selects yX5_takeLaw.cls yX5_takeLaw yX5_takeLaw ∈ jm_tb := List.mem_filter.mpr ⟨List.mem_of_getElem? (i := 466) (by decide +kernel), by decide +kernel⟩
theorem tw_467 : Cond.code yX5_takeLaw cX5_takeLaw 5 (some .boolean) ∈ jm_tb := List.mem_filter.mpr ⟨List.mem_of_getElem? (i := 467) (by decide +kernel), by decide +kernel⟩
theorem qX5_85 : jm_CV "WeighedInBooks$Statements" 85 yX5_takeLaw cX5_takeLaw 5 (some .boolean) 0 := ⟨tw_464, tw_465, tw_466, tw_85, tw_467, by decide, by decide, by decide +kernel⟩
theorem tw_412 : Cond.methodLink "WeighedInBooks$Statements" 73 yX5_takePerson ∈ jm_tb := List.mem_filter.mpr ⟨List.mem_of_getElem? (i := 412) (by decide +kernel), by decide +kernel⟩
theorem tw_413 : Cond.instanceMethod yX5_takePerson ∈ jm_tb := List.mem_filter.mpr ⟨List.mem_of_getElem? (i := 413) (by decide +kernel), by decide +kernel⟩
theorem tw_414 : Cond.selects yX5_takePerson.cls yX5_takePerson yX5_takePerson ∈ jm_tb := List.mem_filter.mpr ⟨List.mem_of_getElem? (i := 414) (by decide +kernel), by decide +kernel⟩
theorem tw_415 : Cond.code yX5_takePerson cX5_takePerson 4 (some .boolean) ∈ jm_tb := List.mem_filter.mpr ⟨List.mem_of_getElem? (i := 415) (by decide +kernel), by decide +kernel⟩
theorem qX5_73 : jm_CV "WeighedInBooks$Statements" 73 yX5_takePerson cX5_takePerson 4 (some .boolean) 0 := ⟨tw_412, tw_413, tw_414, tw_85, tw_415, by decide, by decide, by decide +kernel⟩
theorem tw_451 : Cond.methodLink "WeighedInBooks$Statements" 79 yX5_takeReading ∈ jm_tb := List.mem_filter.mpr ⟨List.mem_of_getElem? (i := 451) (by decide +kernel), by decide +kernel⟩
theorem tw_452 : Cond.instanceMethod yX5_takeReading ∈ jm_tb := List.mem_filter.mpr ⟨List.mem_of_getElem? (i := 452) (by decide +kernel), by decide +kernel⟩
theorem tw_453 : Cond.selects yX5_takeReading.cls yX5_takeReading yX5_takeReading ∈ jm_tb := List.mem_filter.mpr ⟨List.mem_of_getElem? (i := 453) (by decide +kernel), by decide +kernel⟩
theorem tw_454 : Cond.code yX5_takeReading cX5_takeReading 3 (some .boolean) ∈ jm_tb := List.mem_filter.mpr ⟨List.mem_of_getElem? (i := 454) (by decide +kernel), by decide +kernel⟩
theorem qX5_79 : jm_CV "WeighedInBooks$Statements" 79 yX5_takeReading cX5_takeReading 3 (some .boolean) 0 := ⟨tw_451, tw_452, tw_453, tw_85, tw_454, by decide, by decide, by decide +kernel⟩
theorem tw_472 : Cond.methodLink "WeighedInBooks$Statements" 88 yX5_takeWeeks ∈ jm_tb := List.mem_filter.mpr ⟨List.mem_of_getElem? (i := 472) (by decide +kernel), by decide +kernel⟩
theorem tw_473 : Cond.instanceMethod yX5_takeWeeks ∈ jm_tb := List.mem_filter.mpr ⟨List.mem_of_getElem? (i := 473) (by decide +kernel), by decide +kernel⟩
theorem tw_474 : Cond.selects yX5_takeWeeks.cls yX5_takeWeeks yX5_takeWeeks ∈ jm_tb := List.mem_filter.mpr ⟨List.mem_of_getElem? (i := 474) (by decide +kernel), by decide +kernel⟩
theorem tw_475 : Cond.code yX5_takeWeeks cX5_takeWeeks 2 (some .boolean) ∈ jm_tb := List.mem_filter.mpr ⟨List.mem_of_getElem? (i := 475) (by decide +kernel), by decide +kernel⟩
theorem qX5_88 : jm_CV "WeighedInBooks$Statements" 88 yX5_takeWeeks cX5_takeWeeks 2 (some .boolean) 0 := ⟨tw_472, tw_473, tw_474, tw_85, tw_475, by decide, by decide, by decide +kernel⟩
theorem tw_359 : Cond.methodLink "WeighedInBooks$Statements" 26 yX5_canBeRead ∈ jm_tb := List.mem_filter.mpr ⟨List.mem_of_getElem? (i := 359) (by decide +kernel), by decide +kernel⟩
theorem tw_360 : Cond.instanceMethod yX5_canBeRead ∈ jm_tb := List.mem_filter.mpr ⟨List.mem_of_getElem? (i := 360) (by decide +kernel), by decide +kernel⟩
theorem tw_361 : Cond.selects yX5_canBeRead.cls yX5_canBeRead yX5_canBeRead ∈ jm_tb := List.mem_filter.mpr ⟨List.mem_of_getElem? (i := 361) (by decide +kernel), by decide +kernel⟩
theorem tw_362 : Cond.code yX5_canBeRead cX5_canBeRead 3 (some .boolean) ∈ jm_tb := List.mem_filter.mpr ⟨List.mem_of_getElem? (i := 362) (by decide +kernel), by decide +kernel⟩
theorem qX5_26 : jm_CV "WeighedInBooks$Statements" 26 yX5_canBeRead cX5_canBeRead 3 (some .boolean) 0 := ⟨tw_359, tw_360, tw_361, tw_85, tw_362, by decide, by decide, by decide +kernel⟩
theorem tw_401 : Cond.methodLink "WeighedInBooks$Statements" 33 yX7_copyFrom ∈ jm_tb := List.mem_filter.mpr ⟨List.mem_of_getElem? (i := 401) (by decide +kernel), by decide +kernel⟩
theorem tw_402 : Cond.instanceMethod yX7_copyFrom ∈ jm_tb := List.mem_filter.mpr ⟨List.mem_of_getElem? (i := 402) (by decide +kernel), by decide +kernel⟩
theorem tw_403 : Cond.selects yX7_copyFrom.cls yX7_copyFrom yX7_copyFrom ∈ jm_tb := List.mem_filter.mpr ⟨List.mem_of_getElem? (i := 403) (by decide +kernel), by decide +kernel⟩
theorem tw_404 : Cond.code yX7_copyFrom cX7_copyFrom 2 none ∈ jm_tb := List.mem_filter.mpr ⟨List.mem_of_getElem? (i := 404) (by decide +kernel), by decide +kernel⟩
theorem qX5_33 : jm_CV "WeighedInBooks$Statements" 33 yX7_copyFrom cX7_copyFrom 2 none 1 := ⟨tw_401, tw_402, tw_403, tw_83, tw_404, by decide, by decide, by decide +kernel⟩
theorem tw_408 : Cond.methodLink "WeighedInBooks$Statements" 41 yX5_takeBody ∈ jm_tb := List.mem_filter.mpr ⟨List.mem_of_getElem? (i := 408) (by decide +kernel), by decide +kernel⟩
theorem tw_409 : Cond.instanceMethod yX5_takeBody ∈ jm_tb := List.mem_filter.mpr ⟨List.mem_of_getElem? (i := 409) (by decide +kernel), by decide +kernel⟩
theorem tw_410 : Cond.selects yX5_takeBody.cls yX5_takeBody yX5_takeBody ∈ jm_tb := List.mem_filter.mpr ⟨List.mem_of_getElem? (i := 410) (by decide +kernel), by decide +kernel⟩
theorem tw_411 : Cond.code yX5_takeBody cX5_takeBody 2 (some .boolean) ∈ jm_tb := List.mem_filter.mpr ⟨List.mem_of_getElem? (i := 411) (by decide +kernel), by decide +kernel⟩
theorem qX5_41 : jm_CV "WeighedInBooks$Statements" 41 yX5_takeBody cX5_takeBody 2 (some .boolean) 1 := ⟨tw_408, tw_409, tw_410, tw_85, tw_411, by decide, by decide, by decide +kernel⟩
theorem tw_195 : Cond.fieldLink "WeighedInBooks$Past" 22 "WeighedInBooks$Past" "many" "I" ∈ jm_tb := List.mem_filter.mpr ⟨List.mem_of_getElem? (i := 195) (by decide +kernel), by decide +kernel⟩
theorem fp_X4_22 : jm_Fp "WeighedInBooks$Past" 22 3 2 .int := ⟨_, _, _, tyX4, rfl, by decide, inX4, tw_195, tyX4_ok, nmX4, rfl, by decide +kernel⟩
theorem tw_302 : Cond.fieldLink "WeighedInBooks" 10 "WeighedInBooks" "now" "LWeighedInBooks$Town;" ∈ jm_tb := List.mem_filter.mpr ⟨List.mem_of_getElem? (i := 302) (by decide +kernel), by decide +kernel⟩
theorem fl_X8_10 : jm_Fl "WeighedInBooks" 10 6 0 := ⟨_, _, _, rfl, by decide, inX8, tw_302⟩
theorem tw_355 : Cond.methodLink "WeighedInBooks" 75 yX5_tellTo ∈ jm_tb := List.mem_filter.mpr ⟨List.mem_of_getElem? (i := 355) (by decide +kernel), by decide +kernel⟩
theorem tw_356 : Cond.instanceMethod yX5_tellTo ∈ jm_tb := List.mem_filter.mpr ⟨List.mem_of_getElem? (i := 356) (by decide +kernel), by decide +kernel⟩
theorem tw_357 : Cond.selects yX5_tellTo.cls yX5_tellTo yX5_tellTo ∈ jm_tb := List.mem_filter.mpr ⟨List.mem_of_getElem? (i := 357) (by decide +kernel), by decide +kernel⟩
theorem tw_358 : Cond.code yX5_tellTo cX5_tellTo 5 (some .int) ∈ jm_tb := List.mem_filter.mpr ⟨List.mem_of_getElem? (i := 358) (by decide +kernel), by decide +kernel⟩
theorem qX8_75 : jm_CV "WeighedInBooks" 75 yX5_tellTo cX5_tellTo 5 (some .int) 1 := ⟨tw_355, tw_356, tw_357, tw_85, tw_358, by decide, by decide, by decide +kernel⟩
theorem fp_X8_68 : jm_Fp "WeighedInBooks" 68 4 1 .int := ⟨_, _, _, tyX5, rfl, by decide, inX5, tw_214, tyX5_ok, nmX5, rfl, by decide +kernel⟩
theorem tw_303 : Cond.fieldLink "WeighedInBooks" 19 "WeighedInBooks" "past" "LWeighedInBooks$Past;" ∈ jm_tb := List.mem_filter.mpr ⟨List.mem_of_getElem? (i := 303) (by decide +kernel), by decide +kernel⟩
theorem fl_X8_19 : jm_Fl "WeighedInBooks" 19 6 1 := ⟨_, _, _, rfl, by decide, inX8, tw_303⟩
theorem tw_495 : Cond.methodLink "WeighedInBooks" 79 yX4_forget ∈ jm_tb := List.mem_filter.mpr ⟨List.mem_of_getElem? (i := 495) (by decide +kernel), by decide +kernel⟩
theorem tw_496 : Cond.instanceMethod yX4_forget ∈ jm_tb := List.mem_filter.mpr ⟨List.mem_of_getElem? (i := 496) (by decide +kernel), by decide +kernel⟩
theorem tw_497 : Cond.selects yX4_forget.cls yX4_forget yX4_forget ∈ jm_tb := List.mem_filter.mpr ⟨List.mem_of_getElem? (i := 497) (by decide +kernel), by decide +kernel⟩
theorem tw_84 : Cond.initialized yX4_forget.cls ∈ jm_tb := List.mem_filter.mpr ⟨List.mem_of_getElem? (i := 84) (by decide +kernel), by decide +kernel⟩
theorem tw_498 : Cond.code yX4_forget cX4_forget 1 none ∈ jm_tb := List.mem_filter.mpr ⟨List.mem_of_getElem? (i := 498) (by decide +kernel), by decide +kernel⟩
theorem qX8_79 : jm_CV "WeighedInBooks" 79 yX4_forget cX4_forget 1 none 0 := ⟨tw_495, tw_496, tw_497, tw_84, tw_498, by decide, by decide, by decide +kernel⟩
theorem tw_111 : Cond.fieldLink "WeighedInBooks" 82 "WeighedInBooks$Town" "people" "I" ∈ jm_tb := List.mem_filter.mpr ⟨List.mem_of_getElem? (i := 111) (by decide +kernel), by decide +kernel⟩
theorem fl_X8_82 : jm_Fl "WeighedInBooks" 82 5 0 := ⟨_, _, _, rfl, by decide, inX7, tw_111⟩
theorem tw_503 : Cond.methodLink "WeighedInBooks" 85 yX7_addPerson ∈ jm_tb := List.mem_filter.mpr ⟨List.mem_of_getElem? (i := 503) (by decide +kernel), by decide +kernel⟩
theorem qX8_85 : jm_CV "WeighedInBooks" 85 yX7_addPerson cX7_addPerson 5 (some .int) 3 := ⟨tw_503, tw_421, tw_422, tw_83, tw_423, by decide, by decide, by decide +kernel⟩
theorem tw_512 : Cond.methodLink "WeighedInBooks$Titles" 7 yX6_longer ∈ jm_tb := List.mem_filter.mpr ⟨List.mem_of_getElem? (i := 512) (by decide +kernel), by decide +kernel⟩
theorem qX6_7 : jm_CS "WeighedInBooks$Titles" 7 yX6_longer cX6_longer 5 (some .int) 3 := ⟨tw_512, tw_433, tw_91, tw_434, by decide, by decide, by decide +kernel⟩
theorem tw_122 : Cond.fieldLink "WeighedInBooks" 89 "WeighedInBooks$Town" "books" "I" ∈ jm_tb := List.mem_filter.mpr ⟨List.mem_of_getElem? (i := 122) (by decide +kernel), by decide +kernel⟩
theorem fl_X8_89 : jm_Fl "WeighedInBooks" 89 5 4 := ⟨_, _, _, rfl, by decide, inX7, tw_122⟩
theorem tw_508 : Cond.methodLink "WeighedInBooks" 92 yX7_hasKeeper ∈ jm_tb := List.mem_filter.mpr ⟨List.mem_of_getElem? (i := 508) (by decide +kernel), by decide +kernel⟩
theorem qX8_92 : jm_CV "WeighedInBooks" 92 yX7_hasKeeper cX7_hasKeeper 2 (some .boolean) 1 := ⟨tw_508, tw_436, tw_437, tw_83, tw_438, by decide, by decide, by decide +kernel⟩
theorem tw_509 : Cond.methodLink "WeighedInBooks" 96 yX6_ofLetter ∈ jm_tb := List.mem_filter.mpr ⟨List.mem_of_getElem? (i := 509) (by decide +kernel), by decide +kernel⟩
theorem tw_510 : Cond.static yX6_ofLetter ∈ jm_tb := List.mem_filter.mpr ⟨List.mem_of_getElem? (i := 510) (by decide +kernel), by decide +kernel⟩
theorem tw_511 : Cond.code yX6_ofLetter cX6_ofLetter 1 (some .int) ∈ jm_tb := List.mem_filter.mpr ⟨List.mem_of_getElem? (i := 511) (by decide +kernel), by decide +kernel⟩
theorem qX8_96 : jm_CS "WeighedInBooks" 96 yX6_ofLetter cX6_ofLetter 1 (some .int) 1 := ⟨tw_509, tw_510, tw_91, tw_511, by decide, by decide, by decide +kernel⟩
theorem tw_513 : Cond.methodLink "WeighedInBooks" 101 yX7_bookWithTitle ∈ jm_tb := List.mem_filter.mpr ⟨List.mem_of_getElem? (i := 513) (by decide +kernel), by decide +kernel⟩
theorem qX8_101 : jm_CV "WeighedInBooks" 101 yX7_bookWithTitle cX7_bookWithTitle 3 (some .int) 1 := ⟨tw_513, tw_444, tw_445, tw_83, tw_446, by decide, by decide, by decide +kernel⟩
theorem tw_514 : Cond.methodLink "WeighedInBooks" 104 yX7_addBook ∈ jm_tb := List.mem_filter.mpr ⟨List.mem_of_getElem? (i := 514) (by decide +kernel), by decide +kernel⟩
theorem qX8_104 : jm_CV "WeighedInBooks" 104 yX7_addBook cX7_addBook 6 (some .int) 4 := ⟨tw_514, tw_448, tw_449, tw_83, tw_450, by decide, by decide, by decide +kernel⟩
theorem tw_524 : Cond.methodLink "WeighedInBooks$Town" 123 yX7_booksReadBy ∈ jm_tb := List.mem_filter.mpr ⟨List.mem_of_getElem? (i := 524) (by decide +kernel), by decide +kernel⟩
theorem tw_525 : Cond.instanceMethod yX7_booksReadBy ∈ jm_tb := List.mem_filter.mpr ⟨List.mem_of_getElem? (i := 525) (by decide +kernel), by decide +kernel⟩
theorem tw_526 : Cond.selects yX7_booksReadBy.cls yX7_booksReadBy yX7_booksReadBy ∈ jm_tb := List.mem_filter.mpr ⟨List.mem_of_getElem? (i := 526) (by decide +kernel), by decide +kernel⟩
theorem tw_527 : Cond.code yX7_booksReadBy cX7_booksReadBy 4 (some .int) ∈ jm_tb := List.mem_filter.mpr ⟨List.mem_of_getElem? (i := 527) (by decide +kernel), by decide +kernel⟩
theorem qX7_123 : jm_CV "WeighedInBooks$Town" 123 yX7_booksReadBy cX7_booksReadBy 4 (some .int) 1 := ⟨tw_524, tw_525, tw_526, tw_83, tw_527, by decide, by decide, by decide +kernel⟩
theorem tw_528 : Cond.methodLink "WeighedInBooks$Town" 68 yJ6_bitCount_0f7a4 ∈ jm_tb := List.mem_filter.mpr ⟨List.mem_of_getElem? (i := 528) (by decide +kernel), by decide +kernel⟩
theorem tw_529 : Cond.static yJ6_bitCount_0f7a4 ∈ jm_tb := List.mem_filter.mpr ⟨List.mem_of_getElem? (i := 529) (by decide +kernel), by decide +kernel⟩
theorem tw_93 : Cond.initialized yJ6_bitCount_0f7a4.cls ∈ jm_tb := List.mem_filter.mpr ⟨List.mem_of_getElem? (i := 93) (by decide +kernel), by decide +kernel⟩
theorem tw_530 : Cond.code yJ6_bitCount_0f7a4 cJ6_bitCount_0f7a4 1 (some .int) ∈ jm_tb := List.mem_filter.mpr ⟨List.mem_of_getElem? (i := 530) (by decide +kernel), by decide +kernel⟩
theorem qX7_68 : jm_CS "WeighedInBooks$Town" 68 yJ6_bitCount_0f7a4 cJ6_bitCount_0f7a4 1 (some .int) 1 := ⟨tw_528, tw_529, tw_93, tw_530, by decide, by decide, by decide +kernel⟩
theorem tw_519 : Cond.methodLink "WeighedInBooks" 108 yX7_hasPerson ∈ jm_tb := List.mem_filter.mpr ⟨List.mem_of_getElem? (i := 519) (by decide +kernel), by decide +kernel⟩
theorem qX8_108 : jm_CV "WeighedInBooks" 108 yX7_hasPerson cX7_hasPerson 2 (some .boolean) 1 := ⟨tw_519, tw_440, tw_441, tw_83, tw_442, by decide, by decide, by decide +kernel⟩
theorem tw_115 : Cond.fieldLink "WeighedInBooks" 111 "WeighedInBooks$Town" "weight" "[I" ∈ jm_tb := List.mem_filter.mpr ⟨List.mem_of_getElem? (i := 115) (by decide +kernel), by decide +kernel⟩
theorem fl_X8_111 : jm_Fl "WeighedInBooks" 111 5 1 := ⟨_, _, _, rfl, by decide, inX7, tw_115⟩
theorem tw_117 : Cond.fieldLink "WeighedInBooks" 114 "WeighedInBooks$Town" "appetite" "[I" ∈ jm_tb := List.mem_filter.mpr ⟨List.mem_of_getElem? (i := 117) (by decide +kernel), by decide +kernel⟩
theorem fl_X8_114 : jm_Fl "WeighedInBooks" 114 5 2 := ⟨_, _, _, rfl, by decide, inX7, tw_117⟩
theorem tw_119 : Cond.fieldLink "WeighedInBooks" 117 "WeighedInBooks$Town" "purse" "[I" ∈ jm_tb := List.mem_filter.mpr ⟨List.mem_of_getElem? (i := 119) (by decide +kernel), by decide +kernel⟩
theorem fl_X8_117 : jm_Fl "WeighedInBooks" 117 5 3 := ⟨_, _, _, rfl, by decide, inX7, tw_119⟩
theorem tw_520 : Cond.methodLink "WeighedInBooks" 120 yX7_readingsOf ∈ jm_tb := List.mem_filter.mpr ⟨List.mem_of_getElem? (i := 520) (by decide +kernel), by decide +kernel⟩
theorem tw_521 : Cond.instanceMethod yX7_readingsOf ∈ jm_tb := List.mem_filter.mpr ⟨List.mem_of_getElem? (i := 521) (by decide +kernel), by decide +kernel⟩
theorem tw_522 : Cond.selects yX7_readingsOf.cls yX7_readingsOf yX7_readingsOf ∈ jm_tb := List.mem_filter.mpr ⟨List.mem_of_getElem? (i := 522) (by decide +kernel), by decide +kernel⟩
theorem tw_523 : Cond.code yX7_readingsOf cX7_readingsOf 2 (some .int) ∈ jm_tb := List.mem_filter.mpr ⟨List.mem_of_getElem? (i := 523) (by decide +kernel), by decide +kernel⟩
theorem qX8_120 : jm_CV "WeighedInBooks" 120 yX7_readingsOf cX7_readingsOf 2 (some .int) 1 := ⟨tw_520, tw_521, tw_522, tw_83, tw_523, by decide, by decide, by decide +kernel⟩
theorem tw_135 : Cond.fieldLink "WeighedInBooks" 123 "WeighedInBooks$Town" "holder" "[I" ∈ jm_tb := List.mem_filter.mpr ⟨List.mem_of_getElem? (i := 135) (by decide +kernel), by decide +kernel⟩
theorem fl_X8_123 : jm_Fl "WeighedInBooks" 123 5 8 := ⟨_, _, _, rfl, by decide, inX7, tw_135⟩
theorem tw_534 : Cond.methodLink "WeighedInBooks" 126 yX7_booksWith ∈ jm_tb := List.mem_filter.mpr ⟨List.mem_of_getElem? (i := 534) (by decide +kernel), by decide +kernel⟩
theorem tw_535 : Cond.instanceMethod yX7_booksWith ∈ jm_tb := List.mem_filter.mpr ⟨List.mem_of_getElem? (i := 535) (by decide +kernel), by decide +kernel⟩
theorem tw_536 : Cond.selects yX7_booksWith.cls yX7_booksWith yX7_booksWith ∈ jm_tb := List.mem_filter.mpr ⟨List.mem_of_getElem? (i := 536) (by decide +kernel), by decide +kernel⟩
theorem tw_537 : Cond.code yX7_booksWith cX7_booksWith 5 (some .int) ∈ jm_tb := List.mem_filter.mpr ⟨List.mem_of_getElem? (i := 537) (by decide +kernel), by decide +kernel⟩
theorem qX8_126 : jm_CV "WeighedInBooks" 126 yX7_booksWith cX7_booksWith 5 (some .int) 2 := ⟨tw_534, tw_535, tw_536, tw_83, tw_537, by decide, by decide, by decide +kernel⟩
theorem tw_133 : Cond.fieldLink "WeighedInBooks" 130 "WeighedInBooks$Town" "owner" "[I" ∈ jm_tb := List.mem_filter.mpr ⟨List.mem_of_getElem? (i := 133) (by decide +kernel), by decide +kernel⟩
theorem fl_X8_130 : jm_Fl "WeighedInBooks" 130 5 7 := ⟨_, _, _, rfl, by decide, inX7, tw_133⟩
theorem tw_547 : Cond.methodLink "WeighedInBooks$Town" 74 yX6_lengthOf ∈ jm_tb := List.mem_filter.mpr ⟨List.mem_of_getElem? (i := 547) (by decide +kernel), by decide +kernel⟩
theorem tw_548 : Cond.static yX6_lengthOf ∈ jm_tb := List.mem_filter.mpr ⟨List.mem_of_getElem? (i := 548) (by decide +kernel), by decide +kernel⟩
theorem tw_549 : Cond.code yX6_lengthOf cX6_lengthOf 3 (some .int) ∈ jm_tb := List.mem_filter.mpr ⟨List.mem_of_getElem? (i := 549) (by decide +kernel), by decide +kernel⟩
theorem qX7_74 : jm_CS "WeighedInBooks$Town" 74 yX6_lengthOf cX6_lengthOf 3 (some .int) 1 := ⟨tw_547, tw_548, tw_91, tw_549, by decide, by decide, by decide +kernel⟩
theorem tw_550 : Cond.methodLink "WeighedInBooks$Town" 79 Lib.Math.max.name ∈ jm_tb := List.mem_filter.mpr ⟨List.mem_of_getElem? (i := 550) (by decide +kernel), by decide +kernel⟩
theorem tw_551 : Cond.static Lib.Math.max.name ∈ jm_tb := List.mem_filter.mpr ⟨List.mem_of_getElem? (i := 551) (by decide +kernel), by decide +kernel⟩
theorem tw_552 : Cond.code Lib.Math.max.name Lib.Math.max.code 2 (some .int) ∈ jm_tb := List.mem_filter.mpr ⟨List.mem_of_getElem? (i := 552) (by decide +kernel), by decide +kernel⟩
theorem tw_542 : Cond.methodLink "WeighedInBooks" 133 yX7_hasBook ∈ jm_tb := List.mem_filter.mpr ⟨List.mem_of_getElem? (i := 542) (by decide +kernel), by decide +kernel⟩
theorem qX8_133 : jm_CV "WeighedInBooks" 133 yX7_hasBook cX7_hasBook 2 (some .boolean) 1 := ⟨tw_542, tw_457, tw_458, tw_83, tw_459, by decide, by decide, by decide +kernel⟩
theorem tw_126 : Cond.fieldLink "WeighedInBooks" 136 "WeighedInBooks$Town" "kind" "[I" ∈ jm_tb := List.mem_filter.mpr ⟨List.mem_of_getElem? (i := 126) (by decide +kernel), by decide +kernel⟩
theorem fl_X8_136 : jm_Fl "WeighedInBooks" 136 5 5 := ⟨_, _, _, rfl, by decide, inX7, tw_126⟩
theorem tw_129 : Cond.fieldLink "WeighedInBooks" 139 "WeighedInBooks$Town" "figure" "[I" ∈ jm_tb := List.mem_filter.mpr ⟨List.mem_of_getElem? (i := 129) (by decide +kernel), by decide +kernel⟩
theorem fl_X8_139 : jm_Fl "WeighedInBooks" 139 5 6 := ⟨_, _, _, rfl, by decide, inX7, tw_129⟩
theorem tw_139 : Cond.fieldLink "WeighedInBooks" 142 "WeighedInBooks$Town" "readers" "[I" ∈ jm_tb := List.mem_filter.mpr ⟨List.mem_of_getElem? (i := 139) (by decide +kernel), by decide +kernel⟩
theorem fl_X8_142 : jm_Fl "WeighedInBooks" 142 5 9 := ⟨_, _, _, rfl, by decide, inX7, tw_139⟩
theorem tw_543 : Cond.methodLink "WeighedInBooks" 145 yX7_weighs ∈ jm_tb := List.mem_filter.mpr ⟨List.mem_of_getElem? (i := 543) (by decide +kernel), by decide +kernel⟩
theorem tw_544 : Cond.instanceMethod yX7_weighs ∈ jm_tb := List.mem_filter.mpr ⟨List.mem_of_getElem? (i := 544) (by decide +kernel), by decide +kernel⟩
theorem tw_545 : Cond.selects yX7_weighs.cls yX7_weighs yX7_weighs ∈ jm_tb := List.mem_filter.mpr ⟨List.mem_of_getElem? (i := 545) (by decide +kernel), by decide +kernel⟩
theorem tw_546 : Cond.code yX7_weighs cX7_weighs 8 (some .int) ∈ jm_tb := List.mem_filter.mpr ⟨List.mem_of_getElem? (i := 546) (by decide +kernel), by decide +kernel⟩
theorem qX8_145 : jm_CV "WeighedInBooks" 145 yX7_weighs cX7_weighs 8 (some .int) 1 := ⟨tw_543, tw_544, tw_545, tw_83, tw_546, by decide, by decide, by decide +kernel⟩
theorem tw_553 : Cond.methodLink "WeighedInBooks" 148 yX7_priceOf ∈ jm_tb := List.mem_filter.mpr ⟨List.mem_of_getElem? (i := 553) (by decide +kernel), by decide +kernel⟩
theorem tw_554 : Cond.instanceMethod yX7_priceOf ∈ jm_tb := List.mem_filter.mpr ⟨List.mem_of_getElem? (i := 554) (by decide +kernel), by decide +kernel⟩
theorem tw_555 : Cond.selects yX7_priceOf.cls yX7_priceOf yX7_priceOf ∈ jm_tb := List.mem_filter.mpr ⟨List.mem_of_getElem? (i := 555) (by decide +kernel), by decide +kernel⟩
theorem tw_556 : Cond.code yX7_priceOf cX7_priceOf 6 (some .int) ∈ jm_tb := List.mem_filter.mpr ⟨List.mem_of_getElem? (i := 556) (by decide +kernel), by decide +kernel⟩
theorem qX8_148 : jm_CV "WeighedInBooks" 148 yX7_priceOf cX7_priceOf 6 (some .int) 1 := ⟨tw_553, tw_554, tw_555, tw_83, tw_556, by decide, by decide, by decide +kernel⟩
theorem tw_143 : Cond.fieldLink "WeighedInBooks" 151 "WeighedInBooks$Town" "title" "[I" ∈ jm_tb := List.mem_filter.mpr ⟨List.mem_of_getElem? (i := 143) (by decide +kernel), by decide +kernel⟩
theorem fl_X8_151 : jm_Fl "WeighedInBooks" 151 5 10 := ⟨_, _, _, rfl, by decide, inX7, tw_143⟩
theorem tw_557 : Cond.methodLink "WeighedInBooks" 154 yX6_lengthOf ∈ jm_tb := List.mem_filter.mpr ⟨List.mem_of_getElem? (i := 557) (by decide +kernel), by decide +kernel⟩
theorem qX8_154 : jm_CS "WeighedInBooks" 154 yX6_lengthOf cX6_lengthOf 3 (some .int) 1 := ⟨tw_557, tw_548, tw_91, tw_549, by decide, by decide, by decide +kernel⟩
theorem tw_562 : Cond.methodLink "WeighedInBooks" 157 yX6_letterAt ∈ jm_tb := List.mem_filter.mpr ⟨List.mem_of_getElem? (i := 562) (by decide +kernel), by decide +kernel⟩
theorem tw_563 : Cond.static yX6_letterAt ∈ jm_tb := List.mem_filter.mpr ⟨List.mem_of_getElem? (i := 563) (by decide +kernel), by decide +kernel⟩
theorem tw_564 : Cond.code yX6_letterAt cX6_letterAt 4 (some .int) ∈ jm_tb := List.mem_filter.mpr ⟨List.mem_of_getElem? (i := 564) (by decide +kernel), by decide +kernel⟩
theorem qX8_157 : jm_CS "WeighedInBooks" 157 yX6_letterAt cX6_letterAt 4 (some .int) 2 := ⟨tw_562, tw_563, tw_91, tw_564, by decide, by decide, by decide +kernel⟩
theorem tw_194 : Cond.fieldLink "WeighedInBooks$Past" 17 "WeighedInBooks$Past" "latest" "I" ∈ jm_tb := List.mem_filter.mpr ⟨List.mem_of_getElem? (i := 194) (by decide +kernel), by decide +kernel⟩
theorem fl_X4_17 : jm_Fl "WeighedInBooks$Past" 17 3 1 := ⟨_, _, _, rfl, by decide, inX4, tw_194⟩
theorem fp_X4_17 : jm_Fp "WeighedInBooks$Past" 17 3 1 .int := ⟨_, _, _, tyX4, rfl, by decide, inX4, tw_194, tyX4_ok, nmX4, rfl, by decide +kernel⟩
theorem fl_X4_22 : jm_Fl "WeighedInBooks$Past" 22 3 2 := ⟨_, _, _, rfl, by decide, inX4, tw_195⟩
theorem tw_573 : Cond.methodLink "WeighedInBooks$Past" 25 Lib.Math.min.name ∈ jm_tb := List.mem_filter.mpr ⟨List.mem_of_getElem? (i := 573) (by decide +kernel), by decide +kernel⟩
theorem tw_193 : Cond.fieldLink "WeighedInBooks$Past" 11 "WeighedInBooks$Past" "kept" "[LWeighedInBooks$Town;" ∈ jm_tb := List.mem_filter.mpr ⟨List.mem_of_getElem? (i := 193) (by decide +kernel), by decide +kernel⟩
theorem fl_X4_11 : jm_Fl "WeighedInBooks$Past" 11 3 0 := ⟨_, _, _, rfl, by decide, inX4, tw_193⟩
theorem tw_574 : Cond.methodLink "WeighedInBooks$Past" 31 yX7_copyFrom ∈ jm_tb := List.mem_filter.mpr ⟨List.mem_of_getElem? (i := 574) (by decide +kernel), by decide +kernel⟩
theorem qX4_31 : jm_CV "WeighedInBooks$Past" 31 yX7_copyFrom cX7_copyFrom 2 none 1 := ⟨tw_574, tw_402, tw_403, tw_83, tw_404, by decide, by decide, by decide +kernel⟩
theorem tw_569 : Cond.methodLink "WeighedInBooks" 161 yX4_keep ∈ jm_tb := List.mem_filter.mpr ⟨List.mem_of_getElem? (i := 569) (by decide +kernel), by decide +kernel⟩
theorem tw_570 : Cond.instanceMethod yX4_keep ∈ jm_tb := List.mem_filter.mpr ⟨List.mem_of_getElem? (i := 570) (by decide +kernel), by decide +kernel⟩
theorem tw_571 : Cond.selects yX4_keep.cls yX4_keep yX4_keep ∈ jm_tb := List.mem_filter.mpr ⟨List.mem_of_getElem? (i := 571) (by decide +kernel), by decide +kernel⟩
theorem tw_572 : Cond.code yX4_keep cX4_keep 3 none ∈ jm_tb := List.mem_filter.mpr ⟨List.mem_of_getElem? (i := 572) (by decide +kernel), by decide +kernel⟩
theorem qX8_161 : jm_CV "WeighedInBooks" 161 yX4_keep cX4_keep 3 none 1 := ⟨tw_569, tw_570, tw_571, tw_84, tw_572, by decide, by decide, by decide +kernel⟩
theorem tw_579 : Cond.methodLink "WeighedInBooks" 165 yX7_hasRead ∈ jm_tb := List.mem_filter.mpr ⟨List.mem_of_getElem? (i := 579) (by decide +kernel), by decide +kernel⟩
theorem qX8_165 : jm_CV "WeighedInBooks" 165 yX7_hasRead cX7_hasRead 3 (some .int) 2 := ⟨tw_579, tw_492, tw_493, tw_83, tw_494, by decide, by decide, by decide +kernel⟩
theorem tw_148 : Cond.fieldLink "WeighedInBooks" 168 "WeighedInBooks$Town" "steps" "I" ∈ jm_tb := List.mem_filter.mpr ⟨List.mem_of_getElem? (i := 148) (by decide +kernel), by decide +kernel⟩
theorem fl_X8_168 : jm_Fl "WeighedInBooks" 168 5 12 := ⟨_, _, _, rfl, by decide, inX7, tw_148⟩
theorem tw_592 : Cond.methodLink "WeighedInBooks" 171 yX7_addStep ∈ jm_tb := List.mem_filter.mpr ⟨List.mem_of_getElem? (i := 592) (by decide +kernel), by decide +kernel⟩
theorem qX8_171 : jm_CV "WeighedInBooks" 171 yX7_addStep cX7_addStep 3 none 2 := ⟨tw_592, tw_469, tw_470, tw_83, tw_471, by decide, by decide, by decide +kernel⟩
theorem fp_X8_168 : jm_Fp "WeighedInBooks" 168 5 12 .int := ⟨_, _, _, tyX7, rfl, by decide, inX7, tw_148, tyX7_ok, nmX7, rfl, by decide +kernel⟩
theorem tw_145 : Cond.fieldLink "WeighedInBooks" 175 "WeighedInBooks$Town" "week" "I" ∈ jm_tb := List.mem_filter.mpr ⟨List.mem_of_getElem? (i := 145) (by decide +kernel), by decide +kernel⟩
theorem fl_X8_175 : jm_Fl "WeighedInBooks" 175 5 11 := ⟨_, _, _, rfl, by decide, inX7, tw_145⟩
theorem tw_601 : Cond.methodLink "WeighedInBooks" 178 yX7_weeksPass ∈ jm_tb := List.mem_filter.mpr ⟨List.mem_of_getElem? (i := 601) (by decide +kernel), by decide +kernel⟩
theorem qX8_178 : jm_CV "WeighedInBooks" 178 yX7_weeksPass cX7_weeksPass 3 none 1 := ⟨tw_601, tw_477, tw_478, tw_83, tw_479, by decide, by decide, by decide +kernel⟩
theorem tw_196 : Cond.fieldLink "WeighedInBooks" 182 "WeighedInBooks$Past" "many" "I" ∈ jm_tb := List.mem_filter.mpr ⟨List.mem_of_getElem? (i := 196) (by decide +kernel), by decide +kernel⟩
theorem fl_X8_182 : jm_Fl "WeighedInBooks" 182 3 2 := ⟨_, _, _, rfl, by decide, inX4, tw_196⟩
theorem tw_606 : Cond.methodLink "WeighedInBooks" 185 yX4_giveBack ∈ jm_tb := List.mem_filter.mpr ⟨List.mem_of_getElem? (i := 606) (by decide +kernel), by decide +kernel⟩
theorem tw_607 : Cond.instanceMethod yX4_giveBack ∈ jm_tb := List.mem_filter.mpr ⟨List.mem_of_getElem? (i := 607) (by decide +kernel), by decide +kernel⟩
theorem tw_608 : Cond.selects yX4_giveBack.cls yX4_giveBack yX4_giveBack ∈ jm_tb := List.mem_filter.mpr ⟨List.mem_of_getElem? (i := 608) (by decide +kernel), by decide +kernel⟩
theorem tw_609 : Cond.code yX4_giveBack cX4_giveBack 3 none ∈ jm_tb := List.mem_filter.mpr ⟨List.mem_of_getElem? (i := 609) (by decide +kernel), by decide +kernel⟩
theorem qX8_185 : jm_CV "WeighedInBooks" 185 yX4_giveBack cX4_giveBack 3 none 1 := ⟨tw_606, tw_607, tw_608, tw_84, tw_609, by decide, by decide, by decide +kernel⟩
theorem tw_631 : Cond.methodLink "WeighedInBooks$Town" 88 yX7_weighs ∈ jm_tb := List.mem_filter.mpr ⟨List.mem_of_getElem? (i := 631) (by decide +kernel), by decide +kernel⟩
theorem qX7_88 : jm_CV "WeighedInBooks$Town" 88 yX7_weighs cX7_weighs 8 (some .int) 1 := ⟨tw_631, tw_544, tw_545, tw_83, tw_546, by decide, by decide, by decide +kernel⟩
theorem tw_632 : Cond.methodLink "WeighedInBooks$Town" 91 yX7_stepped ∈ jm_tb := List.mem_filter.mpr ⟨List.mem_of_getElem? (i := 632) (by decide +kernel), by decide +kernel⟩
theorem tw_633 : Cond.instanceMethod yX7_stepped ∈ jm_tb := List.mem_filter.mpr ⟨List.mem_of_getElem? (i := 633) (by decide +kernel), by decide +kernel⟩
theorem tw_634 : Cond.selects yX7_stepped.cls yX7_stepped yX7_stepped ∈ jm_tb := List.mem_filter.mpr ⟨List.mem_of_getElem? (i := 634) (by decide +kernel), by decide +kernel⟩
theorem tw_635 : Cond.code yX7_stepped cX7_stepped 5 (some .int) ∈ jm_tb := List.mem_filter.mpr ⟨List.mem_of_getElem? (i := 635) (by decide +kernel), by decide +kernel⟩
theorem qX7_91 : jm_CV "WeighedInBooks$Town" 91 yX7_stepped cX7_stepped 5 (some .int) 3 := ⟨tw_632, tw_633, tw_634, tw_83, tw_635, by decide, by decide, by decide +kernel⟩
theorem tw_623 : Cond.methodLink "WeighedInBooks$Town" 98 yX7_isOnPan ∈ jm_tb := List.mem_filter.mpr ⟨List.mem_of_getElem? (i := 623) (by decide +kernel), by decide +kernel⟩
theorem tw_624 : Cond.instanceMethod yX7_isOnPan ∈ jm_tb := List.mem_filter.mpr ⟨List.mem_of_getElem? (i := 624) (by decide +kernel), by decide +kernel⟩
theorem tw_625 : Cond.selects yX7_isOnPan.cls yX7_isOnPan yX7_isOnPan ∈ jm_tb := List.mem_filter.mpr ⟨List.mem_of_getElem? (i := 625) (by decide +kernel), by decide +kernel⟩
theorem tw_626 : Cond.code yX7_isOnPan cX7_isOnPan 4 (some .boolean) ∈ jm_tb := List.mem_filter.mpr ⟨List.mem_of_getElem? (i := 626) (by decide +kernel), by decide +kernel⟩
theorem qX7_98 : jm_CV "WeighedInBooks$Town" 98 yX7_isOnPan cX7_isOnPan 4 (some .boolean) 3 := ⟨tw_623, tw_624, tw_625, tw_83, tw_626, by decide, by decide, by decide +kernel⟩
theorem tw_627 : Cond.methodLink "WeighedInBooks$Town" 102 yX7_comesTo ∈ jm_tb := List.mem_filter.mpr ⟨List.mem_of_getElem? (i := 627) (by decide +kernel), by decide +kernel⟩
theorem tw_628 : Cond.instanceMethod yX7_comesTo ∈ jm_tb := List.mem_filter.mpr ⟨List.mem_of_getElem? (i := 628) (by decide +kernel), by decide +kernel⟩
theorem tw_629 : Cond.selects yX7_comesTo.cls yX7_comesTo yX7_comesTo ∈ jm_tb := List.mem_filter.mpr ⟨List.mem_of_getElem? (i := 629) (by decide +kernel), by decide +kernel⟩
theorem tw_630 : Cond.code yX7_comesTo cX7_comesTo 7 (some .int) ∈ jm_tb := List.mem_filter.mpr ⟨List.mem_of_getElem? (i := 630) (by decide +kernel), by decide +kernel⟩
theorem qX7_102 : jm_CV "WeighedInBooks$Town" 102 yX7_comesTo cX7_comesTo 7 (some .int) 3 := ⟨tw_627, tw_628, tw_629, tw_83, tw_630, by decide, by decide, by decide +kernel⟩
theorem tw_614 : Cond.methodLink "WeighedInBooks" 188 yX8_areTwo ∈ jm_tb := List.mem_filter.mpr ⟨List.mem_of_getElem? (i := 614) (by decide +kernel), by decide +kernel⟩
theorem tw_616 : Cond.instanceMethod yX8_areTwo ∈ jm_tb := List.mem_filter.mpr ⟨List.mem_of_getElem? (i := 616) (by decide +kernel), by decide +kernel⟩
theorem tw_1 : Cond.selects yX8_areTwo.cls yX8_areTwo yX8_areTwo ∈ jm_tb := List.mem_filter.mpr ⟨List.mem_of_getElem? (i := 1) (by decide +kernel), by decide +kernel⟩
theorem tw_617 : Cond.code yX8_areTwo cX8_areTwo 3 (some .boolean) ∈ jm_tb := List.mem_filter.mpr ⟨List.mem_of_getElem? (i := 617) (by decide +kernel), by decide +kernel⟩
theorem qX8_188 : jm_CV "WeighedInBooks" 188 yX8_areTwo cX8_areTwo 3 (some .boolean) 2 := ⟨tw_614, tw_616, tw_1, tw_82, tw_617, by decide, by decide, by decide +kernel⟩
theorem tw_618 : Cond.constant "WeighedInBooks" 192 (1000000000) ∈ jm_tb := List.mem_filter.mpr ⟨List.mem_of_getElem? (i := 618) (by decide +kernel), by decide +kernel⟩
theorem tw_619 : Cond.methodLink "WeighedInBooks" 193 yX7_overOf ∈ jm_tb := List.mem_filter.mpr ⟨List.mem_of_getElem? (i := 619) (by decide +kernel), by decide +kernel⟩
theorem tw_620 : Cond.instanceMethod yX7_overOf ∈ jm_tb := List.mem_filter.mpr ⟨List.mem_of_getElem? (i := 620) (by decide +kernel), by decide +kernel⟩
theorem tw_621 : Cond.selects yX7_overOf.cls yX7_overOf yX7_overOf ∈ jm_tb := List.mem_filter.mpr ⟨List.mem_of_getElem? (i := 621) (by decide +kernel), by decide +kernel⟩
theorem tw_622 : Cond.code yX7_overOf cX7_overOf 5 (some .int) ∈ jm_tb := List.mem_filter.mpr ⟨List.mem_of_getElem? (i := 622) (by decide +kernel), by decide +kernel⟩
theorem qX8_193 : jm_CV "WeighedInBooks" 193 yX7_overOf cX7_overOf 5 (some .int) 2 := ⟨tw_619, tw_620, tw_621, tw_83, tw_622, by decide, by decide, by decide +kernel⟩
theorem tw_640 : Cond.methodLink "WeighedInBooks" 196 yX7_comesTo ∈ jm_tb := List.mem_filter.mpr ⟨List.mem_of_getElem? (i := 640) (by decide +kernel), by decide +kernel⟩
theorem qX8_196 : jm_CV "WeighedInBooks" 196 yX7_comesTo cX7_comesTo 7 (some .int) 3 := ⟨tw_640, tw_628, tw_629, tw_83, tw_630, by decide, by decide, by decide +kernel⟩
theorem tw_120 : Cond.fieldLink "WeighedInBooks$Bargain" 35 "WeighedInBooks$Town" "books" "I" ∈ jm_tb := List.mem_filter.mpr ⟨List.mem_of_getElem? (i := 120) (by decide +kernel), by decide +kernel⟩
theorem fl_X0_35 : jm_Fl "WeighedInBooks$Bargain" 35 5 4 := ⟨_, _, _, rfl, by decide, inX7, tw_120⟩
theorem tw_266 : Cond.fieldLink "WeighedInBooks$Bargain" 9 "WeighedInBooks$Bargain" "price" "[I" ∈ jm_tb := List.mem_filter.mpr ⟨List.mem_of_getElem? (i := 266) (by decide +kernel), by decide +kernel⟩
theorem fl_X0_9 : jm_Fl "WeighedInBooks$Bargain" 9 0 0 := ⟨_, _, _, rfl, by decide, inX0, tw_266⟩
theorem tw_658 : Cond.methodLink "WeighedInBooks$Bargain" 46 yX7_priceOf ∈ jm_tb := List.mem_filter.mpr ⟨List.mem_of_getElem? (i := 658) (by decide +kernel), by decide +kernel⟩
theorem qX0_46 : jm_CV "WeighedInBooks$Bargain" 46 yX7_priceOf cX7_priceOf 6 (some .int) 1 := ⟨tw_658, tw_554, tw_555, tw_83, tw_556, by decide, by decide, by decide +kernel⟩
theorem tw_267 : Cond.fieldLink "WeighedInBooks$Bargain" 15 "WeighedInBooks$Bargain" "heavy" "[I" ∈ jm_tb := List.mem_filter.mpr ⟨List.mem_of_getElem? (i := 267) (by decide +kernel), by decide +kernel⟩
theorem fl_X0_15 : jm_Fl "WeighedInBooks$Bargain" 15 0 1 := ⟨_, _, _, rfl, by decide, inX0, tw_267⟩
theorem tw_659 : Cond.methodLink "WeighedInBooks$Bargain" 50 yX7_comesTo ∈ jm_tb := List.mem_filter.mpr ⟨List.mem_of_getElem? (i := 659) (by decide +kernel), by decide +kernel⟩
theorem qX0_50 : jm_CV "WeighedInBooks$Bargain" 50 yX7_comesTo cX7_comesTo 7 (some .int) 3 := ⟨tw_659, tw_628, tw_629, tw_83, tw_630, by decide, by decide, by decide +kernel⟩
theorem tw_132 : Cond.fieldLink "WeighedInBooks$Bargain" 54 "WeighedInBooks$Town" "owner" "[I" ∈ jm_tb := List.mem_filter.mpr ⟨List.mem_of_getElem? (i := 132) (by decide +kernel), by decide +kernel⟩
theorem fl_X0_54 : jm_Fl "WeighedInBooks$Bargain" 54 5 7 := ⟨_, _, _, rfl, by decide, inX7, tw_132⟩
theorem tw_660 : Cond.methodLink "WeighedInBooks$Bargain" 57 yX7_isOnPan ∈ jm_tb := List.mem_filter.mpr ⟨List.mem_of_getElem? (i := 660) (by decide +kernel), by decide +kernel⟩
theorem qX0_57 : jm_CV "WeighedInBooks$Bargain" 57 yX7_isOnPan cX7_isOnPan 4 (some .boolean) 3 := ⟨tw_660, tw_624, tw_625, tw_83, tw_626, by decide, by decide, by decide +kernel⟩
theorem tw_268 : Cond.fieldLink "WeighedInBooks$Bargain" 28 "WeighedInBooks$Bargain" "set" "I" ∈ jm_tb := List.mem_filter.mpr ⟨List.mem_of_getElem? (i := 268) (by decide +kernel), by decide +kernel⟩
theorem fl_X0_28 : jm_Fl "WeighedInBooks$Bargain" 28 0 2 := ⟨_, _, _, rfl, by decide, inX0, tw_268⟩
theorem fp_X0_28 : jm_Fp "WeighedInBooks$Bargain" 28 0 2 .int := ⟨_, _, _, tyX0, rfl, by decide, inX0, tw_268, tyX0_ok, nmX0, rfl, by decide +kernel⟩
theorem tw_270 : Cond.fieldLink "WeighedInBooks$Bargain" 32 "WeighedInBooks$Bargain" "prices" "I" ∈ jm_tb := List.mem_filter.mpr ⟨List.mem_of_getElem? (i := 270) (by decide +kernel), by decide +kernel⟩
theorem fp_X0_32 : jm_Fp "WeighedInBooks$Bargain" 32 0 3 .int := ⟨_, _, _, tyX0, rfl, by decide, inX0, tw_270, tyX0_ok, nmX0, rfl, by decide +kernel⟩
theorem fl_X0_32 : jm_Fl "WeighedInBooks$Bargain" 32 0 3 := ⟨_, _, _, rfl, by decide, inX0, tw_270⟩
theorem tw_669 : Cond.methodLink "WeighedInBooks$Bargain" 61 yJ6_bitCount_0f7a4 ∈ jm_tb := List.mem_filter.mpr ⟨List.mem_of_getElem? (i := 669) (by decide +kernel), by decide +kernel⟩
theorem qX0_61 : jm_CS "WeighedInBooks$Bargain" 61 yJ6_bitCount_0f7a4 cJ6_bitCount_0f7a4 1 (some .int) 1 := ⟨tw_669, tw_529, tw_93, tw_530, by decide, by decide, by decide +kernel⟩
theorem tw_653 : Cond.methodLink "WeighedInBooks$Bargain" 18 yX7_overOf ∈ jm_tb := List.mem_filter.mpr ⟨List.mem_of_getElem? (i := 653) (by decide +kernel), by decide +kernel⟩
theorem qX0_18 : jm_CV "WeighedInBooks$Bargain" 18 yX7_overOf cX7_overOf 5 (some .int) 2 := ⟨tw_653, tw_620, tw_621, tw_83, tw_622, by decide, by decide, by decide +kernel⟩
theorem tw_654 : Cond.methodLink "WeighedInBooks$Bargain" 24 yX0_offer ∈ jm_tb := List.mem_filter.mpr ⟨List.mem_of_getElem? (i := 654) (by decide +kernel), by decide +kernel⟩
theorem tw_655 : Cond.instanceMethod yX0_offer ∈ jm_tb := List.mem_filter.mpr ⟨List.mem_of_getElem? (i := 655) (by decide +kernel), by decide +kernel⟩
theorem tw_656 : Cond.selects yX0_offer.cls yX0_offer yX0_offer ∈ jm_tb := List.mem_filter.mpr ⟨List.mem_of_getElem? (i := 656) (by decide +kernel), by decide +kernel⟩
theorem tw_87 : Cond.initialized yX0_offer.cls ∈ jm_tb := List.mem_filter.mpr ⟨List.mem_of_getElem? (i := 87) (by decide +kernel), by decide +kernel⟩
theorem tw_657 : Cond.code yX0_offer cX0_offer 6 (some .int) ∈ jm_tb := List.mem_filter.mpr ⟨List.mem_of_getElem? (i := 657) (by decide +kernel), by decide +kernel⟩
theorem qX0_24 : jm_CV "WeighedInBooks$Bargain" 24 yX0_offer cX0_offer 6 (some .int) 3 := ⟨tw_654, tw_655, tw_656, tw_87, tw_657, by decide, by decide, by decide +kernel⟩
theorem tw_661 : Cond.methodLink "WeighedInBooks$Bargain" 38 yX0_sumOf ∈ jm_tb := List.mem_filter.mpr ⟨List.mem_of_getElem? (i := 661) (by decide +kernel), by decide +kernel⟩
theorem tw_662 : Cond.instanceMethod yX0_sumOf ∈ jm_tb := List.mem_filter.mpr ⟨List.mem_of_getElem? (i := 662) (by decide +kernel), by decide +kernel⟩
theorem tw_663 : Cond.selects yX0_sumOf.cls yX0_sumOf yX0_sumOf ∈ jm_tb := List.mem_filter.mpr ⟨List.mem_of_getElem? (i := 663) (by decide +kernel), by decide +kernel⟩
theorem tw_664 : Cond.code yX0_sumOf cX0_sumOf 6 (some .int) ∈ jm_tb := List.mem_filter.mpr ⟨List.mem_of_getElem? (i := 664) (by decide +kernel), by decide +kernel⟩
theorem qX0_38 : jm_CV "WeighedInBooks$Bargain" 38 yX0_sumOf cX0_sumOf 6 (some .int) 3 := ⟨tw_661, tw_662, tw_663, tw_87, tw_664, by decide, by decide, by decide +kernel⟩
theorem tw_665 : Cond.methodLink "WeighedInBooks$Bargain" 42 yX0_takeIfBetter ∈ jm_tb := List.mem_filter.mpr ⟨List.mem_of_getElem? (i := 665) (by decide +kernel), by decide +kernel⟩
theorem tw_666 : Cond.instanceMethod yX0_takeIfBetter ∈ jm_tb := List.mem_filter.mpr ⟨List.mem_of_getElem? (i := 666) (by decide +kernel), by decide +kernel⟩
theorem tw_667 : Cond.selects yX0_takeIfBetter.cls yX0_takeIfBetter yX0_takeIfBetter ∈ jm_tb := List.mem_filter.mpr ⟨List.mem_of_getElem? (i := 667) (by decide +kernel), by decide +kernel⟩
theorem tw_668 : Cond.code yX0_takeIfBetter cX0_takeIfBetter 3 none ∈ jm_tb := List.mem_filter.mpr ⟨List.mem_of_getElem? (i := 668) (by decide +kernel), by decide +kernel⟩
theorem qX0_42 : jm_CV "WeighedInBooks$Bargain" 42 yX0_takeIfBetter cX0_takeIfBetter 3 none 2 := ⟨tw_665, tw_666, tw_667, tw_87, tw_668, by decide, by decide, by decide +kernel⟩
theorem tw_645 : Cond.methodLink "WeighedInBooks" 199 yX8_isNeither ∈ jm_tb := List.mem_filter.mpr ⟨List.mem_of_getElem? (i := 645) (by decide +kernel), by decide +kernel⟩
theorem tw_647 : Cond.instanceMethod yX8_isNeither ∈ jm_tb := List.mem_filter.mpr ⟨List.mem_of_getElem? (i := 647) (by decide +kernel), by decide +kernel⟩
theorem tw_2 : Cond.selects yX8_isNeither.cls yX8_isNeither yX8_isNeither ∈ jm_tb := List.mem_filter.mpr ⟨List.mem_of_getElem? (i := 2) (by decide +kernel), by decide +kernel⟩
theorem tw_648 : Cond.code yX8_isNeither cX8_isNeither 2 (some .boolean) ∈ jm_tb := List.mem_filter.mpr ⟨List.mem_of_getElem? (i := 648) (by decide +kernel), by decide +kernel⟩
theorem qX8_199 : jm_CV "WeighedInBooks" 199 yX8_isNeither cX8_isNeither 2 (some .boolean) 1 := ⟨tw_645, tw_647, tw_2, tw_82, tw_648, by decide, by decide, by decide +kernel⟩
theorem tw_308 : Cond.fieldLink "WeighedInBooks" 43 "WeighedInBooks" "bargain" "LWeighedInBooks$Bargain;" ∈ jm_tb := List.mem_filter.mpr ⟨List.mem_of_getElem? (i := 308) (by decide +kernel), by decide +kernel⟩
theorem fl_X8_43 : jm_Fl "WeighedInBooks" 43 6 6 := ⟨_, _, _, rfl, by decide, inX8, tw_308⟩
theorem tw_649 : Cond.methodLink "WeighedInBooks" 202 yX0_seek ∈ jm_tb := List.mem_filter.mpr ⟨List.mem_of_getElem? (i := 649) (by decide +kernel), by decide +kernel⟩
theorem tw_650 : Cond.instanceMethod yX0_seek ∈ jm_tb := List.mem_filter.mpr ⟨List.mem_of_getElem? (i := 650) (by decide +kernel), by decide +kernel⟩
theorem tw_651 : Cond.selects yX0_seek.cls yX0_seek yX0_seek ∈ jm_tb := List.mem_filter.mpr ⟨List.mem_of_getElem? (i := 651) (by decide +kernel), by decide +kernel⟩
theorem tw_652 : Cond.code yX0_seek cX0_seek 7 none ∈ jm_tb := List.mem_filter.mpr ⟨List.mem_of_getElem? (i := 652) (by decide +kernel), by decide +kernel⟩
theorem qX8_202 : jm_CV "WeighedInBooks" 202 yX0_seek cX0_seek 7 none 3 := ⟨tw_649, tw_650, tw_651, tw_87, tw_652, by decide, by decide, by decide +kernel⟩
theorem tw_269 : Cond.fieldLink "WeighedInBooks" 206 "WeighedInBooks$Bargain" "set" "I" ∈ jm_tb := List.mem_filter.mpr ⟨List.mem_of_getElem? (i := 269) (by decide +kernel), by decide +kernel⟩
theorem fl_X8_206 : jm_Fl "WeighedInBooks" 206 0 2 := ⟨_, _, _, rfl, by decide, inX0, tw_269⟩
theorem tw_271 : Cond.fieldLink "WeighedInBooks" 209 "WeighedInBooks$Bargain" "prices" "I" ∈ jm_tb := List.mem_filter.mpr ⟨List.mem_of_getElem? (i := 271) (by decide +kernel), by decide +kernel⟩
theorem fl_X8_209 : jm_Fl "WeighedInBooks" 209 0 3 := ⟨_, _, _, rfl, by decide, inX0, tw_271⟩
theorem tw_686 : Cond.methodLink "WeighedInBooks$Town" 105 yX7_overOf ∈ jm_tb := List.mem_filter.mpr ⟨List.mem_of_getElem? (i := 686) (by decide +kernel), by decide +kernel⟩
theorem qX7_105 : jm_CV "WeighedInBooks$Town" 105 yX7_overOf cX7_overOf 5 (some .int) 2 := ⟨tw_686, tw_620, tw_621, tw_83, tw_622, by decide, by decide, by decide +kernel⟩
theorem tw_110 : Cond.fieldLink "WeighedInBooks$Couples" 25 "WeighedInBooks$Town" "people" "I" ∈ jm_tb := List.mem_filter.mpr ⟨List.mem_of_getElem? (i := 110) (by decide +kernel), by decide +kernel⟩
theorem fl_X1_25 : jm_Fl "WeighedInBooks$Couples" 25 5 0 := ⟨_, _, _, rfl, by decide, inX7, tw_110⟩
theorem tw_287 : Cond.fieldLink "WeighedInBooks$Couples" 9 "WeighedInBooks$Couples" "down" "[I" ∈ jm_tb := List.mem_filter.mpr ⟨List.mem_of_getElem? (i := 287) (by decide +kernel), by decide +kernel⟩
theorem fl_X1_9 : jm_Fl "WeighedInBooks$Couples" 9 1 0 := ⟨_, _, _, rfl, by decide, inX1, tw_287⟩
theorem tw_682 : Cond.methodLink "WeighedInBooks$Couples" 42 yX7_comesDown ∈ jm_tb := List.mem_filter.mpr ⟨List.mem_of_getElem? (i := 682) (by decide +kernel), by decide +kernel⟩
theorem tw_683 : Cond.instanceMethod yX7_comesDown ∈ jm_tb := List.mem_filter.mpr ⟨List.mem_of_getElem? (i := 683) (by decide +kernel), by decide +kernel⟩
theorem tw_684 : Cond.selects yX7_comesDown.cls yX7_comesDown yX7_comesDown ∈ jm_tb := List.mem_filter.mpr ⟨List.mem_of_getElem? (i := 684) (by decide +kernel), by decide +kernel⟩
theorem tw_685 : Cond.code yX7_comesDown cX7_comesDown 3 (some .boolean) ∈ jm_tb := List.mem_filter.mpr ⟨List.mem_of_getElem? (i := 685) (by decide +kernel), by decide +kernel⟩
theorem qX1_42 : jm_CV "WeighedInBooks$Couples" 42 yX7_comesDown cX7_comesDown 3 (some .boolean) 2 := ⟨tw_682, tw_683, tw_684, tw_83, tw_685, by decide, by decide, by decide +kernel⟩
theorem tw_691 : Cond.methodLink "WeighedInBooks$Couples" 46 yX1_firstOf ∈ jm_tb := List.mem_filter.mpr ⟨List.mem_of_getElem? (i := 691) (by decide +kernel), by decide +kernel⟩
theorem tw_692 : Cond.instanceMethod yX1_firstOf ∈ jm_tb := List.mem_filter.mpr ⟨List.mem_of_getElem? (i := 692) (by decide +kernel), by decide +kernel⟩
theorem tw_693 : Cond.selects yX1_firstOf.cls yX1_firstOf yX1_firstOf ∈ jm_tb := List.mem_filter.mpr ⟨List.mem_of_getElem? (i := 693) (by decide +kernel), by decide +kernel⟩
theorem tw_88 : Cond.initialized yX1_firstOf.cls ∈ jm_tb := List.mem_filter.mpr ⟨List.mem_of_getElem? (i := 88) (by decide +kernel), by decide +kernel⟩
theorem tw_694 : Cond.code yX1_firstOf cX1_firstOf 4 (some .int) ∈ jm_tb := List.mem_filter.mpr ⟨List.mem_of_getElem? (i := 694) (by decide +kernel), by decide +kernel⟩
theorem qX1_46 : jm_CV "WeighedInBooks$Couples" 46 yX1_firstOf cX1_firstOf 4 (some .int) 2 := ⟨tw_691, tw_692, tw_693, tw_88, tw_694, by decide, by decide, by decide +kernel⟩
theorem tw_288 : Cond.fieldLink "WeighedInBooks$Couples" 15 "WeighedInBooks$Couples" "most" "[I" ∈ jm_tb := List.mem_filter.mpr ⟨List.mem_of_getElem? (i := 288) (by decide +kernel), by decide +kernel⟩
theorem fl_X1_15 : jm_Fl "WeighedInBooks$Couples" 15 1 1 := ⟨_, _, _, rfl, by decide, inX1, tw_288⟩
theorem tw_695 : Cond.methodLink "WeighedInBooks$Couples" 49 Lib.Math.max.name ∈ jm_tb := List.mem_filter.mpr ⟨List.mem_of_getElem? (i := 695) (by decide +kernel), by decide +kernel⟩
theorem tw_289 : Cond.fieldLink "WeighedInBooks$Couples" 18 "WeighedInBooks$Couples" "partner" "[I" ∈ jm_tb := List.mem_filter.mpr ⟨List.mem_of_getElem? (i := 289) (by decide +kernel), by decide +kernel⟩
theorem fl_X1_18 : jm_Fl "WeighedInBooks$Couples" 18 1 2 := ⟨_, _, _, rfl, by decide, inX1, tw_289⟩
theorem tw_700 : Cond.methodLink "WeighedInBooks$Couples" 54 yX1_firstPartner ∈ jm_tb := List.mem_filter.mpr ⟨List.mem_of_getElem? (i := 700) (by decide +kernel), by decide +kernel⟩
theorem tw_701 : Cond.instanceMethod yX1_firstPartner ∈ jm_tb := List.mem_filter.mpr ⟨List.mem_of_getElem? (i := 701) (by decide +kernel), by decide +kernel⟩
theorem tw_702 : Cond.selects yX1_firstPartner.cls yX1_firstPartner yX1_firstPartner ∈ jm_tb := List.mem_filter.mpr ⟨List.mem_of_getElem? (i := 702) (by decide +kernel), by decide +kernel⟩
theorem tw_703 : Cond.code yX1_firstPartner cX1_firstPartner 6 (some .int) ∈ jm_tb := List.mem_filter.mpr ⟨List.mem_of_getElem? (i := 703) (by decide +kernel), by decide +kernel⟩
theorem qX1_54 : jm_CV "WeighedInBooks$Couples" 54 yX1_firstPartner cX1_firstPartner 6 (some .int) 3 := ⟨tw_700, tw_701, tw_702, tw_88, tw_703, by decide, by decide, by decide +kernel⟩
theorem tw_678 : Cond.methodLink "WeighedInBooks$Couples" 21 yX1_weighAll ∈ jm_tb := List.mem_filter.mpr ⟨List.mem_of_getElem? (i := 678) (by decide +kernel), by decide +kernel⟩
theorem tw_679 : Cond.instanceMethod yX1_weighAll ∈ jm_tb := List.mem_filter.mpr ⟨List.mem_of_getElem? (i := 679) (by decide +kernel), by decide +kernel⟩
theorem tw_680 : Cond.selects yX1_weighAll.cls yX1_weighAll yX1_weighAll ∈ jm_tb := List.mem_filter.mpr ⟨List.mem_of_getElem? (i := 680) (by decide +kernel), by decide +kernel⟩
theorem tw_681 : Cond.code yX1_weighAll cX1_weighAll 4 none ∈ jm_tb := List.mem_filter.mpr ⟨List.mem_of_getElem? (i := 681) (by decide +kernel), by decide +kernel⟩
theorem qX1_21 : jm_CV "WeighedInBooks$Couples" 21 yX1_weighAll cX1_weighAll 4 none 1 := ⟨tw_678, tw_679, tw_680, tw_88, tw_681, by decide, by decide, by decide +kernel⟩
theorem tw_687 : Cond.methodLink "WeighedInBooks$Couples" 31 yX1_mostAmong ∈ jm_tb := List.mem_filter.mpr ⟨List.mem_of_getElem? (i := 687) (by decide +kernel), by decide +kernel⟩
theorem tw_688 : Cond.instanceMethod yX1_mostAmong ∈ jm_tb := List.mem_filter.mpr ⟨List.mem_of_getElem? (i := 688) (by decide +kernel), by decide +kernel⟩
theorem tw_689 : Cond.selects yX1_mostAmong.cls yX1_mostAmong yX1_mostAmong ∈ jm_tb := List.mem_filter.mpr ⟨List.mem_of_getElem? (i := 689) (by decide +kernel), by decide +kernel⟩
theorem tw_690 : Cond.code yX1_mostAmong cX1_mostAmong 7 (some .int) ∈ jm_tb := List.mem_filter.mpr ⟨List.mem_of_getElem? (i := 690) (by decide +kernel), by decide +kernel⟩
theorem qX1_31 : jm_CV "WeighedInBooks$Couples" 31 yX1_mostAmong cX1_mostAmong 7 (some .int) 2 := ⟨tw_687, tw_688, tw_689, tw_88, tw_690, by decide, by decide, by decide +kernel⟩
theorem tw_291 : Cond.fieldLink "WeighedInBooks$Couples" 35 "WeighedInBooks$Couples" "many" "I" ∈ jm_tb := List.mem_filter.mpr ⟨List.mem_of_getElem? (i := 291) (by decide +kernel), by decide +kernel⟩
theorem fp_X1_35 : jm_Fp "WeighedInBooks$Couples" 35 1 3 .int := ⟨_, _, _, tyX1, rfl, by decide, inX1, tw_291, tyX1_ok, nmX1, rfl, by decide +kernel⟩
theorem tw_696 : Cond.methodLink "WeighedInBooks$Couples" 38 yX1_pair ∈ jm_tb := List.mem_filter.mpr ⟨List.mem_of_getElem? (i := 696) (by decide +kernel), by decide +kernel⟩
theorem tw_697 : Cond.instanceMethod yX1_pair ∈ jm_tb := List.mem_filter.mpr ⟨List.mem_of_getElem? (i := 697) (by decide +kernel), by decide +kernel⟩
theorem tw_698 : Cond.selects yX1_pair.cls yX1_pair yX1_pair ∈ jm_tb := List.mem_filter.mpr ⟨List.mem_of_getElem? (i := 698) (by decide +kernel), by decide +kernel⟩
theorem tw_699 : Cond.code yX1_pair cX1_pair 6 none ∈ jm_tb := List.mem_filter.mpr ⟨List.mem_of_getElem? (i := 699) (by decide +kernel), by decide +kernel⟩
theorem qX1_38 : jm_CV "WeighedInBooks$Couples" 38 yX1_pair cX1_pair 6 none 2 := ⟨tw_696, tw_697, tw_698, tw_88, tw_699, by decide, by decide, by decide +kernel⟩
theorem tw_309 : Cond.fieldLink "WeighedInBooks" 50 "WeighedInBooks" "matched" "LWeighedInBooks$Couples;" ∈ jm_tb := List.mem_filter.mpr ⟨List.mem_of_getElem? (i := 309) (by decide +kernel), by decide +kernel⟩
theorem fl_X8_50 : jm_Fl "WeighedInBooks" 50 6 7 := ⟨_, _, _, rfl, by decide, inX8, tw_309⟩
theorem tw_674 : Cond.methodLink "WeighedInBooks" 212 yX1_choose ∈ jm_tb := List.mem_filter.mpr ⟨List.mem_of_getElem? (i := 674) (by decide +kernel), by decide +kernel⟩
theorem tw_675 : Cond.instanceMethod yX1_choose ∈ jm_tb := List.mem_filter.mpr ⟨List.mem_of_getElem? (i := 675) (by decide +kernel), by decide +kernel⟩
theorem tw_676 : Cond.selects yX1_choose.cls yX1_choose yX1_choose ∈ jm_tb := List.mem_filter.mpr ⟨List.mem_of_getElem? (i := 676) (by decide +kernel), by decide +kernel⟩
theorem tw_677 : Cond.code yX1_choose cX1_choose 4 none ∈ jm_tb := List.mem_filter.mpr ⟨List.mem_of_getElem? (i := 677) (by decide +kernel), by decide +kernel⟩
theorem qX8_212 : jm_CV "WeighedInBooks" 212 yX1_choose cX1_choose 4 none 1 := ⟨tw_674, tw_675, tw_676, tw_88, tw_677, by decide, by decide, by decide +kernel⟩
theorem tw_292 : Cond.fieldLink "WeighedInBooks" 215 "WeighedInBooks$Couples" "many" "I" ∈ jm_tb := List.mem_filter.mpr ⟨List.mem_of_getElem? (i := 292) (by decide +kernel), by decide +kernel⟩
theorem fl_X8_215 : jm_Fl "WeighedInBooks" 215 1 3 := ⟨_, _, _, rfl, by decide, inX1, tw_292⟩
theorem tw_290 : Cond.fieldLink "WeighedInBooks" 216 "WeighedInBooks$Couples" "partner" "[I" ∈ jm_tb := List.mem_filter.mpr ⟨List.mem_of_getElem? (i := 290) (by decide +kernel), by decide +kernel⟩
theorem fl_X8_216 : jm_Fl "WeighedInBooks" 216 1 2 := ⟨_, _, _, rfl, by decide, inX1, tw_290⟩
theorem tw_712 : Cond.methodLink "WeighedInBooks" 334 yX7_isOnPan ∈ jm_tb := List.mem_filter.mpr ⟨List.mem_of_getElem? (i := 712) (by decide +kernel), by decide +kernel⟩
theorem qX8_334 : jm_CV "WeighedInBooks" 334 yX7_isOnPan cX7_isOnPan 4 (some .boolean) 3 := ⟨tw_712, tw_624, tw_625, tw_83, tw_626, by decide, by decide, by decide +kernel⟩
theorem tw_310 : Cond.fieldLink "WeighedInBooks" 54 "WeighedInBooks" "ordered" "[I" ∈ jm_tb := List.mem_filter.mpr ⟨List.mem_of_getElem? (i := 310) (by decide +kernel), by decide +kernel⟩
theorem fl_X8_54 : jm_Fl "WeighedInBooks" 54 6 8 := ⟨_, _, _, rfl, by decide, inX8, tw_310⟩
theorem tw_713 : Cond.methodLink "WeighedInBooks" 338 yX8_isHeavier ∈ jm_tb := List.mem_filter.mpr ⟨List.mem_of_getElem? (i := 713) (by decide +kernel), by decide +kernel⟩
theorem tw_715 : Cond.instanceMethod yX8_isHeavier ∈ jm_tb := List.mem_filter.mpr ⟨List.mem_of_getElem? (i := 715) (by decide +kernel), by decide +kernel⟩
theorem tw_4 : Cond.selects yX8_isHeavier.cls yX8_isHeavier yX8_isHeavier ∈ jm_tb := List.mem_filter.mpr ⟨List.mem_of_getElem? (i := 4) (by decide +kernel), by decide +kernel⟩
theorem tw_716 : Cond.code yX8_isHeavier cX8_isHeavier 7 (some .boolean) ∈ jm_tb := List.mem_filter.mpr ⟨List.mem_of_getElem? (i := 716) (by decide +kernel), by decide +kernel⟩
theorem qX8_338 : jm_CV "WeighedInBooks" 338 yX8_isHeavier cX8_isHeavier 7 (some .boolean) 4 := ⟨tw_713, tw_715, tw_4, tw_82, tw_716, by decide, by decide, by decide +kernel⟩
theorem tw_708 : Cond.methodLink "WeighedInBooks" 219 yX8_orderPan ∈ jm_tb := List.mem_filter.mpr ⟨List.mem_of_getElem? (i := 708) (by decide +kernel), by decide +kernel⟩
theorem tw_710 : Cond.instanceMethod yX8_orderPan ∈ jm_tb := List.mem_filter.mpr ⟨List.mem_of_getElem? (i := 710) (by decide +kernel), by decide +kernel⟩
theorem tw_3 : Cond.selects yX8_orderPan.cls yX8_orderPan yX8_orderPan ∈ jm_tb := List.mem_filter.mpr ⟨List.mem_of_getElem? (i := 3) (by decide +kernel), by decide +kernel⟩
theorem tw_711 : Cond.code yX8_orderPan cX8_orderPan 6 (some .int) ∈ jm_tb := List.mem_filter.mpr ⟨List.mem_of_getElem? (i := 711) (by decide +kernel), by decide +kernel⟩
theorem qX8_219 : jm_CV "WeighedInBooks" 219 yX8_orderPan cX8_orderPan 6 (some .int) 2 := ⟨tw_708, tw_710, tw_3, tw_82, tw_711, by decide, by decide, by decide +kernel⟩
theorem tw_234 : Cond.fieldLink "WeighedInBooks$Foresight" 12 "WeighedInBooks$Foresight" "mind" "LWeighedInBooks$Town;" ∈ jm_tb := List.mem_filter.mpr ⟨List.mem_of_getElem? (i := 234) (by decide +kernel), by decide +kernel⟩
theorem fl_X2_12 : jm_Fl "WeighedInBooks$Foresight" 12 2 0 := ⟨_, _, _, rfl, by decide, inX2, tw_234⟩
theorem tw_729 : Cond.methodLink "WeighedInBooks$Foresight" 25 yX7_copyFrom ∈ jm_tb := List.mem_filter.mpr ⟨List.mem_of_getElem? (i := 729) (by decide +kernel), by decide +kernel⟩
theorem qX2_25 : jm_CV "WeighedInBooks$Foresight" 25 yX7_copyFrom cX7_copyFrom 2 none 1 := ⟨tw_729, tw_402, tw_403, tw_83, tw_404, by decide, by decide, by decide +kernel⟩
theorem tw_725 : Cond.methodLink "WeighedInBooks$Foresight" 29 yX2_think ∈ jm_tb := List.mem_filter.mpr ⟨List.mem_of_getElem? (i := 725) (by decide +kernel), by decide +kernel⟩
theorem tw_726 : Cond.instanceMethod yX2_think ∈ jm_tb := List.mem_filter.mpr ⟨List.mem_of_getElem? (i := 726) (by decide +kernel), by decide +kernel⟩
theorem tw_727 : Cond.selects yX2_think.cls yX2_think yX2_think ∈ jm_tb := List.mem_filter.mpr ⟨List.mem_of_getElem? (i := 727) (by decide +kernel), by decide +kernel⟩
theorem tw_86 : Cond.initialized yX2_think.cls ∈ jm_tb := List.mem_filter.mpr ⟨List.mem_of_getElem? (i := 86) (by decide +kernel), by decide +kernel⟩
theorem tw_728 : Cond.code yX2_think cX2_think 2 none ∈ jm_tb := List.mem_filter.mpr ⟨List.mem_of_getElem? (i := 728) (by decide +kernel), by decide +kernel⟩
theorem qX2_29 : jm_CV "WeighedInBooks$Foresight" 29 yX2_think cX2_think 2 none 1 := ⟨tw_725, tw_726, tw_727, tw_86, tw_728, by decide, by decide, by decide +kernel⟩
theorem tw_730 : Cond.methodLink "WeighedInBooks$Foresight" 32 yX7_weeksPass ∈ jm_tb := List.mem_filter.mpr ⟨List.mem_of_getElem? (i := 730) (by decide +kernel), by decide +kernel⟩
theorem qX2_32 : jm_CV "WeighedInBooks$Foresight" 32 yX7_weeksPass cX7_weeksPass 3 none 1 := ⟨tw_730, tw_477, tw_478, tw_83, tw_479, by decide, by decide, by decide +kernel⟩
theorem tw_307 : Cond.fieldLink "WeighedInBooks" 36 "WeighedInBooks" "foresight" "LWeighedInBooks$Foresight;" ∈ jm_tb := List.mem_filter.mpr ⟨List.mem_of_getElem? (i := 307) (by decide +kernel), by decide +kernel⟩
theorem fl_X8_36 : jm_Fl "WeighedInBooks" 36 6 5 := ⟨_, _, _, rfl, by decide, inX8, tw_307⟩
theorem tw_721 : Cond.methodLink "WeighedInBooks" 222 yX2_after ∈ jm_tb := List.mem_filter.mpr ⟨List.mem_of_getElem? (i := 721) (by decide +kernel), by decide +kernel⟩
theorem tw_722 : Cond.instanceMethod yX2_after ∈ jm_tb := List.mem_filter.mpr ⟨List.mem_of_getElem? (i := 722) (by decide +kernel), by decide +kernel⟩
theorem tw_723 : Cond.selects yX2_after.cls yX2_after yX2_after ∈ jm_tb := List.mem_filter.mpr ⟨List.mem_of_getElem? (i := 723) (by decide +kernel), by decide +kernel⟩
theorem tw_724 : Cond.code yX2_after cX2_after 3 (some (.object "WeighedInBooks$Town")) ∈ jm_tb := List.mem_filter.mpr ⟨List.mem_of_getElem? (i := 724) (by decide +kernel), by decide +kernel⟩
theorem qX8_222 : jm_CV "WeighedInBooks" 222 yX2_after cX2_after 3 (some (.object "WeighedInBooks$Town")) 2 := ⟨tw_721, tw_722, tw_723, tw_86, tw_724, by decide, by decide, by decide +kernel⟩
theorem tw_735 : Cond.methodLink "WeighedInBooks" 226 yJ6_bitCount_0f7a4 ∈ jm_tb := List.mem_filter.mpr ⟨List.mem_of_getElem? (i := 735) (by decide +kernel), by decide +kernel⟩
theorem qX8_226 : jm_CS "WeighedInBooks" 226 yJ6_bitCount_0f7a4 cJ6_bitCount_0f7a4 1 (some .int) 1 := ⟨tw_735, tw_529, tw_93, tw_530, by decide, by decide, by decide +kernel⟩
theorem tw_748 : Cond.methodLink "WeighedInBooks$Foresight" 40 yX7_comesDown ∈ jm_tb := List.mem_filter.mpr ⟨List.mem_of_getElem? (i := 748) (by decide +kernel), by decide +kernel⟩
theorem qX2_40 : jm_CV "WeighedInBooks$Foresight" 40 yX7_comesDown cX7_comesDown 3 (some .boolean) 2 := ⟨tw_748, tw_683, tw_684, tw_83, tw_685, by decide, by decide, by decide +kernel⟩
theorem tw_749 : Cond.methodLink "WeighedInBooks$Foresight" 44 yX7_weekPasses ∈ jm_tb := List.mem_filter.mpr ⟨List.mem_of_getElem? (i := 749) (by decide +kernel), by decide +kernel⟩
theorem qX2_44 : jm_CV "WeighedInBooks$Foresight" 44 yX7_weekPasses cX7_weekPasses 4 none 1 := ⟨tw_749, tw_481, tw_482, tw_83, tw_483, by decide, by decide, by decide +kernel⟩
theorem tw_744 : Cond.methodLink "WeighedInBooks$Foresight" 36 yX2_weeksTillDown ∈ jm_tb := List.mem_filter.mpr ⟨List.mem_of_getElem? (i := 744) (by decide +kernel), by decide +kernel⟩
theorem tw_745 : Cond.instanceMethod yX2_weeksTillDown ∈ jm_tb := List.mem_filter.mpr ⟨List.mem_of_getElem? (i := 745) (by decide +kernel), by decide +kernel⟩
theorem tw_746 : Cond.selects yX2_weeksTillDown.cls yX2_weeksTillDown yX2_weeksTillDown ∈ jm_tb := List.mem_filter.mpr ⟨List.mem_of_getElem? (i := 746) (by decide +kernel), by decide +kernel⟩
theorem tw_747 : Cond.code yX2_weeksTillDown cX2_weeksTillDown 5 (some .int) ∈ jm_tb := List.mem_filter.mpr ⟨List.mem_of_getElem? (i := 747) (by decide +kernel), by decide +kernel⟩
theorem qX2_36 : jm_CV "WeighedInBooks$Foresight" 36 yX2_weeksTillDown cX2_weeksTillDown 5 (some .int) 3 := ⟨tw_744, tw_745, tw_746, tw_86, tw_747, by decide, by decide, by decide +kernel⟩
theorem tw_740 : Cond.methodLink "WeighedInBooks" 231 yX2_whenDown ∈ jm_tb := List.mem_filter.mpr ⟨List.mem_of_getElem? (i := 740) (by decide +kernel), by decide +kernel⟩
theorem tw_741 : Cond.instanceMethod yX2_whenDown ∈ jm_tb := List.mem_filter.mpr ⟨List.mem_of_getElem? (i := 741) (by decide +kernel), by decide +kernel⟩
theorem tw_742 : Cond.selects yX2_whenDown.cls yX2_whenDown yX2_whenDown ∈ jm_tb := List.mem_filter.mpr ⟨List.mem_of_getElem? (i := 742) (by decide +kernel), by decide +kernel⟩
theorem tw_743 : Cond.code yX2_whenDown cX2_whenDown 4 (some .int) ∈ jm_tb := List.mem_filter.mpr ⟨List.mem_of_getElem? (i := 743) (by decide +kernel), by decide +kernel⟩
theorem qX8_231 : jm_CV "WeighedInBooks" 231 yX2_whenDown cX2_whenDown 4 (some .int) 3 := ⟨tw_740, tw_741, tw_742, tw_86, tw_743, by decide, by decide, by decide +kernel⟩
theorem tw_112 : Cond.fieldLink "WeighedInBooks$Foresight" 52 "WeighedInBooks$Town" "people" "I" ∈ jm_tb := List.mem_filter.mpr ⟨List.mem_of_getElem? (i := 112) (by decide +kernel), by decide +kernel⟩
theorem fl_X2_52 : jm_Fl "WeighedInBooks$Foresight" 52 5 0 := ⟨_, _, _, rfl, by decide, inX7, tw_112⟩
theorem tw_758 : Cond.methodLink "WeighedInBooks$Foresight" 48 yX2_firstFreshlyDown ∈ jm_tb := List.mem_filter.mpr ⟨List.mem_of_getElem? (i := 758) (by decide +kernel), by decide +kernel⟩
theorem tw_759 : Cond.instanceMethod yX2_firstFreshlyDown ∈ jm_tb := List.mem_filter.mpr ⟨List.mem_of_getElem? (i := 759) (by decide +kernel), by decide +kernel⟩
theorem tw_760 : Cond.selects yX2_firstFreshlyDown.cls yX2_firstFreshlyDown yX2_firstFreshlyDown ∈ jm_tb := List.mem_filter.mpr ⟨List.mem_of_getElem? (i := 760) (by decide +kernel), by decide +kernel⟩
theorem tw_761 : Cond.code yX2_firstFreshlyDown cX2_firstFreshlyDown 4 (some .int) ∈ jm_tb := List.mem_filter.mpr ⟨List.mem_of_getElem? (i := 761) (by decide +kernel), by decide +kernel⟩
theorem qX2_48 : jm_CV "WeighedInBooks$Foresight" 48 yX2_firstFreshlyDown cX2_firstFreshlyDown 4 (some .int) 1 := ⟨tw_758, tw_759, tw_760, tw_86, tw_761, by decide, by decide, by decide +kernel⟩
theorem tw_754 : Cond.methodLink "WeighedInBooks" 235 yX2_firstDown ∈ jm_tb := List.mem_filter.mpr ⟨List.mem_of_getElem? (i := 754) (by decide +kernel), by decide +kernel⟩
theorem tw_755 : Cond.instanceMethod yX2_firstDown ∈ jm_tb := List.mem_filter.mpr ⟨List.mem_of_getElem? (i := 755) (by decide +kernel), by decide +kernel⟩
theorem tw_756 : Cond.selects yX2_firstDown.cls yX2_firstDown yX2_firstDown ∈ jm_tb := List.mem_filter.mpr ⟨List.mem_of_getElem? (i := 756) (by decide +kernel), by decide +kernel⟩
theorem tw_757 : Cond.code yX2_firstDown cX2_firstDown 4 (some .int) ∈ jm_tb := List.mem_filter.mpr ⟨List.mem_of_getElem? (i := 757) (by decide +kernel), by decide +kernel⟩
theorem qX8_235 : jm_CV "WeighedInBooks" 235 yX2_firstDown cX2_firstDown 4 (some .int) 1 := ⟨tw_754, tw_755, tw_756, tw_86, tw_757, by decide, by decide, by decide +kernel⟩
theorem tw_237 : Cond.fieldLink "WeighedInBooks$Foresight" 56 "WeighedInBooks$Foresight" "loan" "I" ∈ jm_tb := List.mem_filter.mpr ⟨List.mem_of_getElem? (i := 237) (by decide +kernel), by decide +kernel⟩
theorem fp_X2_56 : jm_Fp "WeighedInBooks$Foresight" 56 2 3 .int := ⟨_, _, _, tyX2, rfl, by decide, inX2, tw_237, tyX2_ok, nmX2, rfl, by decide +kernel⟩
theorem tw_239 : Cond.fieldLink "WeighedInBooks$Foresight" 59 "WeighedInBooks$Foresight" "loanWeeks" "I" ∈ jm_tb := List.mem_filter.mpr ⟨List.mem_of_getElem? (i := 239) (by decide +kernel), by decide +kernel⟩
theorem fp_X2_59 : jm_Fp "WeighedInBooks$Foresight" 59 2 4 .int := ⟨_, _, _, tyX2, rfl, by decide, inX2, tw_239, tyX2_ok, nmX2, rfl, by decide +kernel⟩
theorem tw_123 : Cond.fieldLink "WeighedInBooks$Foresight" 62 "WeighedInBooks$Town" "books" "I" ∈ jm_tb := List.mem_filter.mpr ⟨List.mem_of_getElem? (i := 123) (by decide +kernel), by decide +kernel⟩
theorem fl_X2_62 : jm_Fl "WeighedInBooks$Foresight" 62 5 4 := ⟨_, _, _, rfl, by decide, inX7, tw_123⟩
theorem tw_770 : Cond.methodLink "WeighedInBooks$Foresight" 65 yX7_isOnPan ∈ jm_tb := List.mem_filter.mpr ⟨List.mem_of_getElem? (i := 770) (by decide +kernel), by decide +kernel⟩
theorem qX2_65 : jm_CV "WeighedInBooks$Foresight" 65 yX7_isOnPan cX7_isOnPan 4 (some .boolean) 3 := ⟨tw_770, tw_624, tw_625, tw_83, tw_626, by decide, by decide, by decide +kernel⟩
theorem tw_136 : Cond.fieldLink "WeighedInBooks$Foresight" 69 "WeighedInBooks$Town" "holder" "[I" ∈ jm_tb := List.mem_filter.mpr ⟨List.mem_of_getElem? (i := 136) (by decide +kernel), by decide +kernel⟩
theorem fl_X2_69 : jm_Fl "WeighedInBooks$Foresight" 69 5 8 := ⟨_, _, _, rfl, by decide, inX7, tw_136⟩
theorem tw_766 : Cond.methodLink "WeighedInBooks" 238 yX2_seekLoan ∈ jm_tb := List.mem_filter.mpr ⟨List.mem_of_getElem? (i := 766) (by decide +kernel), by decide +kernel⟩
theorem tw_767 : Cond.instanceMethod yX2_seekLoan ∈ jm_tb := List.mem_filter.mpr ⟨List.mem_of_getElem? (i := 767) (by decide +kernel), by decide +kernel⟩
theorem tw_768 : Cond.selects yX2_seekLoan.cls yX2_seekLoan yX2_seekLoan ∈ jm_tb := List.mem_filter.mpr ⟨List.mem_of_getElem? (i := 768) (by decide +kernel), by decide +kernel⟩
theorem tw_769 : Cond.code yX2_seekLoan cX2_seekLoan 7 none ∈ jm_tb := List.mem_filter.mpr ⟨List.mem_of_getElem? (i := 769) (by decide +kernel), by decide +kernel⟩
theorem qX8_238 : jm_CV "WeighedInBooks" 238 yX2_seekLoan cX2_seekLoan 7 none 3 := ⟨tw_766, tw_767, tw_768, tw_86, tw_769, by decide, by decide, by decide +kernel⟩
theorem tw_238 : Cond.fieldLink "WeighedInBooks" 241 "WeighedInBooks$Foresight" "loan" "I" ∈ jm_tb := List.mem_filter.mpr ⟨List.mem_of_getElem? (i := 238) (by decide +kernel), by decide +kernel⟩
theorem fl_X8_241 : jm_Fl "WeighedInBooks" 241 2 3 := ⟨_, _, _, rfl, by decide, inX2, tw_238⟩
theorem tw_240 : Cond.fieldLink "WeighedInBooks" 244 "WeighedInBooks$Foresight" "loanWeeks" "I" ∈ jm_tb := List.mem_filter.mpr ⟨List.mem_of_getElem? (i := 240) (by decide +kernel), by decide +kernel⟩
theorem fl_X8_244 : jm_Fl "WeighedInBooks" 244 2 4 := ⟨_, _, _, rfl, by decide, inX2, tw_240⟩
theorem tw_779 : Cond.methodLink "WeighedInBooks$Foresight" 72 yX2_after ∈ jm_tb := List.mem_filter.mpr ⟨List.mem_of_getElem? (i := 779) (by decide +kernel), by decide +kernel⟩
theorem qX2_72 : jm_CV "WeighedInBooks$Foresight" 72 yX2_after cX2_after 3 (some (.object "WeighedInBooks$Town")) 2 := ⟨tw_779, tw_722, tw_723, tw_86, tw_724, by decide, by decide, by decide +kernel⟩
theorem tw_780 : Cond.methodLink "WeighedInBooks$Foresight" 76 yX7_overOf ∈ jm_tb := List.mem_filter.mpr ⟨List.mem_of_getElem? (i := 780) (by decide +kernel), by decide +kernel⟩
theorem qX2_76 : jm_CV "WeighedInBooks$Foresight" 76 yX7_overOf cX7_overOf 5 (some .int) 2 := ⟨tw_780, tw_620, tw_621, tw_83, tw_622, by decide, by decide, by decide +kernel⟩
theorem tw_140 : Cond.fieldLink "WeighedInBooks$Foresight" 80 "WeighedInBooks$Town" "readers" "[I" ∈ jm_tb := List.mem_filter.mpr ⟨List.mem_of_getElem? (i := 140) (by decide +kernel), by decide +kernel⟩
theorem fl_X2_80 : jm_Fl "WeighedInBooks$Foresight" 80 5 9 := ⟨_, _, _, rfl, by decide, inX7, tw_140⟩
theorem tw_775 : Cond.methodLink "WeighedInBooks" 247 yX2_bestTaught ∈ jm_tb := List.mem_filter.mpr ⟨List.mem_of_getElem? (i := 775) (by decide +kernel), by decide +kernel⟩
theorem tw_776 : Cond.instanceMethod yX2_bestTaught ∈ jm_tb := List.mem_filter.mpr ⟨List.mem_of_getElem? (i := 776) (by decide +kernel), by decide +kernel⟩
theorem tw_777 : Cond.selects yX2_bestTaught.cls yX2_bestTaught yX2_bestTaught ∈ jm_tb := List.mem_filter.mpr ⟨List.mem_of_getElem? (i := 777) (by decide +kernel), by decide +kernel⟩
theorem tw_778 : Cond.code yX2_bestTaught cX2_bestTaught 10 (some .int) ∈ jm_tb := List.mem_filter.mpr ⟨List.mem_of_getElem? (i := 778) (by decide +kernel), by decide +kernel⟩
theorem qX8_247 : jm_CV "WeighedInBooks" 247 yX2_bestTaught cX2_bestTaught 10 (some .int) 5 := ⟨tw_775, tw_776, tw_777, tw_86, tw_778, by decide, by decide, by decide +kernel⟩
theorem tw_130 : Cond.fieldLink "WeighedInBooks$Foresight" 86 "WeighedInBooks$Town" "figure" "[I" ∈ jm_tb := List.mem_filter.mpr ⟨List.mem_of_getElem? (i := 130) (by decide +kernel), by decide +kernel⟩
theorem fl_X2_86 : jm_Fl "WeighedInBooks$Foresight" 86 5 6 := ⟨_, _, _, rfl, by decide, inX7, tw_130⟩
theorem tw_127 : Cond.fieldLink "WeighedInBooks$Foresight" 83 "WeighedInBooks$Town" "kind" "[I" ∈ jm_tb := List.mem_filter.mpr ⟨List.mem_of_getElem? (i := 127) (by decide +kernel), by decide +kernel⟩
theorem fl_X2_83 : jm_Fl "WeighedInBooks$Foresight" 83 5 5 := ⟨_, _, _, rfl, by decide, inX7, tw_127⟩
theorem tw_785 : Cond.methodLink "WeighedInBooks" 251 yX2_think ∈ jm_tb := List.mem_filter.mpr ⟨List.mem_of_getElem? (i := 785) (by decide +kernel), by decide +kernel⟩
theorem qX8_251 : jm_CV "WeighedInBooks" 251 yX2_think cX2_think 2 none 1 := ⟨tw_785, tw_726, tw_727, tw_86, tw_728, by decide, by decide, by decide +kernel⟩
theorem tw_311 : Cond.fieldLink "WeighedInBooks" 58 "WeighedInBooks" "toldRow" "[I" ∈ jm_tb := List.mem_filter.mpr ⟨List.mem_of_getElem? (i := 311) (by decide +kernel), by decide +kernel⟩
theorem fl_X8_58 : jm_Fl "WeighedInBooks" 58 6 9 := ⟨_, _, _, rfl, by decide, inX8, tw_311⟩
theorem tw_312 : Cond.fieldLink "WeighedInBooks" 254 "WeighedInBooks" "inRow" "I" ∈ jm_tb := List.mem_filter.mpr ⟨List.mem_of_getElem? (i := 312) (by decide +kernel), by decide +kernel⟩
theorem fl_X8_254 : jm_Fl "WeighedInBooks" 254 6 10 := ⟨_, _, _, rfl, by decide, inX8, tw_312⟩
theorem tw_786 : Cond.methodLink "WeighedInBooks" 257 yX2_bitsBy ∈ jm_tb := List.mem_filter.mpr ⟨List.mem_of_getElem? (i := 786) (by decide +kernel), by decide +kernel⟩
theorem tw_787 : Cond.instanceMethod yX2_bitsBy ∈ jm_tb := List.mem_filter.mpr ⟨List.mem_of_getElem? (i := 787) (by decide +kernel), by decide +kernel⟩
theorem tw_788 : Cond.selects yX2_bitsBy.cls yX2_bitsBy yX2_bitsBy ∈ jm_tb := List.mem_filter.mpr ⟨List.mem_of_getElem? (i := 788) (by decide +kernel), by decide +kernel⟩
theorem tw_789 : Cond.code yX2_bitsBy cX2_bitsBy 12 (some .int) ∈ jm_tb := List.mem_filter.mpr ⟨List.mem_of_getElem? (i := 789) (by decide +kernel), by decide +kernel⟩
theorem qX8_257 : jm_CV "WeighedInBooks" 257 yX2_bitsBy cX2_bitsBy 12 (some .int) 6 := ⟨tw_786, tw_787, tw_788, tw_86, tw_789, by decide, by decide, by decide +kernel⟩
theorem tw_802 : Cond.methodLink "WeighedInBooks$Foresight" 93 yX7_givesBack ∈ jm_tb := List.mem_filter.mpr ⟨List.mem_of_getElem? (i := 802) (by decide +kernel), by decide +kernel⟩
theorem tw_803 : Cond.instanceMethod yX7_givesBack ∈ jm_tb := List.mem_filter.mpr ⟨List.mem_of_getElem? (i := 803) (by decide +kernel), by decide +kernel⟩
theorem tw_804 : Cond.selects yX7_givesBack.cls yX7_givesBack yX7_givesBack ∈ jm_tb := List.mem_filter.mpr ⟨List.mem_of_getElem? (i := 804) (by decide +kernel), by decide +kernel⟩
theorem tw_805 : Cond.code yX7_givesBack cX7_givesBack 3 none ∈ jm_tb := List.mem_filter.mpr ⟨List.mem_of_getElem? (i := 805) (by decide +kernel), by decide +kernel⟩
theorem qX2_93 : jm_CV "WeighedInBooks$Foresight" 93 yX7_givesBack cX7_givesBack 3 none 1 := ⟨tw_802, tw_803, tw_804, tw_83, tw_805, by decide, by decide, by decide +kernel⟩
theorem tw_235 : Cond.fieldLink "WeighedInBooks$Foresight" 18 "WeighedInBooks$Foresight" "onesGain" "[I" ∈ jm_tb := List.mem_filter.mpr ⟨List.mem_of_getElem? (i := 235) (by decide +kernel), by decide +kernel⟩
theorem fl_X2_18 : jm_Fl "WeighedInBooks$Foresight" 18 2 1 := ⟨_, _, _, rfl, by decide, inX2, tw_235⟩
theorem tw_806 : Cond.methodLink "WeighedInBooks$Foresight" 96 yX7_readingsOf ∈ jm_tb := List.mem_filter.mpr ⟨List.mem_of_getElem? (i := 806) (by decide +kernel), by decide +kernel⟩
theorem qX2_96 : jm_CV "WeighedInBooks$Foresight" 96 yX7_readingsOf cX7_readingsOf 2 (some .int) 1 := ⟨tw_806, tw_521, tw_522, tw_83, tw_523, by decide, by decide, by decide +kernel⟩
theorem tw_236 : Cond.fieldLink "WeighedInBooks$Foresight" 22 "WeighedInBooks$Foresight" "othersGain" "[I" ∈ jm_tb := List.mem_filter.mpr ⟨List.mem_of_getElem? (i := 236) (by decide +kernel), by decide +kernel⟩
theorem fl_X2_22 : jm_Fl "WeighedInBooks$Foresight" 22 2 2 := ⟨_, _, _, rfl, by decide, inX2, tw_236⟩
theorem tw_798 : Cond.methodLink "WeighedInBooks$Foresight" 89 yX2_weighChoice ∈ jm_tb := List.mem_filter.mpr ⟨List.mem_of_getElem? (i := 798) (by decide +kernel), by decide +kernel⟩
theorem tw_799 : Cond.instanceMethod yX2_weighChoice ∈ jm_tb := List.mem_filter.mpr ⟨List.mem_of_getElem? (i := 799) (by decide +kernel), by decide +kernel⟩
theorem tw_800 : Cond.selects yX2_weighChoice.cls yX2_weighChoice yX2_weighChoice ∈ jm_tb := List.mem_filter.mpr ⟨List.mem_of_getElem? (i := 800) (by decide +kernel), by decide +kernel⟩
theorem tw_801 : Cond.code yX2_weighChoice cX2_weighChoice 8 none ∈ jm_tb := List.mem_filter.mpr ⟨List.mem_of_getElem? (i := 801) (by decide +kernel), by decide +kernel⟩
theorem qX2_89 : jm_CV "WeighedInBooks$Foresight" 89 yX2_weighChoice cX2_weighChoice 8 none 5 := ⟨tw_798, tw_799, tw_800, tw_86, tw_801, by decide, by decide, by decide +kernel⟩
theorem tw_794 : Cond.methodLink "WeighedInBooks" 261 yX2_steadyPair ∈ jm_tb := List.mem_filter.mpr ⟨List.mem_of_getElem? (i := 794) (by decide +kernel), by decide +kernel⟩
theorem tw_795 : Cond.instanceMethod yX2_steadyPair ∈ jm_tb := List.mem_filter.mpr ⟨List.mem_of_getElem? (i := 795) (by decide +kernel), by decide +kernel⟩
theorem tw_796 : Cond.selects yX2_steadyPair.cls yX2_steadyPair yX2_steadyPair ∈ jm_tb := List.mem_filter.mpr ⟨List.mem_of_getElem? (i := 796) (by decide +kernel), by decide +kernel⟩
theorem tw_797 : Cond.code yX2_steadyPair cX2_steadyPair 6 (some .int) ∈ jm_tb := List.mem_filter.mpr ⟨List.mem_of_getElem? (i := 797) (by decide +kernel), by decide +kernel⟩
theorem qX8_261 : jm_CV "WeighedInBooks" 261 yX2_steadyPair cX2_steadyPair 6 (some .int) 4 := ⟨tw_794, tw_795, tw_796, tw_86, tw_797, by decide, by decide, by decide +kernel⟩
theorem tw_822 : Cond.methodLink "WeighedInBooks$Fractions" 7 yX3_sharedDivisor ∈ jm_tb := List.mem_filter.mpr ⟨List.mem_of_getElem? (i := 822) (by decide +kernel), by decide +kernel⟩
theorem tw_823 : Cond.static yX3_sharedDivisor ∈ jm_tb := List.mem_filter.mpr ⟨List.mem_of_getElem? (i := 823) (by decide +kernel), by decide +kernel⟩
theorem tw_94 : Cond.initialized yX3_sharedDivisor.cls ∈ jm_tb := List.mem_filter.mpr ⟨List.mem_of_getElem? (i := 94) (by decide +kernel), by decide +kernel⟩
theorem tw_824 : Cond.code yX3_sharedDivisor cX3_sharedDivisor 11 (some .long) ∈ jm_tb := List.mem_filter.mpr ⟨List.mem_of_getElem? (i := 824) (by decide +kernel), by decide +kernel⟩
theorem qX3_7 : jm_CS "WeighedInBooks$Fractions" 7 yX3_sharedDivisor cX3_sharedDivisor 11 (some .long) 2 := ⟨tw_822, tw_823, tw_94, tw_824, by decide, by decide, by decide +kernel⟩
theorem tw_811 : Cond.constantLong "WeighedInBooks" 265 (4000000000000000000) ∈ jm_tb := List.mem_filter.mpr ⟨List.mem_of_getElem? (i := 811) (by decide +kernel), by decide +kernel⟩
theorem tw_812 : Cond.methodLink "WeighedInBooks" 267 yX2_dampCases ∈ jm_tb := List.mem_filter.mpr ⟨List.mem_of_getElem? (i := 812) (by decide +kernel), by decide +kernel⟩
theorem tw_813 : Cond.instanceMethod yX2_dampCases ∈ jm_tb := List.mem_filter.mpr ⟨List.mem_of_getElem? (i := 813) (by decide +kernel), by decide +kernel⟩
theorem tw_814 : Cond.selects yX2_dampCases.cls yX2_dampCases yX2_dampCases ∈ jm_tb := List.mem_filter.mpr ⟨List.mem_of_getElem? (i := 814) (by decide +kernel), by decide +kernel⟩
theorem tw_815 : Cond.code yX2_dampCases cX2_dampCases 14 (some .long) ∈ jm_tb := List.mem_filter.mpr ⟨List.mem_of_getElem? (i := 815) (by decide +kernel), by decide +kernel⟩
theorem qX8_267 : jm_CV "WeighedInBooks" 267 yX2_dampCases cX2_dampCases 14 (some .long) 5 := ⟨tw_812, tw_813, tw_814, tw_86, tw_815, by decide, by decide, by decide +kernel⟩
theorem tw_816 : Cond.methodLink "WeighedInBooks" 271 yX3_power ∈ jm_tb := List.mem_filter.mpr ⟨List.mem_of_getElem? (i := 816) (by decide +kernel), by decide +kernel⟩
theorem tw_817 : Cond.static yX3_power ∈ jm_tb := List.mem_filter.mpr ⟨List.mem_of_getElem? (i := 817) (by decide +kernel), by decide +kernel⟩
theorem tw_818 : Cond.code yX3_power cX3_power 6 (some .long) ∈ jm_tb := List.mem_filter.mpr ⟨List.mem_of_getElem? (i := 818) (by decide +kernel), by decide +kernel⟩
theorem qX8_271 : jm_CS "WeighedInBooks" 271 yX3_power cX3_power 6 (some .long) 2 := ⟨tw_816, tw_817, tw_94, tw_818, by decide, by decide, by decide +kernel⟩
theorem tw_819 : Cond.methodLink "WeighedInBooks" 277 yX3_part ∈ jm_tb := List.mem_filter.mpr ⟨List.mem_of_getElem? (i := 819) (by decide +kernel), by decide +kernel⟩
theorem tw_820 : Cond.static yX3_part ∈ jm_tb := List.mem_filter.mpr ⟨List.mem_of_getElem? (i := 820) (by decide +kernel), by decide +kernel⟩
theorem tw_821 : Cond.code yX3_part cX3_part 7 (some .long) ∈ jm_tb := List.mem_filter.mpr ⟨List.mem_of_getElem? (i := 821) (by decide +kernel), by decide +kernel⟩
theorem qX8_277 : jm_CS "WeighedInBooks" 277 yX3_part cX3_part 7 (some .long) 3 := ⟨tw_819, tw_820, tw_94, tw_821, by decide, by decide, by decide +kernel⟩
theorem tw_838 : Cond.constant "WeighedInBooks$Foresight" 117 (2147483647) ∈ jm_tb := List.mem_filter.mpr ⟨List.mem_of_getElem? (i := 838) (by decide +kernel), by decide +kernel⟩
theorem tw_839 : Cond.constant "WeighedInBooks$Foresight" 118 (65536) ∈ jm_tb := List.mem_filter.mpr ⟨List.mem_of_getElem? (i := 839) (by decide +kernel), by decide +kernel⟩
theorem tw_848 : Cond.methodLink "WeighedInBooks$Town" 108 yX7_comesDown ∈ jm_tb := List.mem_filter.mpr ⟨List.mem_of_getElem? (i := 848) (by decide +kernel), by decide +kernel⟩
theorem qX7_108 : jm_CV "WeighedInBooks$Town" 108 yX7_comesDown cX7_comesDown 3 (some .boolean) 2 := ⟨tw_848, tw_683, tw_684, tw_83, tw_685, by decide, by decide, by decide +kernel⟩
theorem tw_241 : Cond.fieldLink "WeighedInBooks$Foresight" 100 "WeighedInBooks$Foresight" "springReadings" "I" ∈ jm_tb := List.mem_filter.mpr ⟨List.mem_of_getElem? (i := 241) (by decide +kernel), by decide +kernel⟩
theorem fp_X2_100 : jm_Fp "WeighedInBooks$Foresight" 100 2 5 .int := ⟨_, _, _, tyX2, rfl, by decide, inX2, tw_241, tyX2_ok, nmX2, rfl, by decide +kernel⟩
theorem tw_243 : Cond.fieldLink "WeighedInBooks$Foresight" 103 "WeighedInBooks$Foresight" "springTwos" "I" ∈ jm_tb := List.mem_filter.mpr ⟨List.mem_of_getElem? (i := 243) (by decide +kernel), by decide +kernel⟩
theorem fp_X2_103 : jm_Fp "WeighedInBooks$Foresight" 103 2 6 .int := ⟨_, _, _, tyX2, rfl, by decide, inX2, tw_243, tyX2_ok, nmX2, rfl, by decide +kernel⟩
theorem tw_833 : Cond.constant "WeighedInBooks$Foresight" 106 (1103515245) ∈ jm_tb := List.mem_filter.mpr ⟨List.mem_of_getElem? (i := 833) (by decide +kernel), by decide +kernel⟩
theorem tw_834 : Cond.methodLink "WeighedInBooks$Foresight" 107 yX2_keeperDrawn ∈ jm_tb := List.mem_filter.mpr ⟨List.mem_of_getElem? (i := 834) (by decide +kernel), by decide +kernel⟩
theorem tw_835 : Cond.instanceMethod yX2_keeperDrawn ∈ jm_tb := List.mem_filter.mpr ⟨List.mem_of_getElem? (i := 835) (by decide +kernel), by decide +kernel⟩
theorem tw_836 : Cond.selects yX2_keeperDrawn.cls yX2_keeperDrawn yX2_keeperDrawn ∈ jm_tb := List.mem_filter.mpr ⟨List.mem_of_getElem? (i := 836) (by decide +kernel), by decide +kernel⟩
theorem tw_837 : Cond.code yX2_keeperDrawn cX2_keeperDrawn 2 (some .int) ∈ jm_tb := List.mem_filter.mpr ⟨List.mem_of_getElem? (i := 837) (by decide +kernel), by decide +kernel⟩
theorem qX2_107 : jm_CV "WeighedInBooks$Foresight" 107 yX2_keeperDrawn cX2_keeperDrawn 2 (some .int) 1 := ⟨tw_834, tw_835, tw_836, tw_86, tw_837, by decide, by decide, by decide +kernel⟩
theorem fl_X2_100 : jm_Fl "WeighedInBooks$Foresight" 100 2 5 := ⟨_, _, _, rfl, by decide, inX2, tw_241⟩
theorem tw_840 : Cond.methodLink "WeighedInBooks$Foresight" 110 yX7_readings ∈ jm_tb := List.mem_filter.mpr ⟨List.mem_of_getElem? (i := 840) (by decide +kernel), by decide +kernel⟩
theorem tw_841 : Cond.instanceMethod yX7_readings ∈ jm_tb := List.mem_filter.mpr ⟨List.mem_of_getElem? (i := 841) (by decide +kernel), by decide +kernel⟩
theorem tw_842 : Cond.selects yX7_readings.cls yX7_readings yX7_readings ∈ jm_tb := List.mem_filter.mpr ⟨List.mem_of_getElem? (i := 842) (by decide +kernel), by decide +kernel⟩
theorem tw_843 : Cond.code yX7_readings cX7_readings 3 (some .int) ∈ jm_tb := List.mem_filter.mpr ⟨List.mem_of_getElem? (i := 843) (by decide +kernel), by decide +kernel⟩
theorem qX2_110 : jm_CV "WeighedInBooks$Foresight" 110 yX7_readings cX7_readings 3 (some .int) 0 := ⟨tw_840, tw_841, tw_842, tw_83, tw_843, by decide, by decide, by decide +kernel⟩
theorem fl_X2_103 : jm_Fl "WeighedInBooks$Foresight" 103 2 6 := ⟨_, _, _, rfl, by decide, inX2, tw_243⟩
theorem tw_844 : Cond.methodLink "WeighedInBooks$Foresight" 114 yX7_twosDown ∈ jm_tb := List.mem_filter.mpr ⟨List.mem_of_getElem? (i := 844) (by decide +kernel), by decide +kernel⟩
theorem tw_845 : Cond.instanceMethod yX7_twosDown ∈ jm_tb := List.mem_filter.mpr ⟨List.mem_of_getElem? (i := 845) (by decide +kernel), by decide +kernel⟩
theorem tw_846 : Cond.selects yX7_twosDown.cls yX7_twosDown yX7_twosDown ∈ jm_tb := List.mem_filter.mpr ⟨List.mem_of_getElem? (i := 846) (by decide +kernel), by decide +kernel⟩
theorem tw_847 : Cond.code yX7_twosDown cX7_twosDown 4 (some .int) ∈ jm_tb := List.mem_filter.mpr ⟨List.mem_of_getElem? (i := 847) (by decide +kernel), by decide +kernel⟩
theorem qX2_114 : jm_CV "WeighedInBooks$Foresight" 114 yX7_twosDown cX7_twosDown 4 (some .int) 0 := ⟨tw_844, tw_845, tw_846, tw_83, tw_847, by decide, by decide, by decide +kernel⟩
theorem tw_829 : Cond.methodLink "WeighedInBooks" 281 yX2_drawSprings ∈ jm_tb := List.mem_filter.mpr ⟨List.mem_of_getElem? (i := 829) (by decide +kernel), by decide +kernel⟩
theorem tw_830 : Cond.instanceMethod yX2_drawSprings ∈ jm_tb := List.mem_filter.mpr ⟨List.mem_of_getElem? (i := 830) (by decide +kernel), by decide +kernel⟩
theorem tw_831 : Cond.selects yX2_drawSprings.cls yX2_drawSprings yX2_drawSprings ∈ jm_tb := List.mem_filter.mpr ⟨List.mem_of_getElem? (i := 831) (by decide +kernel), by decide +kernel⟩
theorem tw_832 : Cond.code yX2_drawSprings cX2_drawSprings 7 none ∈ jm_tb := List.mem_filter.mpr ⟨List.mem_of_getElem? (i := 832) (by decide +kernel), by decide +kernel⟩
theorem qX8_281 : jm_CV "WeighedInBooks" 281 yX2_drawSprings cX2_drawSprings 7 none 3 := ⟨tw_829, tw_830, tw_831, tw_86, tw_832, by decide, by decide, by decide +kernel⟩
theorem tw_242 : Cond.fieldLink "WeighedInBooks" 284 "WeighedInBooks$Foresight" "springReadings" "I" ∈ jm_tb := List.mem_filter.mpr ⟨List.mem_of_getElem? (i := 242) (by decide +kernel), by decide +kernel⟩
theorem fl_X8_284 : jm_Fl "WeighedInBooks" 284 2 5 := ⟨_, _, _, rfl, by decide, inX2, tw_242⟩
theorem tw_244 : Cond.fieldLink "WeighedInBooks" 287 "WeighedInBooks$Foresight" "springTwos" "I" ∈ jm_tb := List.mem_filter.mpr ⟨List.mem_of_getElem? (i := 244) (by decide +kernel), by decide +kernel⟩
theorem fl_X8_287 : jm_Fl "WeighedInBooks" 287 2 6 := ⟨_, _, _, rfl, by decide, inX2, tw_244⟩
theorem tw_853 : Cond.methodLink "WeighedInBooks" 290 yX7_rankOf ∈ jm_tb := List.mem_filter.mpr ⟨List.mem_of_getElem? (i := 853) (by decide +kernel), by decide +kernel⟩
theorem tw_854 : Cond.instanceMethod yX7_rankOf ∈ jm_tb := List.mem_filter.mpr ⟨List.mem_of_getElem? (i := 854) (by decide +kernel), by decide +kernel⟩
theorem tw_855 : Cond.selects yX7_rankOf.cls yX7_rankOf yX7_rankOf ∈ jm_tb := List.mem_filter.mpr ⟨List.mem_of_getElem? (i := 855) (by decide +kernel), by decide +kernel⟩
theorem tw_856 : Cond.code yX7_rankOf cX7_rankOf 4 (some .int) ∈ jm_tb := List.mem_filter.mpr ⟨List.mem_of_getElem? (i := 856) (by decide +kernel), by decide +kernel⟩
theorem qX8_290 : jm_CV "WeighedInBooks" 290 yX7_rankOf cX7_rankOf 4 (some .int) 1 := ⟨tw_853, tw_854, tw_855, tw_83, tw_856, by decide, by decide, by decide +kernel⟩
theorem tw_857 : Cond.methodLink "WeighedInBooks" 293 yX7_firstTitleFrom ∈ jm_tb := List.mem_filter.mpr ⟨List.mem_of_getElem? (i := 857) (by decide +kernel), by decide +kernel⟩
theorem tw_858 : Cond.instanceMethod yX7_firstTitleFrom ∈ jm_tb := List.mem_filter.mpr ⟨List.mem_of_getElem? (i := 858) (by decide +kernel), by decide +kernel⟩
theorem tw_859 : Cond.selects yX7_firstTitleFrom.cls yX7_firstTitleFrom yX7_firstTitleFrom ∈ jm_tb := List.mem_filter.mpr ⟨List.mem_of_getElem? (i := 859) (by decide +kernel), by decide +kernel⟩
theorem tw_860 : Cond.code yX7_firstTitleFrom cX7_firstTitleFrom 4 (some .int) ∈ jm_tb := List.mem_filter.mpr ⟨List.mem_of_getElem? (i := 860) (by decide +kernel), by decide +kernel⟩
theorem qX8_293 : jm_CV "WeighedInBooks" 293 yX7_firstTitleFrom cX7_firstTitleFrom 4 (some .int) 1 := ⟨tw_857, tw_858, tw_859, tw_83, tw_860, by decide, by decide, by decide +kernel⟩
theorem tw_877 : Cond.methodLink "WeighedInBooks$Town" 126 yX7_priceOf ∈ jm_tb := List.mem_filter.mpr ⟨List.mem_of_getElem? (i := 877) (by decide +kernel), by decide +kernel⟩
theorem qX7_126 : jm_CV "WeighedInBooks$Town" 126 yX7_priceOf cX7_priceOf 6 (some .int) 1 := ⟨tw_877, tw_554, tw_555, tw_83, tw_556, by decide, by decide, by decide +kernel⟩
theorem tw_869 : Cond.methodLink "WeighedInBooks" 296 yX7_kindsHeldBy ∈ jm_tb := List.mem_filter.mpr ⟨List.mem_of_getElem? (i := 869) (by decide +kernel), by decide +kernel⟩
theorem tw_870 : Cond.instanceMethod yX7_kindsHeldBy ∈ jm_tb := List.mem_filter.mpr ⟨List.mem_of_getElem? (i := 870) (by decide +kernel), by decide +kernel⟩
theorem tw_871 : Cond.selects yX7_kindsHeldBy.cls yX7_kindsHeldBy yX7_kindsHeldBy ∈ jm_tb := List.mem_filter.mpr ⟨List.mem_of_getElem? (i := 871) (by decide +kernel), by decide +kernel⟩
theorem tw_872 : Cond.code yX7_kindsHeldBy cX7_kindsHeldBy 4 (some .int) ∈ jm_tb := List.mem_filter.mpr ⟨List.mem_of_getElem? (i := 872) (by decide +kernel), by decide +kernel⟩
theorem qX8_296 : jm_CV "WeighedInBooks" 296 yX7_kindsHeldBy cX7_kindsHeldBy 4 (some .int) 1 := ⟨tw_869, tw_870, tw_871, tw_83, tw_872, by decide, by decide, by decide +kernel⟩
theorem tw_873 : Cond.methodLink "WeighedInBooks" 299 yX7_pricesHeldBy ∈ jm_tb := List.mem_filter.mpr ⟨List.mem_of_getElem? (i := 873) (by decide +kernel), by decide +kernel⟩
theorem tw_874 : Cond.instanceMethod yX7_pricesHeldBy ∈ jm_tb := List.mem_filter.mpr ⟨List.mem_of_getElem? (i := 874) (by decide +kernel), by decide +kernel⟩
theorem tw_875 : Cond.selects yX7_pricesHeldBy.cls yX7_pricesHeldBy yX7_pricesHeldBy ∈ jm_tb := List.mem_filter.mpr ⟨List.mem_of_getElem? (i := 875) (by decide +kernel), by decide +kernel⟩
theorem tw_876 : Cond.code yX7_pricesHeldBy cX7_pricesHeldBy 4 (some .int) ∈ jm_tb := List.mem_filter.mpr ⟨List.mem_of_getElem? (i := 876) (by decide +kernel), by decide +kernel⟩
theorem qX8_299 : jm_CV "WeighedInBooks" 299 yX7_pricesHeldBy cX7_pricesHeldBy 4 (some .int) 1 := ⟨tw_873, tw_874, tw_875, tw_83, tw_876, by decide, by decide, by decide +kernel⟩
theorem tw_878 : Cond.methodLink "WeighedInBooks" 302 yX7_mostHeldKind ∈ jm_tb := List.mem_filter.mpr ⟨List.mem_of_getElem? (i := 878) (by decide +kernel), by decide +kernel⟩
theorem tw_879 : Cond.instanceMethod yX7_mostHeldKind ∈ jm_tb := List.mem_filter.mpr ⟨List.mem_of_getElem? (i := 879) (by decide +kernel), by decide +kernel⟩
theorem tw_880 : Cond.selects yX7_mostHeldKind.cls yX7_mostHeldKind yX7_mostHeldKind ∈ jm_tb := List.mem_filter.mpr ⟨List.mem_of_getElem? (i := 880) (by decide +kernel), by decide +kernel⟩
theorem tw_881 : Cond.code yX7_mostHeldKind cX7_mostHeldKind 7 (some .int) ∈ jm_tb := List.mem_filter.mpr ⟨List.mem_of_getElem? (i := 881) (by decide +kernel), by decide +kernel⟩
theorem qX8_302 : jm_CV "WeighedInBooks" 302 yX7_mostHeldKind cX7_mostHeldKind 7 (some .int) 1 := ⟨tw_878, tw_879, tw_880, tw_83, tw_881, by decide, by decide, by decide +kernel⟩
theorem tw_890 : Cond.methodLink "WeighedInBooks$Town" 112 Lib.Math.abs.name ∈ jm_tb := List.mem_filter.mpr ⟨List.mem_of_getElem? (i := 890) (by decide +kernel), by decide +kernel⟩
theorem tw_891 : Cond.static Lib.Math.abs.name ∈ jm_tb := List.mem_filter.mpr ⟨List.mem_of_getElem? (i := 891) (by decide +kernel), by decide +kernel⟩
theorem tw_892 : Cond.code Lib.Math.abs.name Lib.Math.abs.code 1 (some .int) ∈ jm_tb := List.mem_filter.mpr ⟨List.mem_of_getElem? (i := 892) (by decide +kernel), by decide +kernel⟩
theorem tw_897 : Cond.methodLink "WeighedInBooks$Town" 129 yX7_leastTownPrice ∈ jm_tb := List.mem_filter.mpr ⟨List.mem_of_getElem? (i := 897) (by decide +kernel), by decide +kernel⟩
theorem tw_898 : Cond.instanceMethod yX7_leastTownPrice ∈ jm_tb := List.mem_filter.mpr ⟨List.mem_of_getElem? (i := 898) (by decide +kernel), by decide +kernel⟩
theorem tw_899 : Cond.selects yX7_leastTownPrice.cls yX7_leastTownPrice yX7_leastTownPrice ∈ jm_tb := List.mem_filter.mpr ⟨List.mem_of_getElem? (i := 899) (by decide +kernel), by decide +kernel⟩
theorem tw_900 : Cond.code yX7_leastTownPrice cX7_leastTownPrice 4 (some .int) ∈ jm_tb := List.mem_filter.mpr ⟨List.mem_of_getElem? (i := 900) (by decide +kernel), by decide +kernel⟩
theorem qX7_129 : jm_CV "WeighedInBooks$Town" 129 yX7_leastTownPrice cX7_leastTownPrice 4 (some .int) 0 := ⟨tw_897, tw_898, tw_899, tw_83, tw_900, by decide, by decide, by decide +kernel⟩
theorem tw_886 : Cond.methodLink "WeighedInBooks" 305 yX7_closestTwo ∈ jm_tb := List.mem_filter.mpr ⟨List.mem_of_getElem? (i := 886) (by decide +kernel), by decide +kernel⟩
theorem tw_887 : Cond.instanceMethod yX7_closestTwo ∈ jm_tb := List.mem_filter.mpr ⟨List.mem_of_getElem? (i := 887) (by decide +kernel), by decide +kernel⟩
theorem tw_888 : Cond.selects yX7_closestTwo.cls yX7_closestTwo yX7_closestTwo ∈ jm_tb := List.mem_filter.mpr ⟨List.mem_of_getElem? (i := 888) (by decide +kernel), by decide +kernel⟩
theorem tw_889 : Cond.code yX7_closestTwo cX7_closestTwo 6 (some .int) ∈ jm_tb := List.mem_filter.mpr ⟨List.mem_of_getElem? (i := 889) (by decide +kernel), by decide +kernel⟩
theorem qX8_305 : jm_CV "WeighedInBooks" 305 yX7_closestTwo cX7_closestTwo 6 (some .int) 0 := ⟨tw_886, tw_887, tw_888, tw_83, tw_889, by decide, by decide, by decide +kernel⟩
theorem tw_893 : Cond.methodLink "WeighedInBooks" 309 yX7_poorPeople ∈ jm_tb := List.mem_filter.mpr ⟨List.mem_of_getElem? (i := 893) (by decide +kernel), by decide +kernel⟩
theorem tw_894 : Cond.instanceMethod yX7_poorPeople ∈ jm_tb := List.mem_filter.mpr ⟨List.mem_of_getElem? (i := 894) (by decide +kernel), by decide +kernel⟩
theorem tw_895 : Cond.selects yX7_poorPeople.cls yX7_poorPeople yX7_poorPeople ∈ jm_tb := List.mem_filter.mpr ⟨List.mem_of_getElem? (i := 895) (by decide +kernel), by decide +kernel⟩
theorem tw_896 : Cond.code yX7_poorPeople cX7_poorPeople 4 (some .int) ∈ jm_tb := List.mem_filter.mpr ⟨List.mem_of_getElem? (i := 896) (by decide +kernel), by decide +kernel⟩
theorem qX8_309 : jm_CV "WeighedInBooks" 309 yX7_poorPeople cX7_poorPeople 4 (some .int) 0 := ⟨tw_893, tw_894, tw_895, tw_83, tw_896, by decide, by decide, by decide +kernel⟩
theorem tw_901 : Cond.methodLink "WeighedInBooks" 312 yX7_unreadBooks ∈ jm_tb := List.mem_filter.mpr ⟨List.mem_of_getElem? (i := 901) (by decide +kernel), by decide +kernel⟩
theorem tw_902 : Cond.instanceMethod yX7_unreadBooks ∈ jm_tb := List.mem_filter.mpr ⟨List.mem_of_getElem? (i := 902) (by decide +kernel), by decide +kernel⟩
theorem tw_903 : Cond.selects yX7_unreadBooks.cls yX7_unreadBooks yX7_unreadBooks ∈ jm_tb := List.mem_filter.mpr ⟨List.mem_of_getElem? (i := 903) (by decide +kernel), by decide +kernel⟩
theorem tw_904 : Cond.code yX7_unreadBooks cX7_unreadBooks 3 (some .int) ∈ jm_tb := List.mem_filter.mpr ⟨List.mem_of_getElem? (i := 904) (by decide +kernel), by decide +kernel⟩
theorem qX8_312 : jm_CV "WeighedInBooks" 312 yX7_unreadBooks cX7_unreadBooks 3 (some .int) 0 := ⟨tw_901, tw_902, tw_903, tw_83, tw_904, by decide, by decide, by decide +kernel⟩
theorem tw_905 : Cond.methodLink "WeighedInBooks" 315 yX7_lentBooks ∈ jm_tb := List.mem_filter.mpr ⟨List.mem_of_getElem? (i := 905) (by decide +kernel), by decide +kernel⟩
theorem tw_906 : Cond.instanceMethod yX7_lentBooks ∈ jm_tb := List.mem_filter.mpr ⟨List.mem_of_getElem? (i := 906) (by decide +kernel), by decide +kernel⟩
theorem tw_907 : Cond.selects yX7_lentBooks.cls yX7_lentBooks yX7_lentBooks ∈ jm_tb := List.mem_filter.mpr ⟨List.mem_of_getElem? (i := 907) (by decide +kernel), by decide +kernel⟩
theorem tw_908 : Cond.code yX7_lentBooks cX7_lentBooks 3 (some .int) ∈ jm_tb := List.mem_filter.mpr ⟨List.mem_of_getElem? (i := 908) (by decide +kernel), by decide +kernel⟩
theorem qX8_315 : jm_CV "WeighedInBooks" 315 yX7_lentBooks cX7_lentBooks 3 (some .int) 0 := ⟨tw_905, tw_906, tw_907, tw_83, tw_908, by decide, by decide, by decide +kernel⟩
theorem tw_917 : Cond.methodLink "WeighedInBooks" 318 yX7_booksReadBy ∈ jm_tb := List.mem_filter.mpr ⟨List.mem_of_getElem? (i := 917) (by decide +kernel), by decide +kernel⟩
theorem qX8_318 : jm_CV "WeighedInBooks" 318 yX7_booksReadBy cX7_booksReadBy 4 (some .int) 1 := ⟨tw_917, tw_525, tw_526, tw_83, tw_527, by decide, by decide, by decide +kernel⟩
theorem fp_X8_254 : jm_Fp "WeighedInBooks" 254 6 10 .int := ⟨_, _, _, tyX8, rfl, by decide, inX8, tw_312, tyX8_ok, nmX8, rfl, by decide +kernel⟩
theorem tw_304 : Cond.fieldLink "WeighedInBooks" 23 "WeighedInBooks" "imaged" "LWeighedInBooks$Town;" ∈ jm_tb := List.mem_filter.mpr ⟨List.mem_of_getElem? (i := 304) (by decide +kernel), by decide +kernel⟩
theorem fl_X8_23 : jm_Fl "WeighedInBooks" 23 6 2 := ⟨_, _, _, rfl, by decide, inX8, tw_304⟩
theorem tw_938 : Cond.methodLink "WeighedInBooks" 321 yX7_copyFrom ∈ jm_tb := List.mem_filter.mpr ⟨List.mem_of_getElem? (i := 938) (by decide +kernel), by decide +kernel⟩
theorem qX8_321 : jm_CV "WeighedInBooks" 321 yX7_copyFrom cX7_copyFrom 2 none 1 := ⟨tw_938, tw_402, tw_403, tw_83, tw_404, by decide, by decide, by decide +kernel⟩
theorem tw_305 : Cond.fieldLink "WeighedInBooks" 324 "WeighedInBooks" "hasImage" "Z" ∈ jm_tb := List.mem_filter.mpr ⟨List.mem_of_getElem? (i := 305) (by decide +kernel), by decide +kernel⟩
theorem fp_X8_324 : jm_Fp "WeighedInBooks" 324 6 3 .boolean := ⟨_, _, _, tyX8, rfl, by decide, inX8, tw_305, tyX8_ok, nmX8, rfl, by decide +kernel⟩
theorem fl_X8_324 : jm_Fl "WeighedInBooks" 324 6 3 := ⟨_, _, _, rfl, by decide, inX8, tw_305⟩
theorem tw_947 : Cond.methodLink "WeighedInBooks" 328 yX7_weightOfAll ∈ jm_tb := List.mem_filter.mpr ⟨List.mem_of_getElem? (i := 947) (by decide +kernel), by decide +kernel⟩
theorem tw_948 : Cond.instanceMethod yX7_weightOfAll ∈ jm_tb := List.mem_filter.mpr ⟨List.mem_of_getElem? (i := 948) (by decide +kernel), by decide +kernel⟩
theorem tw_949 : Cond.selects yX7_weightOfAll.cls yX7_weightOfAll yX7_weightOfAll ∈ jm_tb := List.mem_filter.mpr ⟨List.mem_of_getElem? (i := 949) (by decide +kernel), by decide +kernel⟩
theorem tw_950 : Cond.code yX7_weightOfAll cX7_weightOfAll 3 (some .int) ∈ jm_tb := List.mem_filter.mpr ⟨List.mem_of_getElem? (i := 950) (by decide +kernel), by decide +kernel⟩
theorem qX8_328 : jm_CV "WeighedInBooks" 328 yX7_weightOfAll cX7_weightOfAll 3 (some .int) 0 := ⟨tw_947, tw_948, tw_949, tw_83, tw_950, by decide, by decide, by decide +kernel⟩
theorem tw_951 : Cond.methodLink "WeighedInBooks" 331 yX7_twosDown ∈ jm_tb := List.mem_filter.mpr ⟨List.mem_of_getElem? (i := 951) (by decide +kernel), by decide +kernel⟩
theorem qX8_331 : jm_CV "WeighedInBooks" 331 yX7_twosDown cX7_twosDown 4 (some .int) 0 := ⟨tw_951, tw_845, tw_846, tw_83, tw_847, by decide, by decide, by decide +kernel⟩
theorem tw_958 : Cond.fieldLink "WeighedInBooksModel" 7 "WeighedInBooksModel" "refused" "[I" ∈ jm_tb := List.mem_filter.mpr ⟨List.mem_of_getElem? (i := 958) (by decide +kernel), by decide +kernel⟩
theorem fl_X9_7 : jm_Fl "WeighedInBooksModel" 7 7 0 := ⟨_, _, _, rfl, by decide, inX9, tw_958⟩
theorem tw_1357 : Cond.constant "WeighedInBooksModel" 95 (1000000000) ∈ jm_tb := List.mem_filter.mpr ⟨List.mem_of_getElem? (i := 1357) (by decide +kernel), by decide +kernel⟩
theorem tw_1485 : Cond.constantLong "WeighedInBooksModel" 96 (4000000000000000000) ∈ jm_tb := List.mem_filter.mpr ⟨List.mem_of_getElem? (i := 1485) (by decide +kernel), by decide +kernel⟩
theorem tw_971 : Cond.fieldLink "WeighedInBooksModel" 91 "WeighedInBooksModel" "people" "I" ∈ jm_tb := List.mem_filter.mpr ⟨List.mem_of_getElem? (i := 971) (by decide +kernel), by decide +kernel⟩
theorem fl_X9_91 : jm_Fl "WeighedInBooksModel" 91 7 13 := ⟨_, _, _, rfl, by decide, inX9, tw_971⟩
theorem tw_1126 : Cond.methodLink "WeighedInBooksModel" 98 yX9_isIn ∈ jm_tb := List.mem_filter.mpr ⟨List.mem_of_getElem? (i := 1126) (by decide +kernel), by decide +kernel⟩
theorem tw_1127 : Cond.static yX9_isIn ∈ jm_tb := List.mem_filter.mpr ⟨List.mem_of_getElem? (i := 1127) (by decide +kernel), by decide +kernel⟩
theorem tw_89 : Cond.initialized yX9_isIn.cls ∈ jm_tb := List.mem_filter.mpr ⟨List.mem_of_getElem? (i := 89) (by decide +kernel), by decide +kernel⟩
theorem tw_1128 : Cond.code yX9_isIn cX9_isIn 3 (some .boolean) ∈ jm_tb := List.mem_filter.mpr ⟨List.mem_of_getElem? (i := 1128) (by decide +kernel), by decide +kernel⟩
theorem qX9_98 : jm_CS "WeighedInBooksModel" 98 yX9_isIn cX9_isIn 3 (some .boolean) 3 := ⟨tw_1126, tw_1127, tw_89, tw_1128, by decide, by decide, by decide +kernel⟩
theorem tw_1172 : Cond.methodLink "WeighedInBooksModel" 102 yX9_isPerson ∈ jm_tb := List.mem_filter.mpr ⟨List.mem_of_getElem? (i := 1172) (by decide +kernel), by decide +kernel⟩
theorem tw_1174 : Cond.instanceMethod yX9_isPerson ∈ jm_tb := List.mem_filter.mpr ⟨List.mem_of_getElem? (i := 1174) (by decide +kernel), by decide +kernel⟩
theorem tw_21 : Cond.selects yX9_isPerson.cls yX9_isPerson yX9_isPerson ∈ jm_tb := List.mem_filter.mpr ⟨List.mem_of_getElem? (i := 21) (by decide +kernel), by decide +kernel⟩
theorem tw_1175 : Cond.code yX9_isPerson cX9_isPerson 2 (some .boolean) ∈ jm_tb := List.mem_filter.mpr ⟨List.mem_of_getElem? (i := 1175) (by decide +kernel), by decide +kernel⟩
theorem qX9_102 : jm_CV "WeighedInBooksModel" 102 yX9_isPerson cX9_isPerson 2 (some .boolean) 1 := ⟨tw_1172, tw_1174, tw_21, tw_89, tw_1175, by decide, by decide, by decide +kernel⟩
theorem tw_972 : Cond.fieldLink "WeighedInBooksModel" 106 "WeighedInBooksModel" "books" "I" ∈ jm_tb := List.mem_filter.mpr ⟨List.mem_of_getElem? (i := 972) (by decide +kernel), by decide +kernel⟩
theorem fl_X9_106 : jm_Fl "WeighedInBooksModel" 106 7 14 := ⟨_, _, _, rfl, by decide, inX9, tw_972⟩
theorem tw_966 : Cond.fieldLink "WeighedInBooksModel" 34 "WeighedInBooksModel" "readBy" "[I" ∈ jm_tb := List.mem_filter.mpr ⟨List.mem_of_getElem? (i := 966) (by decide +kernel), by decide +kernel⟩
theorem fl_X9_34 : jm_Fl "WeighedInBooksModel" 34 7 8 := ⟨_, _, _, rfl, by decide, inX9, tw_966⟩
theorem tw_1266 : Cond.methodLink "WeighedInBooksModel" 109 yX9_bits ∈ jm_tb := List.mem_filter.mpr ⟨List.mem_of_getElem? (i := 1266) (by decide +kernel), by decide +kernel⟩
theorem tw_1267 : Cond.static yX9_bits ∈ jm_tb := List.mem_filter.mpr ⟨List.mem_of_getElem? (i := 1267) (by decide +kernel), by decide +kernel⟩
theorem tw_1268 : Cond.code yX9_bits cX9_bits 3 (some .int) ∈ jm_tb := List.mem_filter.mpr ⟨List.mem_of_getElem? (i := 1268) (by decide +kernel), by decide +kernel⟩
theorem qX9_109 : jm_CS "WeighedInBooksModel" 109 yX9_bits cX9_bits 3 (some .int) 1 := ⟨tw_1266, tw_1267, tw_89, tw_1268, by decide, by decide, by decide +kernel⟩
theorem tw_963 : Cond.fieldLink "WeighedInBooksModel" 25 "WeighedInBooksModel" "figure" "[I" ∈ jm_tb := List.mem_filter.mpr ⟨List.mem_of_getElem? (i := 963) (by decide +kernel), by decide +kernel⟩
theorem fl_X9_25 : jm_Fl "WeighedInBooksModel" 25 7 5 := ⟨_, _, _, rfl, by decide, inX9, tw_963⟩
theorem tw_962 : Cond.fieldLink "WeighedInBooksModel" 22 "WeighedInBooksModel" "kind" "[I" ∈ jm_tb := List.mem_filter.mpr ⟨List.mem_of_getElem? (i := 962) (by decide +kernel), by decide +kernel⟩
theorem fl_X9_22 : jm_Fl "WeighedInBooksModel" 22 7 4 := ⟨_, _, _, rfl, by decide, inX9, tw_962⟩
theorem tw_1269 : Cond.methodLink "WeighedInBooksModel" 113 yX9_asNovel ∈ jm_tb := List.mem_filter.mpr ⟨List.mem_of_getElem? (i := 1269) (by decide +kernel), by decide +kernel⟩
theorem tw_1271 : Cond.instanceMethod yX9_asNovel ∈ jm_tb := List.mem_filter.mpr ⟨List.mem_of_getElem? (i := 1271) (by decide +kernel), by decide +kernel⟩
theorem tw_38 : Cond.selects yX9_asNovel.cls yX9_asNovel yX9_asNovel ∈ jm_tb := List.mem_filter.mpr ⟨List.mem_of_getElem? (i := 38) (by decide +kernel), by decide +kernel⟩
theorem tw_1272 : Cond.code yX9_asNovel cX9_asNovel 3 (some .int) ∈ jm_tb := List.mem_filter.mpr ⟨List.mem_of_getElem? (i := 1272) (by decide +kernel), by decide +kernel⟩
theorem qX9_113 : jm_CV "WeighedInBooksModel" 113 yX9_asNovel cX9_asNovel 3 (some .int) 1 := ⟨tw_1269, tw_1271, tw_38, tw_89, tw_1272, by decide, by decide, by decide +kernel⟩
theorem tw_967 : Cond.fieldLink "WeighedInBooksModel" 37 "WeighedInBooksModel" "titleMany" "[I" ∈ jm_tb := List.mem_filter.mpr ⟨List.mem_of_getElem? (i := 967) (by decide +kernel), by decide +kernel⟩
theorem fl_X9_37 : jm_Fl "WeighedInBooksModel" 37 7 9 := ⟨_, _, _, rfl, by decide, inX9, tw_967⟩
theorem tw_973 : Cond.fieldLink "WeighedInBooksModel" 116 "WeighedInBooksModel" "week" "I" ∈ jm_tb := List.mem_filter.mpr ⟨List.mem_of_getElem? (i := 973) (by decide +kernel), by decide +kernel⟩
theorem fl_X9_116 : jm_Fl "WeighedInBooksModel" 116 7 15 := ⟨_, _, _, rfl, by decide, inX9, tw_973⟩
theorem tw_970 : Cond.fieldLink "WeighedInBooksModel" 46 "WeighedInBooksModel" "stepN" "[I" ∈ jm_tb := List.mem_filter.mpr ⟨List.mem_of_getElem? (i := 970) (by decide +kernel), by decide +kernel⟩
theorem fl_X9_46 : jm_Fl "WeighedInBooksModel" 46 7 12 := ⟨_, _, _, rfl, by decide, inX9, tw_970⟩
theorem tw_969 : Cond.fieldLink "WeighedInBooksModel" 43 "WeighedInBooksModel" "stepKind" "[I" ∈ jm_tb := List.mem_filter.mpr ⟨List.mem_of_getElem? (i := 969) (by decide +kernel), by decide +kernel⟩
theorem fl_X9_43 : jm_Fl "WeighedInBooksModel" 43 7 11 := ⟨_, _, _, rfl, by decide, inX9, tw_969⟩
theorem tw_1262 : Cond.methodLink "WeighedInBooksModel" 119 yX9_weighs ∈ jm_tb := List.mem_filter.mpr ⟨List.mem_of_getElem? (i := 1262) (by decide +kernel), by decide +kernel⟩
theorem tw_1264 : Cond.instanceMethod yX9_weighs ∈ jm_tb := List.mem_filter.mpr ⟨List.mem_of_getElem? (i := 1264) (by decide +kernel), by decide +kernel⟩
theorem tw_37 : Cond.selects yX9_weighs.cls yX9_weighs yX9_weighs ∈ jm_tb := List.mem_filter.mpr ⟨List.mem_of_getElem? (i := 37) (by decide +kernel), by decide +kernel⟩
theorem tw_1265 : Cond.code yX9_weighs cX9_weighs 4 (some .int) ∈ jm_tb := List.mem_filter.mpr ⟨List.mem_of_getElem? (i := 1265) (by decide +kernel), by decide +kernel⟩
theorem qX9_119 : jm_CV "WeighedInBooksModel" 119 yX9_weighs cX9_weighs 4 (some .int) 1 := ⟨tw_1262, tw_1264, tw_37, tw_89, tw_1265, by decide, by decide, by decide +kernel⟩
theorem tw_974 : Cond.fieldLink "WeighedInBooksModel" 122 "WeighedInBooksModel" "steps" "I" ∈ jm_tb := List.mem_filter.mpr ⟨List.mem_of_getElem? (i := 974) (by decide +kernel), by decide +kernel⟩
theorem fl_X9_122 : jm_Fl "WeighedInBooksModel" 122 7 16 := ⟨_, _, _, rfl, by decide, inX9, tw_974⟩
theorem tw_1349 : Cond.methodLink "WeighedInBooksModel" 125 yX9_byStep ∈ jm_tb := List.mem_filter.mpr ⟨List.mem_of_getElem? (i := 1349) (by decide +kernel), by decide +kernel⟩
theorem tw_1351 : Cond.instanceMethod yX9_byStep ∈ jm_tb := List.mem_filter.mpr ⟨List.mem_of_getElem? (i := 1351) (by decide +kernel), by decide +kernel⟩
theorem tw_47 : Cond.selects yX9_byStep.cls yX9_byStep yX9_byStep ∈ jm_tb := List.mem_filter.mpr ⟨List.mem_of_getElem? (i := 47) (by decide +kernel), by decide +kernel⟩
theorem tw_1352 : Cond.code yX9_byStep cX9_byStep 5 (some .int) ∈ jm_tb := List.mem_filter.mpr ⟨List.mem_of_getElem? (i := 1352) (by decide +kernel), by decide +kernel⟩
theorem qX9_125 : jm_CV "WeighedInBooksModel" 125 yX9_byStep cX9_byStep 5 (some .int) 3 := ⟨tw_1349, tw_1351, tw_47, tw_89, tw_1352, by decide, by decide, by decide +kernel⟩
theorem tw_965 : Cond.fieldLink "WeighedInBooksModel" 31 "WeighedInBooksModel" "holder" "[I" ∈ jm_tb := List.mem_filter.mpr ⟨List.mem_of_getElem? (i := 965) (by decide +kernel), by decide +kernel⟩
theorem fl_X9_31 : jm_Fl "WeighedInBooksModel" 31 7 7 := ⟨_, _, _, rfl, by decide, inX9, tw_965⟩
theorem tw_959 : Cond.fieldLink "WeighedInBooksModel" 13 "WeighedInBooksModel" "weight" "[I" ∈ jm_tb := List.mem_filter.mpr ⟨List.mem_of_getElem? (i := 959) (by decide +kernel), by decide +kernel⟩
theorem fl_X9_13 : jm_Fl "WeighedInBooksModel" 13 7 1 := ⟨_, _, _, rfl, by decide, inX9, tw_959⟩
theorem tw_1341 : Cond.methodLink "WeighedInBooksModel" 129 yX9_isHeld ∈ jm_tb := List.mem_filter.mpr ⟨List.mem_of_getElem? (i := 1341) (by decide +kernel), by decide +kernel⟩
theorem tw_1343 : Cond.instanceMethod yX9_isHeld ∈ jm_tb := List.mem_filter.mpr ⟨List.mem_of_getElem? (i := 1343) (by decide +kernel), by decide +kernel⟩
theorem tw_45 : Cond.selects yX9_isHeld.cls yX9_isHeld yX9_isHeld ∈ jm_tb := List.mem_filter.mpr ⟨List.mem_of_getElem? (i := 45) (by decide +kernel), by decide +kernel⟩
theorem tw_1344 : Cond.code yX9_isHeld cX9_isHeld 4 (some .boolean) ∈ jm_tb := List.mem_filter.mpr ⟨List.mem_of_getElem? (i := 1344) (by decide +kernel), by decide +kernel⟩
theorem qX9_129 : jm_CV "WeighedInBooksModel" 129 yX9_isHeld cX9_isHeld 4 (some .boolean) 3 := ⟨tw_1341, tw_1343, tw_45, tw_89, tw_1344, by decide, by decide, by decide +kernel⟩
theorem tw_1224 : Cond.methodLink "WeighedInBooksModel" 132 yX9_has ∈ jm_tb := List.mem_filter.mpr ⟨List.mem_of_getElem? (i := 1224) (by decide +kernel), by decide +kernel⟩
theorem tw_1225 : Cond.static yX9_has ∈ jm_tb := List.mem_filter.mpr ⟨List.mem_of_getElem? (i := 1225) (by decide +kernel), by decide +kernel⟩
theorem tw_1226 : Cond.code yX9_has cX9_has 2 (some .boolean) ∈ jm_tb := List.mem_filter.mpr ⟨List.mem_of_getElem? (i := 1226) (by decide +kernel), by decide +kernel⟩
theorem qX9_132 : jm_CS "WeighedInBooksModel" 132 yX9_has cX9_has 2 (some .boolean) 2 := ⟨tw_1224, tw_1225, tw_89, tw_1226, by decide, by decide, by decide +kernel⟩
theorem tw_1345 : Cond.methodLink "WeighedInBooksModel" 136 yX9_comesTo ∈ jm_tb := List.mem_filter.mpr ⟨List.mem_of_getElem? (i := 1345) (by decide +kernel), by decide +kernel⟩
theorem tw_1347 : Cond.instanceMethod yX9_comesTo ∈ jm_tb := List.mem_filter.mpr ⟨List.mem_of_getElem? (i := 1347) (by decide +kernel), by decide +kernel⟩
theorem tw_46 : Cond.selects yX9_comesTo.cls yX9_comesTo yX9_comesTo ∈ jm_tb := List.mem_filter.mpr ⟨List.mem_of_getElem? (i := 46) (by decide +kernel), by decide +kernel⟩
theorem tw_1348 : Cond.code yX9_comesTo cX9_comesTo 7 (some .int) ∈ jm_tb := List.mem_filter.mpr ⟨List.mem_of_getElem? (i := 1348) (by decide +kernel), by decide +kernel⟩
theorem qX9_136 : jm_CV "WeighedInBooksModel" 136 yX9_comesTo cX9_comesTo 7 (some .int) 3 := ⟨tw_1345, tw_1347, tw_46, tw_89, tw_1348, by decide, by decide, by decide +kernel⟩
theorem tw_1337 : Cond.methodLink "WeighedInBooksModel" 139 yX9_overWith ∈ jm_tb := List.mem_filter.mpr ⟨List.mem_of_getElem? (i := 1337) (by decide +kernel), by decide +kernel⟩
theorem tw_1339 : Cond.instanceMethod yX9_overWith ∈ jm_tb := List.mem_filter.mpr ⟨List.mem_of_getElem? (i := 1339) (by decide +kernel), by decide +kernel⟩
theorem tw_44 : Cond.selects yX9_overWith.cls yX9_overWith yX9_overWith ∈ jm_tb := List.mem_filter.mpr ⟨List.mem_of_getElem? (i := 44) (by decide +kernel), by decide +kernel⟩
theorem tw_1340 : Cond.code yX9_overWith cX9_overWith 6 (some .int) ∈ jm_tb := List.mem_filter.mpr ⟨List.mem_of_getElem? (i := 1340) (by decide +kernel), by decide +kernel⟩
theorem qX9_139 : jm_CV "WeighedInBooksModel" 139 yX9_overWith cX9_overWith 6 (some .int) 3 := ⟨tw_1337, tw_1339, tw_44, tw_89, tw_1340, by decide, by decide, by decide +kernel⟩
theorem tw_1333 : Cond.methodLink "WeighedInBooksModel" 142 yX9_overNow ∈ jm_tb := List.mem_filter.mpr ⟨List.mem_of_getElem? (i := 1333) (by decide +kernel), by decide +kernel⟩
theorem tw_1335 : Cond.instanceMethod yX9_overNow ∈ jm_tb := List.mem_filter.mpr ⟨List.mem_of_getElem? (i := 1335) (by decide +kernel), by decide +kernel⟩
theorem tw_43 : Cond.selects yX9_overNow.cls yX9_overNow yX9_overNow ∈ jm_tb := List.mem_filter.mpr ⟨List.mem_of_getElem? (i := 43) (by decide +kernel), by decide +kernel⟩
theorem tw_1336 : Cond.code yX9_overNow cX9_overNow 3 (some .int) ∈ jm_tb := List.mem_filter.mpr ⟨List.mem_of_getElem? (i := 1336) (by decide +kernel), by decide +kernel⟩
theorem qX9_142 : jm_CV "WeighedInBooksModel" 142 yX9_overNow cX9_overNow 3 (some .int) 2 := ⟨tw_1333, tw_1335, tw_43, tw_89, tw_1336, by decide, by decide, by decide +kernel⟩
theorem tw_968 : Cond.fieldLink "WeighedInBooksModel" 40 "WeighedInBooksModel" "title" "[I" ∈ jm_tb := List.mem_filter.mpr ⟨List.mem_of_getElem? (i := 968) (by decide +kernel), by decide +kernel⟩
theorem fl_X9_40 : jm_Fl "WeighedInBooksModel" 40 7 10 := ⟨_, _, _, rfl, by decide, inX9, tw_968⟩
theorem tw_1227 : Cond.methodLink "WeighedInBooksModel" 146 yX9_compares ∈ jm_tb := List.mem_filter.mpr ⟨List.mem_of_getElem? (i := 1227) (by decide +kernel), by decide +kernel⟩
theorem tw_1229 : Cond.instanceMethod yX9_compares ∈ jm_tb := List.mem_filter.mpr ⟨List.mem_of_getElem? (i := 1229) (by decide +kernel), by decide +kernel⟩
theorem tw_34 : Cond.selects yX9_compares.cls yX9_compares yX9_compares ∈ jm_tb := List.mem_filter.mpr ⟨List.mem_of_getElem? (i := 34) (by decide +kernel), by decide +kernel⟩
theorem tw_1230 : Cond.code yX9_compares cX9_compares 6 (some .int) ∈ jm_tb := List.mem_filter.mpr ⟨List.mem_of_getElem? (i := 1230) (by decide +kernel), by decide +kernel⟩
theorem qX9_146 : jm_CV "WeighedInBooksModel" 146 yX9_compares cX9_compares 6 (some .int) 2 := ⟨tw_1227, tw_1229, tw_34, tw_89, tw_1230, by decide, by decide, by decide +kernel⟩
theorem tw_1496 : Cond.methodLink "WeighedInBooksModel" 149 yX9_rankOf ∈ jm_tb := List.mem_filter.mpr ⟨List.mem_of_getElem? (i := 1496) (by decide +kernel), by decide +kernel⟩
theorem tw_1498 : Cond.instanceMethod yX9_rankOf ∈ jm_tb := List.mem_filter.mpr ⟨List.mem_of_getElem? (i := 1498) (by decide +kernel), by decide +kernel⟩
theorem tw_67 : Cond.selects yX9_rankOf.cls yX9_rankOf yX9_rankOf ∈ jm_tb := List.mem_filter.mpr ⟨List.mem_of_getElem? (i := 67) (by decide +kernel), by decide +kernel⟩
theorem tw_1499 : Cond.code yX9_rankOf cX9_rankOf 4 (some .int) ∈ jm_tb := List.mem_filter.mpr ⟨List.mem_of_getElem? (i := 1499) (by decide +kernel), by decide +kernel⟩
theorem qX9_149 : jm_CV "WeighedInBooksModel" 149 yX9_rankOf cX9_rankOf 4 (some .int) 1 := ⟨tw_1496, tw_1498, tw_67, tw_89, tw_1499, by decide, by decide, by decide +kernel⟩
theorem tw_960 : Cond.fieldLink "WeighedInBooksModel" 16 "WeighedInBooksModel" "appetite" "[I" ∈ jm_tb := List.mem_filter.mpr ⟨List.mem_of_getElem? (i := 960) (by decide +kernel), by decide +kernel⟩
theorem fl_X9_16 : jm_Fl "WeighedInBooksModel" 16 7 2 := ⟨_, _, _, rfl, by decide, inX9, tw_960⟩
theorem tw_975 : Cond.fieldLink "WeighedInBooksModel" 152 "WeighedInBooksModel" "isDamp" "Z" ∈ jm_tb := List.mem_filter.mpr ⟨List.mem_of_getElem? (i := 975) (by decide +kernel), by decide +kernel⟩
theorem fl_X9_152 : jm_Fl "WeighedInBooksModel" 152 7 17 := ⟨_, _, _, rfl, by decide, inX9, tw_975⟩
theorem tw_1220 : Cond.methodLink "WeighedInBooksModel" 156 yX9_toRead ∈ jm_tb := List.mem_filter.mpr ⟨List.mem_of_getElem? (i := 1220) (by decide +kernel), by decide +kernel⟩
theorem tw_1222 : Cond.instanceMethod yX9_toRead ∈ jm_tb := List.mem_filter.mpr ⟨List.mem_of_getElem? (i := 1222) (by decide +kernel), by decide +kernel⟩
theorem tw_33 : Cond.selects yX9_toRead.cls yX9_toRead yX9_toRead ∈ jm_tb := List.mem_filter.mpr ⟨List.mem_of_getElem? (i := 33) (by decide +kernel), by decide +kernel⟩
theorem tw_1223 : Cond.code yX9_toRead cX9_toRead 4 (some .int) ∈ jm_tb := List.mem_filter.mpr ⟨List.mem_of_getElem? (i := 1223) (by decide +kernel), by decide +kernel⟩
theorem qX9_156 : jm_CV "WeighedInBooksModel" 156 yX9_toRead cX9_toRead 4 (some .int) 1 := ⟨tw_1220, tw_1222, tw_33, tw_89, tw_1223, by decide, by decide, by decide +kernel⟩
theorem tw_964 : Cond.fieldLink "WeighedInBooksModel" 28 "WeighedInBooksModel" "owner" "[I" ∈ jm_tb := List.mem_filter.mpr ⟨List.mem_of_getElem? (i := 964) (by decide +kernel), by decide +kernel⟩
theorem fl_X9_28 : jm_Fl "WeighedInBooksModel" 28 7 6 := ⟨_, _, _, rfl, by decide, inX9, tw_964⟩
theorem fp_X9_116 : jm_Fp "WeighedInBooksModel" 116 7 15 .int := ⟨_, _, _, tyX9, rfl, by decide, inX9, tw_973, tyX9_ok, nmX9, rfl, by decide +kernel⟩
theorem tw_1216 : Cond.methodLink "WeighedInBooksModel" 159 yX9_goesPerson ∈ jm_tb := List.mem_filter.mpr ⟨List.mem_of_getElem? (i := 1216) (by decide +kernel), by decide +kernel⟩
theorem tw_1218 : Cond.instanceMethod yX9_goesPerson ∈ jm_tb := List.mem_filter.mpr ⟨List.mem_of_getElem? (i := 1218) (by decide +kernel), by decide +kernel⟩
theorem tw_32 : Cond.selects yX9_goesPerson.cls yX9_goesPerson yX9_goesPerson ∈ jm_tb := List.mem_filter.mpr ⟨List.mem_of_getElem? (i := 32) (by decide +kernel), by decide +kernel⟩
theorem tw_1219 : Cond.code yX9_goesPerson cX9_goesPerson 3 none ∈ jm_tb := List.mem_filter.mpr ⟨List.mem_of_getElem? (i := 1219) (by decide +kernel), by decide +kernel⟩
theorem qX9_159 : jm_CV "WeighedInBooksModel" 159 yX9_goesPerson cX9_goesPerson 3 none 1 := ⟨tw_1216, tw_1218, tw_32, tw_89, tw_1219, by decide, by decide, by decide +kernel⟩
theorem tw_1212 : Cond.methodLink "WeighedInBooksModel" 163 yX9_goesWeek ∈ jm_tb := List.mem_filter.mpr ⟨List.mem_of_getElem? (i := 1212) (by decide +kernel), by decide +kernel⟩
theorem tw_1214 : Cond.instanceMethod yX9_goesWeek ∈ jm_tb := List.mem_filter.mpr ⟨List.mem_of_getElem? (i := 1214) (by decide +kernel), by decide +kernel⟩
theorem tw_31 : Cond.selects yX9_goesWeek.cls yX9_goesWeek yX9_goesWeek ∈ jm_tb := List.mem_filter.mpr ⟨List.mem_of_getElem? (i := 31) (by decide +kernel), by decide +kernel⟩
theorem tw_1215 : Cond.code yX9_goesWeek cX9_goesWeek 2 none ∈ jm_tb := List.mem_filter.mpr ⟨List.mem_of_getElem? (i := 1215) (by decide +kernel), by decide +kernel⟩
theorem qX9_163 : jm_CV "WeighedInBooksModel" 163 yX9_goesWeek cX9_goesWeek 2 none 0 := ⟨tw_1212, tw_1214, tw_31, tw_89, tw_1215, by decide, by decide, by decide +kernel⟩
theorem tw_1095 : Cond.methodLink "WeighedInBooksModel" 166 yX9_bound ∈ jm_tb := List.mem_filter.mpr ⟨List.mem_of_getElem? (i := 1095) (by decide +kernel), by decide +kernel⟩
theorem tw_1096 : Cond.static yX9_bound ∈ jm_tb := List.mem_filter.mpr ⟨List.mem_of_getElem? (i := 1096) (by decide +kernel), by decide +kernel⟩
theorem tw_1097 : Cond.code yX9_bound cX9_bound 3 (some .int) ∈ jm_tb := List.mem_filter.mpr ⟨List.mem_of_getElem? (i := 1097) (by decide +kernel), by decide +kernel⟩
theorem qX9_166 : jm_CS "WeighedInBooksModel" 166 yX9_bound cX9_bound 3 (some .int) 3 := ⟨tw_1095, tw_1096, tw_89, tw_1097, by decide, by decide, by decide +kernel⟩
theorem tw_984 : Cond.fieldLink "WeighedInBooksModel" 169 "WeighedInBooksModel" "taped" "I" ∈ jm_tb := List.mem_filter.mpr ⟨List.mem_of_getElem? (i := 984) (by decide +kernel), by decide +kernel⟩
theorem fl_X9_169 : jm_Fl "WeighedInBooksModel" 169 7 26 := ⟨_, _, _, rfl, by decide, inX9, tw_984⟩
theorem tw_976 : Cond.fieldLink "WeighedInBooksModel" 49 "WeighedInBooksModel" "tape" "[I" ∈ jm_tb := List.mem_filter.mpr ⟨List.mem_of_getElem? (i := 976) (by decide +kernel), by decide +kernel⟩
theorem fl_X9_49 : jm_Fl "WeighedInBooksModel" 49 7 18 := ⟨_, _, _, rfl, by decide, inX9, tw_976⟩
theorem fp_X9_169 : jm_Fp "WeighedInBooksModel" 169 7 26 .int := ⟨_, _, _, tyX9, rfl, by decide, inX9, tw_984, tyX9_ok, nmX9, rfl, by decide +kernel⟩
theorem tw_1098 : Cond.methodLink "WeighedInBooksModel" 172 yX9_no ∈ jm_tb := List.mem_filter.mpr ⟨List.mem_of_getElem? (i := 1098) (by decide +kernel), by decide +kernel⟩
theorem tw_1100 : Cond.instanceMethod yX9_no ∈ jm_tb := List.mem_filter.mpr ⟨List.mem_of_getElem? (i := 1100) (by decide +kernel), by decide +kernel⟩
theorem tw_5 : Cond.selects yX9_no.cls yX9_no yX9_no ∈ jm_tb := List.mem_filter.mpr ⟨List.mem_of_getElem? (i := 5) (by decide +kernel), by decide +kernel⟩
theorem tw_1101 : Cond.code yX9_no cX9_no 2 (some .int) ∈ jm_tb := List.mem_filter.mpr ⟨List.mem_of_getElem? (i := 1101) (by decide +kernel), by decide +kernel⟩
theorem qX9_172 : jm_CV "WeighedInBooksModel" 172 yX9_no cX9_no 2 (some .int) 1 := ⟨tw_1098, tw_1100, tw_5, tw_89, tw_1101, by decide, by decide, by decide +kernel⟩
theorem tw_985 : Cond.fieldLink "WeighedInBooksModel" 175 "WeighedInBooksModel" "reading" "I" ∈ jm_tb := List.mem_filter.mpr ⟨List.mem_of_getElem? (i := 985) (by decide +kernel), by decide +kernel⟩
theorem fl_X9_175 : jm_Fl "WeighedInBooksModel" 175 7 27 := ⟨_, _, _, rfl, by decide, inX9, tw_985⟩
theorem tw_1110 : Cond.methodLink "WeighedInBooksModel" 178 yX9_sign ∈ jm_tb := List.mem_filter.mpr ⟨List.mem_of_getElem? (i := 1110) (by decide +kernel), by decide +kernel⟩
theorem tw_1112 : Cond.instanceMethod yX9_sign ∈ jm_tb := List.mem_filter.mpr ⟨List.mem_of_getElem? (i := 1112) (by decide +kernel), by decide +kernel⟩
theorem tw_7 : Cond.selects yX9_sign.cls yX9_sign yX9_sign ∈ jm_tb := List.mem_filter.mpr ⟨List.mem_of_getElem? (i := 7) (by decide +kernel), by decide +kernel⟩
theorem tw_1113 : Cond.code yX9_sign cX9_sign 1 (some .int) ∈ jm_tb := List.mem_filter.mpr ⟨List.mem_of_getElem? (i := 1113) (by decide +kernel), by decide +kernel⟩
theorem qX9_178 : jm_CV "WeighedInBooksModel" 178 yX9_sign cX9_sign 1 (some .int) 0 := ⟨tw_1110, tw_1112, tw_7, tw_89, tw_1113, by decide, by decide, by decide +kernel⟩
theorem fp_X9_175 : jm_Fp "WeighedInBooksModel" 175 7 27 .int := ⟨_, _, _, tyX9, rfl, by decide, inX9, tw_985, tyX9_ok, nmX9, rfl, by decide +kernel⟩
theorem tw_979 : Cond.fieldLink "WeighedInBooksModel" 58 "WeighedInBooksModel" "told" "[I" ∈ jm_tb := List.mem_filter.mpr ⟨List.mem_of_getElem? (i := 979) (by decide +kernel), by decide +kernel⟩
theorem fl_X9_58 : jm_Fl "WeighedInBooksModel" 58 7 21 := ⟨_, _, _, rfl, by decide, inX9, tw_979⟩
theorem tw_987 : Cond.fieldLink "WeighedInBooksModel" 182 "WeighedInBooksModel" "telling" "I" ∈ jm_tb := List.mem_filter.mpr ⟨List.mem_of_getElem? (i := 987) (by decide +kernel), by decide +kernel⟩
theorem fl_X9_182 : jm_Fl "WeighedInBooksModel" 182 7 29 := ⟨_, _, _, rfl, by decide, inX9, tw_987⟩
theorem tw_1122 : Cond.methodLink "WeighedInBooksModel" 185 yX9_number ∈ jm_tb := List.mem_filter.mpr ⟨List.mem_of_getElem? (i := 1122) (by decide +kernel), by decide +kernel⟩
theorem tw_1124 : Cond.instanceMethod yX9_number ∈ jm_tb := List.mem_filter.mpr ⟨List.mem_of_getElem? (i := 1124) (by decide +kernel), by decide +kernel⟩
theorem tw_10 : Cond.selects yX9_number.cls yX9_number yX9_number ∈ jm_tb := List.mem_filter.mpr ⟨List.mem_of_getElem? (i := 10) (by decide +kernel), by decide +kernel⟩
theorem tw_1125 : Cond.code yX9_number cX9_number 4 (some .int) ∈ jm_tb := List.mem_filter.mpr ⟨List.mem_of_getElem? (i := 1125) (by decide +kernel), by decide +kernel⟩
theorem qX9_185 : jm_CV "WeighedInBooksModel" 185 yX9_number cX9_number 4 (some .int) 1 := ⟨tw_1122, tw_1124, tw_10, tw_89, tw_1125, by decide, by decide, by decide +kernel⟩
theorem fp_X9_182 : jm_Fp "WeighedInBooksModel" 182 7 29 .int := ⟨_, _, _, tyX9, rfl, by decide, inX9, tw_987, tyX9_ok, nmX9, rfl, by decide +kernel⟩
theorem tw_980 : Cond.fieldLink "WeighedInBooksModel" 61 "WeighedInBooksModel" "saidAt" "[I" ∈ jm_tb := List.mem_filter.mpr ⟨List.mem_of_getElem? (i := 980) (by decide +kernel), by decide +kernel⟩
theorem fl_X9_61 : jm_Fl "WeighedInBooksModel" 61 7 22 := ⟨_, _, _, rfl, by decide, inX9, tw_980⟩
theorem tw_986 : Cond.fieldLink "WeighedInBooksModel" 188 "WeighedInBooksModel" "statements" "I" ∈ jm_tb := List.mem_filter.mpr ⟨List.mem_of_getElem? (i := 986) (by decide +kernel), by decide +kernel⟩
theorem fl_X9_188 : jm_Fl "WeighedInBooksModel" 188 7 28 := ⟨_, _, _, rfl, by decide, inX9, tw_986⟩
theorem tw_981 : Cond.fieldLink "WeighedInBooksModel" 64 "WeighedInBooksModel" "saidMany" "[I" ∈ jm_tb := List.mem_filter.mpr ⟨List.mem_of_getElem? (i := 981) (by decide +kernel), by decide +kernel⟩
theorem fl_X9_64 : jm_Fl "WeighedInBooksModel" 64 7 23 := ⟨_, _, _, rfl, by decide, inX9, tw_981⟩
theorem tw_988 : Cond.fieldLink "WeighedInBooksModel" 191 "WeighedInBooksModel" "lawTold" "I" ∈ jm_tb := List.mem_filter.mpr ⟨List.mem_of_getElem? (i := 988) (by decide +kernel), by decide +kernel⟩
theorem fl_X9_191 : jm_Fl "WeighedInBooksModel" 191 7 30 := ⟨_, _, _, rfl, by decide, inX9, tw_988⟩
theorem tw_1137 : Cond.methodLink "WeighedInBooksModel" 194 yX9_stepOf ∈ jm_tb := List.mem_filter.mpr ⟨List.mem_of_getElem? (i := 1137) (by decide +kernel), by decide +kernel⟩
theorem tw_1138 : Cond.static yX9_stepOf ∈ jm_tb := List.mem_filter.mpr ⟨List.mem_of_getElem? (i := 1138) (by decide +kernel), by decide +kernel⟩
theorem tw_1139 : Cond.code yX9_stepOf cX9_stepOf 1 (some .int) ∈ jm_tb := List.mem_filter.mpr ⟨List.mem_of_getElem? (i := 1139) (by decide +kernel), by decide +kernel⟩
theorem qX9_194 : jm_CS "WeighedInBooksModel" 194 yX9_stepOf cX9_stepOf 1 (some .int) 1 := ⟨tw_1137, tw_1138, tw_89, tw_1139, by decide, by decide, by decide +kernel⟩
theorem tw_982 : Cond.fieldLink "WeighedInBooksModel" 67 "WeighedInBooksModel" "lawKind" "[I" ∈ jm_tb := List.mem_filter.mpr ⟨List.mem_of_getElem? (i := 982) (by decide +kernel), by decide +kernel⟩
theorem fl_X9_67 : jm_Fl "WeighedInBooksModel" 67 7 24 := ⟨_, _, _, rfl, by decide, inX9, tw_982⟩
theorem tw_983 : Cond.fieldLink "WeighedInBooksModel" 70 "WeighedInBooksModel" "lawN" "[I" ∈ jm_tb := List.mem_filter.mpr ⟨List.mem_of_getElem? (i := 983) (by decide +kernel), by decide +kernel⟩
theorem fl_X9_70 : jm_Fl "WeighedInBooksModel" 70 7 25 := ⟨_, _, _, rfl, by decide, inX9, tw_983⟩
theorem fp_X9_191 : jm_Fp "WeighedInBooksModel" 191 7 30 .int := ⟨_, _, _, tyX9, rfl, by decide, inX9, tw_988, tyX9_ok, nmX9, rfl, by decide +kernel⟩
theorem tw_1118 : Cond.methodLink "WeighedInBooksModel" 197 yX9_readsDigits ∈ jm_tb := List.mem_filter.mpr ⟨List.mem_of_getElem? (i := 1118) (by decide +kernel), by decide +kernel⟩
theorem tw_1120 : Cond.instanceMethod yX9_readsDigits ∈ jm_tb := List.mem_filter.mpr ⟨List.mem_of_getElem? (i := 1120) (by decide +kernel), by decide +kernel⟩
theorem tw_9 : Cond.selects yX9_readsDigits.cls yX9_readsDigits yX9_readsDigits ∈ jm_tb := List.mem_filter.mpr ⟨List.mem_of_getElem? (i := 9) (by decide +kernel), by decide +kernel⟩
theorem tw_1121 : Cond.code yX9_readsDigits cX9_readsDigits 2 (some .boolean) ∈ jm_tb := List.mem_filter.mpr ⟨List.mem_of_getElem? (i := 1121) (by decide +kernel), by decide +kernel⟩
theorem qX9_197 : jm_CV "WeighedInBooksModel" 197 yX9_readsDigits cX9_readsDigits 2 (some .boolean) 1 := ⟨tw_1118, tw_1120, tw_9, tw_89, tw_1121, by decide, by decide, by decide +kernel⟩
theorem tw_1129 : Cond.methodLink "WeighedInBooksModel" 200 yX9_readsTitle ∈ jm_tb := List.mem_filter.mpr ⟨List.mem_of_getElem? (i := 1129) (by decide +kernel), by decide +kernel⟩
theorem tw_1131 : Cond.instanceMethod yX9_readsTitle ∈ jm_tb := List.mem_filter.mpr ⟨List.mem_of_getElem? (i := 1131) (by decide +kernel), by decide +kernel⟩
theorem tw_11 : Cond.selects yX9_readsTitle.cls yX9_readsTitle yX9_readsTitle ∈ jm_tb := List.mem_filter.mpr ⟨List.mem_of_getElem? (i := 11) (by decide +kernel), by decide +kernel⟩
theorem tw_1132 : Cond.code yX9_readsTitle cX9_readsTitle 1 (some .boolean) ∈ jm_tb := List.mem_filter.mpr ⟨List.mem_of_getElem? (i := 1132) (by decide +kernel), by decide +kernel⟩
theorem qX9_200 : jm_CV "WeighedInBooksModel" 200 yX9_readsTitle cX9_readsTitle 1 (some .boolean) 0 := ⟨tw_1129, tw_1131, tw_11, tw_89, tw_1132, by decide, by decide, by decide +kernel⟩
theorem tw_1133 : Cond.methodLink "WeighedInBooksModel" 204 yX9_readsSteps ∈ jm_tb := List.mem_filter.mpr ⟨List.mem_of_getElem? (i := 1133) (by decide +kernel), by decide +kernel⟩
theorem tw_1135 : Cond.instanceMethod yX9_readsSteps ∈ jm_tb := List.mem_filter.mpr ⟨List.mem_of_getElem? (i := 1135) (by decide +kernel), by decide +kernel⟩
theorem tw_12 : Cond.selects yX9_readsSteps.cls yX9_readsSteps yX9_readsSteps ∈ jm_tb := List.mem_filter.mpr ⟨List.mem_of_getElem? (i := 12) (by decide +kernel), by decide +kernel⟩
theorem tw_1136 : Cond.code yX9_readsSteps cX9_readsSteps 2 (some .boolean) ∈ jm_tb := List.mem_filter.mpr ⟨List.mem_of_getElem? (i := 1136) (by decide +kernel), by decide +kernel⟩
theorem qX9_204 : jm_CV "WeighedInBooksModel" 204 yX9_readsSteps cX9_readsSteps 2 (some .boolean) 0 := ⟨tw_1133, tw_1135, tw_12, tw_89, tw_1136, by decide, by decide, by decide +kernel⟩
theorem tw_977 : Cond.fieldLink "WeighedInBooksModel" 52 "WeighedInBooksModel" "sort" "[I" ∈ jm_tb := List.mem_filter.mpr ⟨List.mem_of_getElem? (i := 977) (by decide +kernel), by decide +kernel⟩
theorem fl_X9_52 : jm_Fl "WeighedInBooksModel" 52 7 19 := ⟨_, _, _, rfl, by decide, inX9, tw_977⟩
theorem tw_978 : Cond.fieldLink "WeighedInBooksModel" 55 "WeighedInBooksModel" "sortAt" "[I" ∈ jm_tb := List.mem_filter.mpr ⟨List.mem_of_getElem? (i := 978) (by decide +kernel), by decide +kernel⟩
theorem fl_X9_55 : jm_Fl "WeighedInBooksModel" 55 7 20 := ⟨_, _, _, rfl, by decide, inX9, tw_978⟩
theorem tw_1114 : Cond.methodLink "WeighedInBooksModel" 207 yX9_readsAll ∈ jm_tb := List.mem_filter.mpr ⟨List.mem_of_getElem? (i := 1114) (by decide +kernel), by decide +kernel⟩
theorem tw_1116 : Cond.instanceMethod yX9_readsAll ∈ jm_tb := List.mem_filter.mpr ⟨List.mem_of_getElem? (i := 1116) (by decide +kernel), by decide +kernel⟩
theorem tw_8 : Cond.selects yX9_readsAll.cls yX9_readsAll yX9_readsAll ∈ jm_tb := List.mem_filter.mpr ⟨List.mem_of_getElem? (i := 8) (by decide +kernel), by decide +kernel⟩
theorem tw_1117 : Cond.code yX9_readsAll cX9_readsAll 2 (some .boolean) ∈ jm_tb := List.mem_filter.mpr ⟨List.mem_of_getElem? (i := 1117) (by decide +kernel), by decide +kernel⟩
theorem qX9_207 : jm_CV "WeighedInBooksModel" 207 yX9_readsAll cX9_readsAll 2 (some .boolean) 1 := ⟨tw_1114, tw_1116, tw_8, tw_89, tw_1117, by decide, by decide, by decide +kernel⟩
theorem tw_1180 : Cond.methodLink "WeighedInBooksModel" 210 yX9_isTitled ∈ jm_tb := List.mem_filter.mpr ⟨List.mem_of_getElem? (i := 1180) (by decide +kernel), by decide +kernel⟩
theorem tw_1182 : Cond.instanceMethod yX9_isTitled ∈ jm_tb := List.mem_filter.mpr ⟨List.mem_of_getElem? (i := 1182) (by decide +kernel), by decide +kernel⟩
theorem tw_23 : Cond.selects yX9_isTitled.cls yX9_isTitled yX9_isTitled ∈ jm_tb := List.mem_filter.mpr ⟨List.mem_of_getElem? (i := 23) (by decide +kernel), by decide +kernel⟩
theorem tw_1183 : Cond.code yX9_isTitled cX9_isTitled 6 (some .boolean) ∈ jm_tb := List.mem_filter.mpr ⟨List.mem_of_getElem? (i := 1183) (by decide +kernel), by decide +kernel⟩
theorem qX9_210 : jm_CV "WeighedInBooksModel" 210 yX9_isTitled cX9_isTitled 6 (some .boolean) 3 := ⟨tw_1180, tw_1182, tw_23, tw_89, tw_1183, by decide, by decide, by decide +kernel⟩
theorem tw_961 : Cond.fieldLink "WeighedInBooksModel" 19 "WeighedInBooksModel" "purse" "[I" ∈ jm_tb := List.mem_filter.mpr ⟨List.mem_of_getElem? (i := 961) (by decide +kernel), by decide +kernel⟩
theorem fl_X9_19 : jm_Fl "WeighedInBooksModel" 19 7 3 := ⟨_, _, _, rfl, by decide, inX9, tw_961⟩
theorem fp_X9_91 : jm_Fp "WeighedInBooksModel" 91 7 13 .int := ⟨_, _, _, tyX9, rfl, by decide, inX9, tw_971, tyX9_ok, nmX9, rfl, by decide +kernel⟩
theorem fp_X9_106 : jm_Fp "WeighedInBooksModel" 106 7 14 .int := ⟨_, _, _, tyX9, rfl, by decide, inX9, tw_972, tyX9_ok, nmX9, rfl, by decide +kernel⟩
theorem tw_1160 : Cond.methodLink "WeighedInBooksModel" 213 yX9_isMore ∈ jm_tb := List.mem_filter.mpr ⟨List.mem_of_getElem? (i := 1160) (by decide +kernel), by decide +kernel⟩
theorem tw_1162 : Cond.instanceMethod yX9_isMore ∈ jm_tb := List.mem_filter.mpr ⟨List.mem_of_getElem? (i := 1162) (by decide +kernel), by decide +kernel⟩
theorem tw_18 : Cond.selects yX9_isMore.cls yX9_isMore yX9_isMore ∈ jm_tb := List.mem_filter.mpr ⟨List.mem_of_getElem? (i := 18) (by decide +kernel), by decide +kernel⟩
theorem tw_1163 : Cond.code yX9_isMore cX9_isMore 4 none ∈ jm_tb := List.mem_filter.mpr ⟨List.mem_of_getElem? (i := 1163) (by decide +kernel), by decide +kernel⟩
theorem qX9_213 : jm_CV "WeighedInBooksModel" 213 yX9_isMore cX9_isMore 4 none 3 := ⟨tw_1160, tw_1162, tw_18, tw_89, tw_1163, by decide, by decide, by decide +kernel⟩
theorem tw_1168 : Cond.methodLink "WeighedInBooksModel" 217 yX9_isPlace ∈ jm_tb := List.mem_filter.mpr ⟨List.mem_of_getElem? (i := 1168) (by decide +kernel), by decide +kernel⟩
theorem tw_1170 : Cond.instanceMethod yX9_isPlace ∈ jm_tb := List.mem_filter.mpr ⟨List.mem_of_getElem? (i := 1170) (by decide +kernel), by decide +kernel⟩
theorem tw_20 : Cond.selects yX9_isPlace.cls yX9_isPlace yX9_isPlace ∈ jm_tb := List.mem_filter.mpr ⟨List.mem_of_getElem? (i := 20) (by decide +kernel), by decide +kernel⟩
theorem tw_1171 : Cond.code yX9_isPlace cX9_isPlace 2 (some .boolean) ∈ jm_tb := List.mem_filter.mpr ⟨List.mem_of_getElem? (i := 1171) (by decide +kernel), by decide +kernel⟩
theorem qX9_217 : jm_CV "WeighedInBooksModel" 217 yX9_isPlace cX9_isPlace 2 (some .boolean) 1 := ⟨tw_1168, tw_1170, tw_20, tw_89, tw_1171, by decide, by decide, by decide +kernel⟩
theorem tw_1176 : Cond.methodLink "WeighedInBooksModel" 220 yX9_titledBy ∈ jm_tb := List.mem_filter.mpr ⟨List.mem_of_getElem? (i := 1176) (by decide +kernel), by decide +kernel⟩
theorem tw_1178 : Cond.instanceMethod yX9_titledBy ∈ jm_tb := List.mem_filter.mpr ⟨List.mem_of_getElem? (i := 1178) (by decide +kernel), by decide +kernel⟩
theorem tw_22 : Cond.selects yX9_titledBy.cls yX9_titledBy yX9_titledBy ∈ jm_tb := List.mem_filter.mpr ⟨List.mem_of_getElem? (i := 22) (by decide +kernel), by decide +kernel⟩
theorem tw_1179 : Cond.code yX9_titledBy cX9_titledBy 3 (some .int) ∈ jm_tb := List.mem_filter.mpr ⟨List.mem_of_getElem? (i := 1179) (by decide +kernel), by decide +kernel⟩
theorem qX9_220 : jm_CV "WeighedInBooksModel" 220 yX9_titledBy cX9_titledBy 3 (some .int) 1 := ⟨tw_1176, tw_1178, tw_22, tw_89, tw_1179, by decide, by decide, by decide +kernel⟩
theorem tw_1184 : Cond.methodLink "WeighedInBooksModel" 223 yX9_isBrought ∈ jm_tb := List.mem_filter.mpr ⟨List.mem_of_getElem? (i := 1184) (by decide +kernel), by decide +kernel⟩
theorem tw_1186 : Cond.instanceMethod yX9_isBrought ∈ jm_tb := List.mem_filter.mpr ⟨List.mem_of_getElem? (i := 1186) (by decide +kernel), by decide +kernel⟩
theorem tw_24 : Cond.selects yX9_isBrought.cls yX9_isBrought yX9_isBrought ∈ jm_tb := List.mem_filter.mpr ⟨List.mem_of_getElem? (i := 24) (by decide +kernel), by decide +kernel⟩
theorem tw_1187 : Cond.code yX9_isBrought cX9_isBrought 4 none ∈ jm_tb := List.mem_filter.mpr ⟨List.mem_of_getElem? (i := 1187) (by decide +kernel), by decide +kernel⟩
theorem qX9_223 : jm_CV "WeighedInBooksModel" 223 yX9_isBrought cX9_isBrought 4 none 3 := ⟨tw_1184, tw_1186, tw_24, tw_89, tw_1187, by decide, by decide, by decide +kernel⟩
theorem tw_1188 : Cond.methodLink "WeighedInBooksModel" 226 yX9_isTitledMore ∈ jm_tb := List.mem_filter.mpr ⟨List.mem_of_getElem? (i := 1188) (by decide +kernel), by decide +kernel⟩
theorem tw_1190 : Cond.instanceMethod yX9_isTitledMore ∈ jm_tb := List.mem_filter.mpr ⟨List.mem_of_getElem? (i := 1190) (by decide +kernel), by decide +kernel⟩
theorem tw_25 : Cond.selects yX9_isTitledMore.cls yX9_isTitledMore yX9_isTitledMore ∈ jm_tb := List.mem_filter.mpr ⟨List.mem_of_getElem? (i := 25) (by decide +kernel), by decide +kernel⟩
theorem tw_1191 : Cond.code yX9_isTitledMore cX9_isTitledMore 3 none ∈ jm_tb := List.mem_filter.mpr ⟨List.mem_of_getElem? (i := 1191) (by decide +kernel), by decide +kernel⟩
theorem qX9_226 : jm_CV "WeighedInBooksModel" 226 yX9_isTitledMore cX9_isTitledMore 3 none 1 := ⟨tw_1188, tw_1190, tw_25, tw_89, tw_1191, by decide, by decide, by decide +kernel⟩
theorem fp_X9_122 : jm_Fp "WeighedInBooksModel" 122 7 16 .int := ⟨_, _, _, tyX9, rfl, by decide, inX9, tw_974, tyX9_ok, nmX9, rfl, by decide +kernel⟩
theorem tw_1208 : Cond.methodLink "WeighedInBooksModel" 229 yX9_goes ∈ jm_tb := List.mem_filter.mpr ⟨List.mem_of_getElem? (i := 1208) (by decide +kernel), by decide +kernel⟩
theorem tw_1210 : Cond.instanceMethod yX9_goes ∈ jm_tb := List.mem_filter.mpr ⟨List.mem_of_getElem? (i := 1210) (by decide +kernel), by decide +kernel⟩
theorem tw_30 : Cond.selects yX9_goes.cls yX9_goes yX9_goes ∈ jm_tb := List.mem_filter.mpr ⟨List.mem_of_getElem? (i := 30) (by decide +kernel), by decide +kernel⟩
theorem tw_1211 : Cond.code yX9_goes cX9_goes 3 none ∈ jm_tb := List.mem_filter.mpr ⟨List.mem_of_getElem? (i := 1211) (by decide +kernel), by decide +kernel⟩
theorem qX9_229 : jm_CV "WeighedInBooksModel" 229 yX9_goes cX9_goes 3 none 1 := ⟨tw_1208, tw_1210, tw_30, tw_89, tw_1211, by decide, by decide, by decide +kernel⟩
theorem tw_1164 : Cond.methodLink "WeighedInBooksModel" 235 yX9_comesBook ∈ jm_tb := List.mem_filter.mpr ⟨List.mem_of_getElem? (i := 1164) (by decide +kernel), by decide +kernel⟩
theorem tw_1166 : Cond.instanceMethod yX9_comesBook ∈ jm_tb := List.mem_filter.mpr ⟨List.mem_of_getElem? (i := 1166) (by decide +kernel), by decide +kernel⟩
theorem tw_19 : Cond.selects yX9_comesBook.cls yX9_comesBook yX9_comesBook ∈ jm_tb := List.mem_filter.mpr ⟨List.mem_of_getElem? (i := 19) (by decide +kernel), by decide +kernel⟩
theorem tw_1167 : Cond.code yX9_comesBook cX9_comesBook 4 (some .boolean) ∈ jm_tb := List.mem_filter.mpr ⟨List.mem_of_getElem? (i := 1167) (by decide +kernel), by decide +kernel⟩
theorem qX9_235 : jm_CV "WeighedInBooksModel" 235 yX9_comesBook cX9_comesBook 4 (some .boolean) 2 := ⟨tw_1164, tw_1166, tw_19, tw_89, tw_1167, by decide, by decide, by decide +kernel⟩
theorem tw_1196 : Cond.methodLink "WeighedInBooksModel" 241 yX9_comesHolding ∈ jm_tb := List.mem_filter.mpr ⟨List.mem_of_getElem? (i := 1196) (by decide +kernel), by decide +kernel⟩
theorem tw_1198 : Cond.instanceMethod yX9_comesHolding ∈ jm_tb := List.mem_filter.mpr ⟨List.mem_of_getElem? (i := 1198) (by decide +kernel), by decide +kernel⟩
theorem tw_27 : Cond.selects yX9_comesHolding.cls yX9_comesHolding yX9_comesHolding ∈ jm_tb := List.mem_filter.mpr ⟨List.mem_of_getElem? (i := 27) (by decide +kernel), by decide +kernel⟩
theorem tw_1199 : Cond.code yX9_comesHolding cX9_comesHolding 4 (some .boolean) ∈ jm_tb := List.mem_filter.mpr ⟨List.mem_of_getElem? (i := 1199) (by decide +kernel), by decide +kernel⟩
theorem qX9_241 : jm_CV "WeighedInBooksModel" 241 yX9_comesHolding cX9_comesHolding 4 (some .boolean) 2 := ⟨tw_1196, tw_1198, tw_27, tw_89, tw_1199, by decide, by decide, by decide +kernel⟩
theorem tw_1200 : Cond.methodLink "WeighedInBooksModel" 244 yX9_comesLaw ∈ jm_tb := List.mem_filter.mpr ⟨List.mem_of_getElem? (i := 1200) (by decide +kernel), by decide +kernel⟩
theorem tw_1202 : Cond.instanceMethod yX9_comesLaw ∈ jm_tb := List.mem_filter.mpr ⟨List.mem_of_getElem? (i := 1202) (by decide +kernel), by decide +kernel⟩
theorem tw_28 : Cond.selects yX9_comesLaw.cls yX9_comesLaw yX9_comesLaw ∈ jm_tb := List.mem_filter.mpr ⟨List.mem_of_getElem? (i := 28) (by decide +kernel), by decide +kernel⟩
theorem tw_1203 : Cond.code yX9_comesLaw cX9_comesLaw 3 (some .boolean) ∈ jm_tb := List.mem_filter.mpr ⟨List.mem_of_getElem? (i := 1203) (by decide +kernel), by decide +kernel⟩
theorem qX9_244 : jm_CV "WeighedInBooksModel" 244 yX9_comesLaw cX9_comesLaw 3 (some .boolean) 1 := ⟨tw_1200, tw_1202, tw_28, tw_89, tw_1203, by decide, by decide, by decide +kernel⟩
theorem tw_1156 : Cond.methodLink "WeighedInBooksModel" 232 yX9_comesPerson ∈ jm_tb := List.mem_filter.mpr ⟨List.mem_of_getElem? (i := 1156) (by decide +kernel), by decide +kernel⟩
theorem tw_1158 : Cond.instanceMethod yX9_comesPerson ∈ jm_tb := List.mem_filter.mpr ⟨List.mem_of_getElem? (i := 1158) (by decide +kernel), by decide +kernel⟩
theorem tw_17 : Cond.selects yX9_comesPerson.cls yX9_comesPerson yX9_comesPerson ∈ jm_tb := List.mem_filter.mpr ⟨List.mem_of_getElem? (i := 17) (by decide +kernel), by decide +kernel⟩
theorem tw_1159 : Cond.code yX9_comesPerson cX9_comesPerson 2 (some .boolean) ∈ jm_tb := List.mem_filter.mpr ⟨List.mem_of_getElem? (i := 1159) (by decide +kernel), by decide +kernel⟩
theorem qX9_232 : jm_CV "WeighedInBooksModel" 232 yX9_comesPerson cX9_comesPerson 2 (some .boolean) 1 := ⟨tw_1156, tw_1158, tw_17, tw_89, tw_1159, by decide, by decide, by decide +kernel⟩
theorem tw_1192 : Cond.methodLink "WeighedInBooksModel" 238 yX9_comesReading ∈ jm_tb := List.mem_filter.mpr ⟨List.mem_of_getElem? (i := 1192) (by decide +kernel), by decide +kernel⟩
theorem tw_1194 : Cond.instanceMethod yX9_comesReading ∈ jm_tb := List.mem_filter.mpr ⟨List.mem_of_getElem? (i := 1194) (by decide +kernel), by decide +kernel⟩
theorem tw_26 : Cond.selects yX9_comesReading.cls yX9_comesReading yX9_comesReading ∈ jm_tb := List.mem_filter.mpr ⟨List.mem_of_getElem? (i := 26) (by decide +kernel), by decide +kernel⟩
theorem tw_1195 : Cond.code yX9_comesReading cX9_comesReading 4 (some .boolean) ∈ jm_tb := List.mem_filter.mpr ⟨List.mem_of_getElem? (i := 1195) (by decide +kernel), by decide +kernel⟩
theorem qX9_238 : jm_CV "WeighedInBooksModel" 238 yX9_comesReading cX9_comesReading 4 (some .boolean) 2 := ⟨tw_1192, tw_1194, tw_26, tw_89, tw_1195, by decide, by decide, by decide +kernel⟩
theorem tw_1204 : Cond.methodLink "WeighedInBooksModel" 247 yX9_comesWeeks ∈ jm_tb := List.mem_filter.mpr ⟨List.mem_of_getElem? (i := 1204) (by decide +kernel), by decide +kernel⟩
theorem tw_1206 : Cond.instanceMethod yX9_comesWeeks ∈ jm_tb := List.mem_filter.mpr ⟨List.mem_of_getElem? (i := 1206) (by decide +kernel), by decide +kernel⟩
theorem tw_29 : Cond.selects yX9_comesWeeks.cls yX9_comesWeeks yX9_comesWeeks ∈ jm_tb := List.mem_filter.mpr ⟨List.mem_of_getElem? (i := 29) (by decide +kernel), by decide +kernel⟩
theorem tw_1207 : Cond.code yX9_comesWeeks cX9_comesWeeks 2 (some .boolean) ∈ jm_tb := List.mem_filter.mpr ⟨List.mem_of_getElem? (i := 1207) (by decide +kernel), by decide +kernel⟩
theorem qX9_247 : jm_CV "WeighedInBooksModel" 247 yX9_comesWeeks cX9_comesWeeks 2 (some .boolean) 1 := ⟨tw_1204, tw_1206, tw_29, tw_89, tw_1207, by decide, by decide, by decide +kernel⟩
theorem tw_991 : Cond.fieldLink "WeighedInBooksModel" 263 "WeighedInBooksModel" "isKeeping" "Z" ∈ jm_tb := List.mem_filter.mpr ⟨List.mem_of_getElem? (i := 991) (by decide +kernel), by decide +kernel⟩
theorem fl_X9_263 : jm_Fl "WeighedInBooksModel" 263 7 33 := ⟨_, _, _, rfl, by decide, inX9, tw_991⟩
theorem tw_989 : Cond.fieldLink "WeighedInBooksModel" 73 "WeighedInBooksModel" "kept" "[I" ∈ jm_tb := List.mem_filter.mpr ⟨List.mem_of_getElem? (i := 989) (by decide +kernel), by decide +kernel⟩
theorem fl_X9_73 : jm_Fl "WeighedInBooksModel" 73 7 31 := ⟨_, _, _, rfl, by decide, inX9, tw_989⟩
theorem tw_992 : Cond.fieldLink "WeighedInBooksModel" 266 "WeighedInBooksModel" "cursor" "I" ∈ jm_tb := List.mem_filter.mpr ⟨List.mem_of_getElem? (i := 992) (by decide +kernel), by decide +kernel⟩
theorem fl_X9_266 : jm_Fl "WeighedInBooksModel" 266 7 34 := ⟨_, _, _, rfl, by decide, inX9, tw_992⟩
theorem fp_X9_266 : jm_Fp "WeighedInBooksModel" 266 7 34 .int := ⟨_, _, _, tyX9, rfl, by decide, inX9, tw_992, tyX9_ok, nmX9, rfl, by decide +kernel⟩
theorem fp_X9_263 : jm_Fp "WeighedInBooksModel" 263 7 33 .boolean := ⟨_, _, _, tyX9, rfl, by decide, inX9, tw_991, tyX9_ok, nmX9, rfl, by decide +kernel⟩
theorem tw_1144 : Cond.methodLink "WeighedInBooksModel" 269 yX9_passes ∈ jm_tb := List.mem_filter.mpr ⟨List.mem_of_getElem? (i := 1144) (by decide +kernel), by decide +kernel⟩
theorem tw_1146 : Cond.instanceMethod yX9_passes ∈ jm_tb := List.mem_filter.mpr ⟨List.mem_of_getElem? (i := 1146) (by decide +kernel), by decide +kernel⟩
theorem tw_14 : Cond.selects yX9_passes.cls yX9_passes yX9_passes ∈ jm_tb := List.mem_filter.mpr ⟨List.mem_of_getElem? (i := 14) (by decide +kernel), by decide +kernel⟩
theorem tw_1147 : Cond.code yX9_passes cX9_passes 3 none ∈ jm_tb := List.mem_filter.mpr ⟨List.mem_of_getElem? (i := 1147) (by decide +kernel), by decide +kernel⟩
theorem qX9_269 : jm_CV "WeighedInBooksModel" 269 yX9_passes cX9_passes 3 none 1 := ⟨tw_1144, tw_1146, tw_14, tw_89, tw_1147, by decide, by decide, by decide +kernel⟩
theorem tw_1148 : Cond.methodLink "WeighedInBooksModel" 273 yX9_passOne ∈ jm_tb := List.mem_filter.mpr ⟨List.mem_of_getElem? (i := 1148) (by decide +kernel), by decide +kernel⟩
theorem tw_1150 : Cond.instanceMethod yX9_passOne ∈ jm_tb := List.mem_filter.mpr ⟨List.mem_of_getElem? (i := 1150) (by decide +kernel), by decide +kernel⟩
theorem tw_15 : Cond.selects yX9_passOne.cls yX9_passOne yX9_passOne ∈ jm_tb := List.mem_filter.mpr ⟨List.mem_of_getElem? (i := 15) (by decide +kernel), by decide +kernel⟩
theorem tw_1151 : Cond.code yX9_passOne cX9_passOne 3 (some .int) ∈ jm_tb := List.mem_filter.mpr ⟨List.mem_of_getElem? (i := 1151) (by decide +kernel), by decide +kernel⟩
theorem qX9_273 : jm_CV "WeighedInBooksModel" 273 yX9_passOne cX9_passOne 3 (some .int) 1 := ⟨tw_1148, tw_1150, tw_15, tw_89, tw_1151, by decide, by decide, by decide +kernel⟩
theorem fp_X9_188 : jm_Fp "WeighedInBooksModel" 188 7 28 .int := ⟨_, _, _, tyX9, rfl, by decide, inX9, tw_986, tyX9_ok, nmX9, rfl, by decide +kernel⟩
theorem tw_1106 : Cond.methodLink "WeighedInBooksModel" 250 yX9_statement ∈ jm_tb := List.mem_filter.mpr ⟨List.mem_of_getElem? (i := 1106) (by decide +kernel), by decide +kernel⟩
theorem tw_1108 : Cond.instanceMethod yX9_statement ∈ jm_tb := List.mem_filter.mpr ⟨List.mem_of_getElem? (i := 1108) (by decide +kernel), by decide +kernel⟩
theorem tw_6 : Cond.selects yX9_statement.cls yX9_statement yX9_statement ∈ jm_tb := List.mem_filter.mpr ⟨List.mem_of_getElem? (i := 6) (by decide +kernel), by decide +kernel⟩
theorem tw_1109 : Cond.code yX9_statement cX9_statement 2 (some .boolean) ∈ jm_tb := List.mem_filter.mpr ⟨List.mem_of_getElem? (i := 1109) (by decide +kernel), by decide +kernel⟩
theorem qX9_250 : jm_CV "WeighedInBooksModel" 250 yX9_statement cX9_statement 2 (some .boolean) 0 := ⟨tw_1106, tw_1108, tw_6, tw_89, tw_1109, by decide, by decide, by decide +kernel⟩
theorem tw_1140 : Cond.methodLink "WeighedInBooksModel" 253 yX9_passesAll ∈ jm_tb := List.mem_filter.mpr ⟨List.mem_of_getElem? (i := 1140) (by decide +kernel), by decide +kernel⟩
theorem tw_1142 : Cond.instanceMethod yX9_passesAll ∈ jm_tb := List.mem_filter.mpr ⟨List.mem_of_getElem? (i := 1142) (by decide +kernel), by decide +kernel⟩
theorem tw_13 : Cond.selects yX9_passesAll.cls yX9_passesAll yX9_passesAll ∈ jm_tb := List.mem_filter.mpr ⟨List.mem_of_getElem? (i := 13) (by decide +kernel), by decide +kernel⟩
theorem tw_1143 : Cond.code yX9_passesAll cX9_passesAll 3 none ∈ jm_tb := List.mem_filter.mpr ⟨List.mem_of_getElem? (i := 1143) (by decide +kernel), by decide +kernel⟩
theorem qX9_253 : jm_CV "WeighedInBooksModel" 253 yX9_passesAll cX9_passesAll 3 none 2 := ⟨tw_1140, tw_1142, tw_13, tw_89, tw_1143, by decide, by decide, by decide +kernel⟩
theorem tw_1152 : Cond.methodLink "WeighedInBooksModel" 257 yX9_comesTold ∈ jm_tb := List.mem_filter.mpr ⟨List.mem_of_getElem? (i := 1152) (by decide +kernel), by decide +kernel⟩
theorem tw_1154 : Cond.instanceMethod yX9_comesTold ∈ jm_tb := List.mem_filter.mpr ⟨List.mem_of_getElem? (i := 1154) (by decide +kernel), by decide +kernel⟩
theorem tw_16 : Cond.selects yX9_comesTold.cls yX9_comesTold yX9_comesTold ∈ jm_tb := List.mem_filter.mpr ⟨List.mem_of_getElem? (i := 16) (by decide +kernel), by decide +kernel⟩
theorem tw_1155 : Cond.code yX9_comesTold cX9_comesTold 3 (some .boolean) ∈ jm_tb := List.mem_filter.mpr ⟨List.mem_of_getElem? (i := 1155) (by decide +kernel), by decide +kernel⟩
theorem qX9_257 : jm_CV "WeighedInBooksModel" 257 yX9_comesTold cX9_comesTold 3 (some .boolean) 1 := ⟨tw_1152, tw_1154, tw_16, tw_89, tw_1155, by decide, by decide, by decide +kernel⟩
theorem tw_994 : Cond.fieldLink "WeighedInBooksModel" 260 "WeighedInBooksModel" "backs" "I" ∈ jm_tb := List.mem_filter.mpr ⟨List.mem_of_getElem? (i := 994) (by decide +kernel), by decide +kernel⟩
theorem fp_X9_260 : jm_Fp "WeighedInBooksModel" 260 7 36 .int := ⟨_, _, _, tyX9, rfl, by decide, inX9, tw_994, tyX9_ok, nmX9, rfl, by decide +kernel⟩
theorem fp_X9_152 : jm_Fp "WeighedInBooksModel" 152 7 17 .boolean := ⟨_, _, _, tyX9, rfl, by decide, inX9, tw_975, tyX9_ok, nmX9, rfl, by decide +kernel⟩
theorem fl_X9_260 : jm_Fl "WeighedInBooksModel" 260 7 36 := ⟨_, _, _, rfl, by decide, inX9, tw_994⟩
theorem tw_993 : Cond.fieldLink "WeighedInBooksModel" 276 "WeighedInBooksModel" "firstBack" "I" ∈ jm_tb := List.mem_filter.mpr ⟨List.mem_of_getElem? (i := 993) (by decide +kernel), by decide +kernel⟩
theorem fl_X9_276 : jm_Fl "WeighedInBooksModel" 276 7 35 := ⟨_, _, _, rfl, by decide, inX9, tw_993⟩
theorem fp_X9_276 : jm_Fp "WeighedInBooksModel" 276 7 35 .int := ⟨_, _, _, tyX9, rfl, by decide, inX9, tw_993, tyX9_ok, nmX9, rfl, by decide +kernel⟩
theorem tw_990 : Cond.fieldLink "WeighedInBooksModel" 279 "WeighedInBooksModel" "hasImage" "Z" ∈ jm_tb := List.mem_filter.mpr ⟨List.mem_of_getElem? (i := 990) (by decide +kernel), by decide +kernel⟩
theorem fp_X9_279 : jm_Fp "WeighedInBooksModel" 279 7 32 .boolean := ⟨_, _, _, tyX9, rfl, by decide, inX9, tw_990, tyX9_ok, nmX9, rfl, by decide +kernel⟩
theorem fl_X9_279 : jm_Fl "WeighedInBooksModel" 279 7 32 := ⟨_, _, _, rfl, by decide, inX9, tw_990⟩
theorem tw_1247 : Cond.methodLink "WeighedInBooksModel" 282 yX9_manyRead ∈ jm_tb := List.mem_filter.mpr ⟨List.mem_of_getElem? (i := 1247) (by decide +kernel), by decide +kernel⟩
theorem tw_1249 : Cond.instanceMethod yX9_manyRead ∈ jm_tb := List.mem_filter.mpr ⟨List.mem_of_getElem? (i := 1249) (by decide +kernel), by decide +kernel⟩
theorem tw_35 : Cond.selects yX9_manyRead.cls yX9_manyRead yX9_manyRead ∈ jm_tb := List.mem_filter.mpr ⟨List.mem_of_getElem? (i := 35) (by decide +kernel), by decide +kernel⟩
theorem tw_1250 : Cond.code yX9_manyRead cX9_manyRead 4 (some .int) ∈ jm_tb := List.mem_filter.mpr ⟨List.mem_of_getElem? (i := 1250) (by decide +kernel), by decide +kernel⟩
theorem qX9_282 : jm_CV "WeighedInBooksModel" 282 yX9_manyRead cX9_manyRead 4 (some .int) 1 := ⟨tw_1247, tw_1249, tw_35, tw_89, tw_1250, by decide, by decide, by decide +kernel⟩
theorem tw_1251 : Cond.methodLink "WeighedInBooksModel" 285 yX9_manyIn ∈ jm_tb := List.mem_filter.mpr ⟨List.mem_of_getElem? (i := 1251) (by decide +kernel), by decide +kernel⟩
theorem tw_1252 : Cond.static yX9_manyIn ∈ jm_tb := List.mem_filter.mpr ⟨List.mem_of_getElem? (i := 1252) (by decide +kernel), by decide +kernel⟩
theorem tw_1253 : Cond.code yX9_manyIn cX9_manyIn 5 (some .int) ∈ jm_tb := List.mem_filter.mpr ⟨List.mem_of_getElem? (i := 1253) (by decide +kernel), by decide +kernel⟩
theorem qX9_285 : jm_CS "WeighedInBooksModel" 285 yX9_manyIn cX9_manyIn 5 (some .int) 3 := ⟨tw_1251, tw_1252, tw_89, tw_1253, by decide, by decide, by decide +kernel⟩
theorem tw_1258 : Cond.methodLink "WeighedInBooksModel" 289 yX9_isBook ∈ jm_tb := List.mem_filter.mpr ⟨List.mem_of_getElem? (i := 1258) (by decide +kernel), by decide +kernel⟩
theorem tw_1260 : Cond.instanceMethod yX9_isBook ∈ jm_tb := List.mem_filter.mpr ⟨List.mem_of_getElem? (i := 1260) (by decide +kernel), by decide +kernel⟩
theorem tw_36 : Cond.selects yX9_isBook.cls yX9_isBook yX9_isBook ∈ jm_tb := List.mem_filter.mpr ⟨List.mem_of_getElem? (i := 36) (by decide +kernel), by decide +kernel⟩
theorem tw_1261 : Cond.code yX9_isBook cX9_isBook 2 (some .boolean) ∈ jm_tb := List.mem_filter.mpr ⟨List.mem_of_getElem? (i := 1261) (by decide +kernel), by decide +kernel⟩
theorem qX9_289 : jm_CV "WeighedInBooksModel" 289 yX9_isBook cX9_isBook 2 (some .boolean) 1 := ⟨tw_1258, tw_1260, tw_36, tw_89, tw_1261, by decide, by decide, by decide +kernel⟩
theorem tw_1273 : Cond.methodLink "WeighedInBooksModel" 292 yX9_price ∈ jm_tb := List.mem_filter.mpr ⟨List.mem_of_getElem? (i := 1273) (by decide +kernel), by decide +kernel⟩
theorem tw_1275 : Cond.instanceMethod yX9_price ∈ jm_tb := List.mem_filter.mpr ⟨List.mem_of_getElem? (i := 1275) (by decide +kernel), by decide +kernel⟩
theorem tw_39 : Cond.selects yX9_price.cls yX9_price yX9_price ∈ jm_tb := List.mem_filter.mpr ⟨List.mem_of_getElem? (i := 39) (by decide +kernel), by decide +kernel⟩
theorem tw_1276 : Cond.code yX9_price cX9_price 3 (some .int) ∈ jm_tb := List.mem_filter.mpr ⟨List.mem_of_getElem? (i := 1276) (by decide +kernel), by decide +kernel⟩
theorem qX9_292 : jm_CV "WeighedInBooksModel" 292 yX9_price cX9_price 3 (some .int) 1 := ⟨tw_1273, tw_1275, tw_39, tw_89, tw_1276, by decide, by decide, by decide +kernel⟩
theorem tw_1289 : Cond.methodLink "WeighedInBooksModel" 295 yX9_isLetterTitle ∈ jm_tb := List.mem_filter.mpr ⟨List.mem_of_getElem? (i := 1289) (by decide +kernel), by decide +kernel⟩
theorem tw_1291 : Cond.instanceMethod yX9_isLetterTitle ∈ jm_tb := List.mem_filter.mpr ⟨List.mem_of_getElem? (i := 1291) (by decide +kernel), by decide +kernel⟩
theorem tw_40 : Cond.selects yX9_isLetterTitle.cls yX9_isLetterTitle yX9_isLetterTitle ∈ jm_tb := List.mem_filter.mpr ⟨List.mem_of_getElem? (i := 40) (by decide +kernel), by decide +kernel⟩
theorem tw_1292 : Cond.code yX9_isLetterTitle cX9_isLetterTitle 3 (some .boolean) ∈ jm_tb := List.mem_filter.mpr ⟨List.mem_of_getElem? (i := 1292) (by decide +kernel), by decide +kernel⟩
theorem qX9_295 : jm_CV "WeighedInBooksModel" 295 yX9_isLetterTitle cX9_isLetterTitle 3 (some .boolean) 1 := ⟨tw_1289, tw_1291, tw_40, tw_89, tw_1292, by decide, by decide, by decide +kernel⟩
theorem tw_1297 : Cond.methodLink "WeighedInBooksModel" 298 yX9_remembers ∈ jm_tb := List.mem_filter.mpr ⟨List.mem_of_getElem? (i := 1297) (by decide +kernel), by decide +kernel⟩
theorem tw_1299 : Cond.instanceMethod yX9_remembers ∈ jm_tb := List.mem_filter.mpr ⟨List.mem_of_getElem? (i := 1299) (by decide +kernel), by decide +kernel⟩
theorem tw_41 : Cond.selects yX9_remembers.cls yX9_remembers yX9_remembers ∈ jm_tb := List.mem_filter.mpr ⟨List.mem_of_getElem? (i := 41) (by decide +kernel), by decide +kernel⟩
theorem tw_1300 : Cond.code yX9_remembers cX9_remembers 1 none ∈ jm_tb := List.mem_filter.mpr ⟨List.mem_of_getElem? (i := 1300) (by decide +kernel), by decide +kernel⟩
theorem qX9_298 : jm_CV "WeighedInBooksModel" 298 yX9_remembers cX9_remembers 1 none 0 := ⟨tw_1297, tw_1299, tw_41, tw_89, tw_1300, by decide, by decide, by decide +kernel⟩
theorem tw_1329 : Cond.methodLink "WeighedInBooksModel" 301 yX9_areTwo ∈ jm_tb := List.mem_filter.mpr ⟨List.mem_of_getElem? (i := 1329) (by decide +kernel), by decide +kernel⟩
theorem tw_1331 : Cond.instanceMethod yX9_areTwo ∈ jm_tb := List.mem_filter.mpr ⟨List.mem_of_getElem? (i := 1331) (by decide +kernel), by decide +kernel⟩
theorem tw_42 : Cond.selects yX9_areTwo.cls yX9_areTwo yX9_areTwo ∈ jm_tb := List.mem_filter.mpr ⟨List.mem_of_getElem? (i := 42) (by decide +kernel), by decide +kernel⟩
theorem tw_1332 : Cond.code yX9_areTwo cX9_areTwo 3 (some .boolean) ∈ jm_tb := List.mem_filter.mpr ⟨List.mem_of_getElem? (i := 1332) (by decide +kernel), by decide +kernel⟩
theorem qX9_301 : jm_CV "WeighedInBooksModel" 301 yX9_areTwo cX9_areTwo 3 (some .boolean) 2 := ⟨tw_1329, tw_1331, tw_42, tw_89, tw_1332, by decide, by decide, by decide +kernel⟩
theorem tw_1353 : Cond.methodLink "WeighedInBooksModel" 304 yX9_lower ∈ jm_tb := List.mem_filter.mpr ⟨List.mem_of_getElem? (i := 1353) (by decide +kernel), by decide +kernel⟩
theorem tw_1355 : Cond.instanceMethod yX9_lower ∈ jm_tb := List.mem_filter.mpr ⟨List.mem_of_getElem? (i := 1355) (by decide +kernel), by decide +kernel⟩
theorem tw_48 : Cond.selects yX9_lower.cls yX9_lower yX9_lower ∈ jm_tb := List.mem_filter.mpr ⟨List.mem_of_getElem? (i := 48) (by decide +kernel), by decide +kernel⟩
theorem tw_1356 : Cond.code yX9_lower cX9_lower 2 (some .int) ∈ jm_tb := List.mem_filter.mpr ⟨List.mem_of_getElem? (i := 1356) (by decide +kernel), by decide +kernel⟩
theorem qX9_304 : jm_CV "WeighedInBooksModel" 304 yX9_lower cX9_lower 2 (some .int) 1 := ⟨tw_1353, tw_1355, tw_48, tw_89, tw_1356, by decide, by decide, by decide +kernel⟩
theorem tw_1366 : Cond.methodLink "WeighedInBooksModel" 307 yX9_minds ∈ jm_tb := List.mem_filter.mpr ⟨List.mem_of_getElem? (i := 1366) (by decide +kernel), by decide +kernel⟩
theorem tw_1368 : Cond.instanceMethod yX9_minds ∈ jm_tb := List.mem_filter.mpr ⟨List.mem_of_getElem? (i := 1368) (by decide +kernel), by decide +kernel⟩
theorem tw_49 : Cond.selects yX9_minds.cls yX9_minds yX9_minds ∈ jm_tb := List.mem_filter.mpr ⟨List.mem_of_getElem? (i := 49) (by decide +kernel), by decide +kernel⟩
theorem tw_1369 : Cond.code yX9_minds cX9_minds 1 none ∈ jm_tb := List.mem_filter.mpr ⟨List.mem_of_getElem? (i := 1369) (by decide +kernel), by decide +kernel⟩
theorem qX9_307 : jm_CV "WeighedInBooksModel" 307 yX9_minds cX9_minds 1 none 0 := ⟨tw_1366, tw_1368, tw_49, tw_89, tw_1369, by decide, by decide, by decide +kernel⟩
theorem tw_1370 : Cond.methodLink "WeighedInBooksModel" 310 yX9_forgets ∈ jm_tb := List.mem_filter.mpr ⟨List.mem_of_getElem? (i := 1370) (by decide +kernel), by decide +kernel⟩
theorem tw_1372 : Cond.instanceMethod yX9_forgets ∈ jm_tb := List.mem_filter.mpr ⟨List.mem_of_getElem? (i := 1372) (by decide +kernel), by decide +kernel⟩
theorem tw_50 : Cond.selects yX9_forgets.cls yX9_forgets yX9_forgets ∈ jm_tb := List.mem_filter.mpr ⟨List.mem_of_getElem? (i := 50) (by decide +kernel), by decide +kernel⟩
theorem tw_1373 : Cond.code yX9_forgets cX9_forgets 1 none ∈ jm_tb := List.mem_filter.mpr ⟨List.mem_of_getElem? (i := 1373) (by decide +kernel), by decide +kernel⟩
theorem qX9_310 : jm_CV "WeighedInBooksModel" 310 yX9_forgets cX9_forgets 1 none 0 := ⟨tw_1370, tw_1372, tw_50, tw_89, tw_1373, by decide, by decide, by decide +kernel⟩
theorem tw_1386 : Cond.methodLink "WeighedInBooksModel" 313 yX9_comesDown ∈ jm_tb := List.mem_filter.mpr ⟨List.mem_of_getElem? (i := 1386) (by decide +kernel), by decide +kernel⟩
theorem tw_1388 : Cond.instanceMethod yX9_comesDown ∈ jm_tb := List.mem_filter.mpr ⟨List.mem_of_getElem? (i := 1388) (by decide +kernel), by decide +kernel⟩
theorem tw_52 : Cond.selects yX9_comesDown.cls yX9_comesDown yX9_comesDown ∈ jm_tb := List.mem_filter.mpr ⟨List.mem_of_getElem? (i := 52) (by decide +kernel), by decide +kernel⟩
theorem tw_1389 : Cond.code yX9_comesDown cX9_comesDown 3 (some .boolean) ∈ jm_tb := List.mem_filter.mpr ⟨List.mem_of_getElem? (i := 1389) (by decide +kernel), by decide +kernel⟩
theorem qX9_313 : jm_CV "WeighedInBooksModel" 313 yX9_comesDown cX9_comesDown 3 (some .boolean) 2 := ⟨tw_1386, tw_1388, tw_52, tw_89, tw_1389, by decide, by decide, by decide +kernel⟩
theorem tw_1382 : Cond.methodLink "WeighedInBooksModel" 316 yX9_whenFrom ∈ jm_tb := List.mem_filter.mpr ⟨List.mem_of_getElem? (i := 1382) (by decide +kernel), by decide +kernel⟩
theorem tw_1384 : Cond.instanceMethod yX9_whenFrom ∈ jm_tb := List.mem_filter.mpr ⟨List.mem_of_getElem? (i := 1384) (by decide +kernel), by decide +kernel⟩
theorem tw_51 : Cond.selects yX9_whenFrom.cls yX9_whenFrom yX9_whenFrom ∈ jm_tb := List.mem_filter.mpr ⟨List.mem_of_getElem? (i := 51) (by decide +kernel), by decide +kernel⟩
theorem tw_1385 : Cond.code yX9_whenFrom cX9_whenFrom 4 (some .int) ∈ jm_tb := List.mem_filter.mpr ⟨List.mem_of_getElem? (i := 1385) (by decide +kernel), by decide +kernel⟩
theorem qX9_316 : jm_CV "WeighedInBooksModel" 316 yX9_whenFrom cX9_whenFrom 4 (some .int) 2 := ⟨tw_1382, tw_1384, tw_51, tw_89, tw_1385, by decide, by decide, by decide +kernel⟩
theorem tw_995 : Cond.fieldLink "WeighedInBooksModel" 76 "WeighedInBooksModel" "wasDown" "[I" ∈ jm_tb := List.mem_filter.mpr ⟨List.mem_of_getElem? (i := 995) (by decide +kernel), by decide +kernel⟩
theorem fl_X9_76 : jm_Fl "WeighedInBooksModel" 76 7 37 := ⟨_, _, _, rfl, by decide, inX9, tw_995⟩
theorem tw_1394 : Cond.methodLink "WeighedInBooksModel" 319 yX9_marksDown ∈ jm_tb := List.mem_filter.mpr ⟨List.mem_of_getElem? (i := 1394) (by decide +kernel), by decide +kernel⟩
theorem tw_1396 : Cond.instanceMethod yX9_marksDown ∈ jm_tb := List.mem_filter.mpr ⟨List.mem_of_getElem? (i := 1396) (by decide +kernel), by decide +kernel⟩
theorem tw_53 : Cond.selects yX9_marksDown.cls yX9_marksDown yX9_marksDown ∈ jm_tb := List.mem_filter.mpr ⟨List.mem_of_getElem? (i := 53) (by decide +kernel), by decide +kernel⟩
theorem tw_1397 : Cond.code yX9_marksDown cX9_marksDown 3 none ∈ jm_tb := List.mem_filter.mpr ⟨List.mem_of_getElem? (i := 1397) (by decide +kernel), by decide +kernel⟩
theorem qX9_319 : jm_CV "WeighedInBooksModel" 319 yX9_marksDown cX9_marksDown 3 none 0 := ⟨tw_1394, tw_1396, tw_53, tw_89, tw_1397, by decide, by decide, by decide +kernel⟩
theorem tw_1398 : Cond.methodLink "WeighedInBooksModel" 322 yX9_firstDown ∈ jm_tb := List.mem_filter.mpr ⟨List.mem_of_getElem? (i := 1398) (by decide +kernel), by decide +kernel⟩
theorem tw_1400 : Cond.instanceMethod yX9_firstDown ∈ jm_tb := List.mem_filter.mpr ⟨List.mem_of_getElem? (i := 1400) (by decide +kernel), by decide +kernel⟩
theorem tw_54 : Cond.selects yX9_firstDown.cls yX9_firstDown yX9_firstDown ∈ jm_tb := List.mem_filter.mpr ⟨List.mem_of_getElem? (i := 54) (by decide +kernel), by decide +kernel⟩
theorem tw_1401 : Cond.code yX9_firstDown cX9_firstDown 3 (some .int) ∈ jm_tb := List.mem_filter.mpr ⟨List.mem_of_getElem? (i := 1401) (by decide +kernel), by decide +kernel⟩
theorem qX9_322 : jm_CV "WeighedInBooksModel" 322 yX9_firstDown cX9_firstDown 3 (some .int) 0 := ⟨tw_1398, tw_1400, tw_54, tw_89, tw_1401, by decide, by decide, by decide +kernel⟩
theorem tw_1414 : Cond.methodLink "WeighedInBooksModel" 325 yX9_pricesOf ∈ jm_tb := List.mem_filter.mpr ⟨List.mem_of_getElem? (i := 1414) (by decide +kernel), by decide +kernel⟩
theorem tw_1416 : Cond.instanceMethod yX9_pricesOf ∈ jm_tb := List.mem_filter.mpr ⟨List.mem_of_getElem? (i := 1416) (by decide +kernel), by decide +kernel⟩
theorem tw_57 : Cond.selects yX9_pricesOf.cls yX9_pricesOf yX9_pricesOf ∈ jm_tb := List.mem_filter.mpr ⟨List.mem_of_getElem? (i := 57) (by decide +kernel), by decide +kernel⟩
theorem tw_1417 : Cond.code yX9_pricesOf cX9_pricesOf 4 (some .int) ∈ jm_tb := List.mem_filter.mpr ⟨List.mem_of_getElem? (i := 1417) (by decide +kernel), by decide +kernel⟩
theorem qX9_325 : jm_CV "WeighedInBooksModel" 325 yX9_pricesOf cX9_pricesOf 4 (some .int) 1 := ⟨tw_1414, tw_1416, tw_57, tw_89, tw_1417, by decide, by decide, by decide +kernel⟩
theorem tw_1406 : Cond.methodLink "WeighedInBooksModel" 328 yX9_ownedBy ∈ jm_tb := List.mem_filter.mpr ⟨List.mem_of_getElem? (i := 1406) (by decide +kernel), by decide +kernel⟩
theorem tw_1408 : Cond.instanceMethod yX9_ownedBy ∈ jm_tb := List.mem_filter.mpr ⟨List.mem_of_getElem? (i := 1408) (by decide +kernel), by decide +kernel⟩
theorem tw_55 : Cond.selects yX9_ownedBy.cls yX9_ownedBy yX9_ownedBy ∈ jm_tb := List.mem_filter.mpr ⟨List.mem_of_getElem? (i := 55) (by decide +kernel), by decide +kernel⟩
theorem tw_1409 : Cond.code yX9_ownedBy cX9_ownedBy 4 (some .int) ∈ jm_tb := List.mem_filter.mpr ⟨List.mem_of_getElem? (i := 1409) (by decide +kernel), by decide +kernel⟩
theorem qX9_328 : jm_CV "WeighedInBooksModel" 328 yX9_ownedBy cX9_ownedBy 4 (some .int) 1 := ⟨tw_1406, tw_1408, tw_55, tw_89, tw_1409, by decide, by decide, by decide +kernel⟩
theorem tw_1410 : Cond.methodLink "WeighedInBooksModel" 331 yX9_isBetter ∈ jm_tb := List.mem_filter.mpr ⟨List.mem_of_getElem? (i := 1410) (by decide +kernel), by decide +kernel⟩
theorem tw_1412 : Cond.instanceMethod yX9_isBetter ∈ jm_tb := List.mem_filter.mpr ⟨List.mem_of_getElem? (i := 1412) (by decide +kernel), by decide +kernel⟩
theorem tw_56 : Cond.selects yX9_isBetter.cls yX9_isBetter yX9_isBetter ∈ jm_tb := List.mem_filter.mpr ⟨List.mem_of_getElem? (i := 56) (by decide +kernel), by decide +kernel⟩
theorem tw_1413 : Cond.code yX9_isBetter cX9_isBetter 3 (some .boolean) ∈ jm_tb := List.mem_filter.mpr ⟨List.mem_of_getElem? (i := 1413) (by decide +kernel), by decide +kernel⟩
theorem qX9_331 : jm_CV "WeighedInBooksModel" 331 yX9_isBetter cX9_isBetter 3 (some .boolean) 2 := ⟨tw_1410, tw_1412, tw_56, tw_89, tw_1413, by decide, by decide, by decide +kernel⟩
theorem tw_996 : Cond.fieldLink "WeighedInBooksModel" 79 "WeighedInBooksModel" "most" "[I" ∈ jm_tb := List.mem_filter.mpr ⟨List.mem_of_getElem? (i := 996) (by decide +kernel), by decide +kernel⟩
theorem fl_X9_79 : jm_Fl "WeighedInBooksModel" 79 7 38 := ⟨_, _, _, rfl, by decide, inX9, tw_996⟩
theorem tw_1434 : Cond.methodLink "WeighedInBooksModel" 334 yX9_leastIn ∈ jm_tb := List.mem_filter.mpr ⟨List.mem_of_getElem? (i := 1434) (by decide +kernel), by decide +kernel⟩
theorem tw_1435 : Cond.static yX9_leastIn ∈ jm_tb := List.mem_filter.mpr ⟨List.mem_of_getElem? (i := 1435) (by decide +kernel), by decide +kernel⟩
theorem tw_1436 : Cond.code yX9_leastIn cX9_leastIn 2 (some .int) ∈ jm_tb := List.mem_filter.mpr ⟨List.mem_of_getElem? (i := 1436) (by decide +kernel), by decide +kernel⟩
theorem qX9_334 : jm_CS "WeighedInBooksModel" 334 yX9_leastIn cX9_leastIn 2 (some .int) 1 := ⟨tw_1434, tw_1435, tw_89, tw_1436, by decide, by decide, by decide +kernel⟩
theorem tw_1441 : Cond.methodLink "WeighedInBooksModel" 337 yX9_partnerFor ∈ jm_tb := List.mem_filter.mpr ⟨List.mem_of_getElem? (i := 1441) (by decide +kernel), by decide +kernel⟩
theorem tw_1443 : Cond.instanceMethod yX9_partnerFor ∈ jm_tb := List.mem_filter.mpr ⟨List.mem_of_getElem? (i := 1443) (by decide +kernel), by decide +kernel⟩
theorem tw_60 : Cond.selects yX9_partnerFor.cls yX9_partnerFor yX9_partnerFor ∈ jm_tb := List.mem_filter.mpr ⟨List.mem_of_getElem? (i := 60) (by decide +kernel), by decide +kernel⟩
theorem tw_1444 : Cond.code yX9_partnerFor cX9_partnerFor 5 (some .int) ∈ jm_tb := List.mem_filter.mpr ⟨List.mem_of_getElem? (i := 1444) (by decide +kernel), by decide +kernel⟩
theorem qX9_337 : jm_CV "WeighedInBooksModel" 337 yX9_partnerFor cX9_partnerFor 5 (some .int) 3 := ⟨tw_1441, tw_1443, tw_60, tw_89, tw_1444, by decide, by decide, by decide +kernel⟩
theorem tw_997 : Cond.fieldLink "WeighedInBooksModel" 82 "WeighedInBooksModel" "partner" "[I" ∈ jm_tb := List.mem_filter.mpr ⟨List.mem_of_getElem? (i := 997) (by decide +kernel), by decide +kernel⟩
theorem fl_X9_82 : jm_Fl "WeighedInBooksModel" 82 7 39 := ⟨_, _, _, rfl, by decide, inX9, tw_997⟩
theorem tw_1430 : Cond.methodLink "WeighedInBooksModel" 340 yX9_findMost ∈ jm_tb := List.mem_filter.mpr ⟨List.mem_of_getElem? (i := 1430) (by decide +kernel), by decide +kernel⟩
theorem tw_1432 : Cond.instanceMethod yX9_findMost ∈ jm_tb := List.mem_filter.mpr ⟨List.mem_of_getElem? (i := 1432) (by decide +kernel), by decide +kernel⟩
theorem tw_58 : Cond.selects yX9_findMost.cls yX9_findMost yX9_findMost ∈ jm_tb := List.mem_filter.mpr ⟨List.mem_of_getElem? (i := 58) (by decide +kernel), by decide +kernel⟩
theorem tw_1433 : Cond.code yX9_findMost cX9_findMost 5 none ∈ jm_tb := List.mem_filter.mpr ⟨List.mem_of_getElem? (i := 1433) (by decide +kernel), by decide +kernel⟩
theorem qX9_340 : jm_CV "WeighedInBooksModel" 340 yX9_findMost cX9_findMost 5 none 0 := ⟨tw_1430, tw_1432, tw_58, tw_89, tw_1433, by decide, by decide, by decide +kernel⟩
theorem tw_1437 : Cond.methodLink "WeighedInBooksModel" 343 yX9_findPartners ∈ jm_tb := List.mem_filter.mpr ⟨List.mem_of_getElem? (i := 1437) (by decide +kernel), by decide +kernel⟩
theorem tw_1439 : Cond.instanceMethod yX9_findPartners ∈ jm_tb := List.mem_filter.mpr ⟨List.mem_of_getElem? (i := 1439) (by decide +kernel), by decide +kernel⟩
theorem tw_59 : Cond.selects yX9_findPartners.cls yX9_findPartners yX9_findPartners ∈ jm_tb := List.mem_filter.mpr ⟨List.mem_of_getElem? (i := 59) (by decide +kernel), by decide +kernel⟩
theorem tw_1440 : Cond.code yX9_findPartners cX9_findPartners 4 none ∈ jm_tb := List.mem_filter.mpr ⟨List.mem_of_getElem? (i := 1440) (by decide +kernel), by decide +kernel⟩
theorem qX9_343 : jm_CV "WeighedInBooksModel" 343 yX9_findPartners cX9_findPartners 4 none 0 := ⟨tw_1437, tw_1439, tw_59, tw_89, tw_1440, by decide, by decide, by decide +kernel⟩
theorem tw_1453 : Cond.methodLink "WeighedInBooksModel" 346 yX9_isHeavier ∈ jm_tb := List.mem_filter.mpr ⟨List.mem_of_getElem? (i := 1453) (by decide +kernel), by decide +kernel⟩
theorem tw_1455 : Cond.instanceMethod yX9_isHeavier ∈ jm_tb := List.mem_filter.mpr ⟨List.mem_of_getElem? (i := 1455) (by decide +kernel), by decide +kernel⟩
theorem tw_62 : Cond.selects yX9_isHeavier.cls yX9_isHeavier yX9_isHeavier ∈ jm_tb := List.mem_filter.mpr ⟨List.mem_of_getElem? (i := 62) (by decide +kernel), by decide +kernel⟩
theorem tw_1456 : Cond.code yX9_isHeavier cX9_isHeavier 7 (some .boolean) ∈ jm_tb := List.mem_filter.mpr ⟨List.mem_of_getElem? (i := 1456) (by decide +kernel), by decide +kernel⟩
theorem qX9_346 : jm_CV "WeighedInBooksModel" 346 yX9_isHeavier cX9_isHeavier 7 (some .boolean) 4 := ⟨tw_1453, tw_1455, tw_62, tw_89, tw_1456, by decide, by decide, by decide +kernel⟩
theorem tw_1449 : Cond.methodLink "WeighedInBooksModel" 350 yX9_heavierThan ∈ jm_tb := List.mem_filter.mpr ⟨List.mem_of_getElem? (i := 1449) (by decide +kernel), by decide +kernel⟩
theorem tw_1451 : Cond.instanceMethod yX9_heavierThan ∈ jm_tb := List.mem_filter.mpr ⟨List.mem_of_getElem? (i := 1451) (by decide +kernel), by decide +kernel⟩
theorem tw_61 : Cond.selects yX9_heavierThan.cls yX9_heavierThan yX9_heavierThan ∈ jm_tb := List.mem_filter.mpr ⟨List.mem_of_getElem? (i := 61) (by decide +kernel), by decide +kernel⟩
theorem tw_1452 : Cond.code yX9_heavierThan cX9_heavierThan 6 (some .int) ∈ jm_tb := List.mem_filter.mpr ⟨List.mem_of_getElem? (i := 1452) (by decide +kernel), by decide +kernel⟩
theorem qX9_350 : jm_CV "WeighedInBooksModel" 350 yX9_heavierThan cX9_heavierThan 6 (some .int) 3 := ⟨tw_1449, tw_1451, tw_61, tw_89, tw_1452, by decide, by decide, by decide +kernel⟩
theorem tw_999 : Cond.fieldLink "WeighedInBooksModel" 353 "WeighedInBooksModel" "rowMany" "I" ∈ jm_tb := List.mem_filter.mpr ⟨List.mem_of_getElem? (i := 999) (by decide +kernel), by decide +kernel⟩
theorem fl_X9_353 : jm_Fl "WeighedInBooksModel" 353 7 41 := ⟨_, _, _, rfl, by decide, inX9, tw_999⟩
theorem tw_998 : Cond.fieldLink "WeighedInBooksModel" 85 "WeighedInBooksModel" "row" "[I" ∈ jm_tb := List.mem_filter.mpr ⟨List.mem_of_getElem? (i := 998) (by decide +kernel), by decide +kernel⟩
theorem fl_X9_85 : jm_Fl "WeighedInBooksModel" 85 7 40 := ⟨_, _, _, rfl, by decide, inX9, tw_998⟩
theorem tw_1461 : Cond.methodLink "WeighedInBooksModel" 356 yX9_wasSo ∈ jm_tb := List.mem_filter.mpr ⟨List.mem_of_getElem? (i := 1461) (by decide +kernel), by decide +kernel⟩
theorem tw_1463 : Cond.instanceMethod yX9_wasSo ∈ jm_tb := List.mem_filter.mpr ⟨List.mem_of_getElem? (i := 1463) (by decide +kernel), by decide +kernel⟩
theorem tw_63 : Cond.selects yX9_wasSo.cls yX9_wasSo yX9_wasSo ∈ jm_tb := List.mem_filter.mpr ⟨List.mem_of_getElem? (i := 63) (by decide +kernel), by decide +kernel⟩
theorem tw_1464 : Cond.code yX9_wasSo cX9_wasSo 4 (some .boolean) ∈ jm_tb := List.mem_filter.mpr ⟨List.mem_of_getElem? (i := 1464) (by decide +kernel), by decide +kernel⟩
theorem qX9_356 : jm_CV "WeighedInBooksModel" 356 yX9_wasSo cX9_wasSo 4 (some .boolean) 2 := ⟨tw_1461, tw_1463, tw_63, tw_89, tw_1464, by decide, by decide, by decide +kernel⟩
theorem tw_1473 : Cond.methodLink "WeighedInBooksModel" 359 yX9_gives ∈ jm_tb := List.mem_filter.mpr ⟨List.mem_of_getElem? (i := 1473) (by decide +kernel), by decide +kernel⟩
theorem tw_1475 : Cond.instanceMethod yX9_gives ∈ jm_tb := List.mem_filter.mpr ⟨List.mem_of_getElem? (i := 1475) (by decide +kernel), by decide +kernel⟩
theorem tw_65 : Cond.selects yX9_gives.cls yX9_gives yX9_gives ∈ jm_tb := List.mem_filter.mpr ⟨List.mem_of_getElem? (i := 65) (by decide +kernel), by decide +kernel⟩
theorem tw_1476 : Cond.code yX9_gives cX9_gives 3 none ∈ jm_tb := List.mem_filter.mpr ⟨List.mem_of_getElem? (i := 1476) (by decide +kernel), by decide +kernel⟩
theorem qX9_359 : jm_CV "WeighedInBooksModel" 359 yX9_gives cX9_gives 3 none 1 := ⟨tw_1473, tw_1475, tw_65, tw_89, tw_1476, by decide, by decide, by decide +kernel⟩
theorem tw_1000 : Cond.fieldLink "WeighedInBooksModel" 88 "WeighedInBooksModel" "ends" "[I" ∈ jm_tb := List.mem_filter.mpr ⟨List.mem_of_getElem? (i := 1000) (by decide +kernel), by decide +kernel⟩
theorem fl_X9_88 : jm_Fl "WeighedInBooksModel" 88 7 42 := ⟨_, _, _, rfl, by decide, inX9, tw_1000⟩
theorem tw_1469 : Cond.methodLink "WeighedInBooksModel" 362 yX9_findEnds ∈ jm_tb := List.mem_filter.mpr ⟨List.mem_of_getElem? (i := 1469) (by decide +kernel), by decide +kernel⟩
theorem tw_1471 : Cond.instanceMethod yX9_findEnds ∈ jm_tb := List.mem_filter.mpr ⟨List.mem_of_getElem? (i := 1471) (by decide +kernel), by decide +kernel⟩
theorem tw_64 : Cond.selects yX9_findEnds.cls yX9_findEnds yX9_findEnds ∈ jm_tb := List.mem_filter.mpr ⟨List.mem_of_getElem? (i := 64) (by decide +kernel), by decide +kernel⟩
theorem tw_1472 : Cond.code yX9_findEnds cX9_findEnds 5 none ∈ jm_tb := List.mem_filter.mpr ⟨List.mem_of_getElem? (i := 1472) (by decide +kernel), by decide +kernel⟩
theorem qX9_362 : jm_CV "WeighedInBooksModel" 362 yX9_findEnds cX9_findEnds 5 none 3 := ⟨tw_1469, tw_1471, tw_64, tw_89, tw_1472, by decide, by decide, by decide +kernel⟩
theorem tw_1489 : Cond.methodLink "WeighedInBooksModel" 365 yX9_divisor ∈ jm_tb := List.mem_filter.mpr ⟨List.mem_of_getElem? (i := 1489) (by decide +kernel), by decide +kernel⟩
theorem tw_1490 : Cond.static yX9_divisor ∈ jm_tb := List.mem_filter.mpr ⟨List.mem_of_getElem? (i := 1490) (by decide +kernel), by decide +kernel⟩
theorem tw_1491 : Cond.code yX9_divisor cX9_divisor 10 (some .long) ∈ jm_tb := List.mem_filter.mpr ⟨List.mem_of_getElem? (i := 1491) (by decide +kernel), by decide +kernel⟩
theorem qX9_365 : jm_CS "WeighedInBooksModel" 365 yX9_divisor cX9_divisor 10 (some .long) 2 := ⟨tw_1489, tw_1490, tw_89, tw_1491, by decide, by decide, by decide +kernel⟩
theorem tw_1486 : Cond.methodLink "WeighedInBooksModel" 373 yX9_partOf ∈ jm_tb := List.mem_filter.mpr ⟨List.mem_of_getElem? (i := 1486) (by decide +kernel), by decide +kernel⟩
theorem tw_1487 : Cond.static yX9_partOf ∈ jm_tb := List.mem_filter.mpr ⟨List.mem_of_getElem? (i := 1487) (by decide +kernel), by decide +kernel⟩
theorem tw_1488 : Cond.code yX9_partOf cX9_partOf 5 (some .long) ∈ jm_tb := List.mem_filter.mpr ⟨List.mem_of_getElem? (i := 1488) (by decide +kernel), by decide +kernel⟩
theorem qX9_373 : jm_CS "WeighedInBooksModel" 373 yX9_partOf cX9_partOf 5 (some .long) 3 := ⟨tw_1486, tw_1487, tw_89, tw_1488, by decide, by decide, by decide +kernel⟩
theorem tw_1481 : Cond.methodLink "WeighedInBooksModel" 369 yX9_lowestOf ∈ jm_tb := List.mem_filter.mpr ⟨List.mem_of_getElem? (i := 1481) (by decide +kernel), by decide +kernel⟩
theorem tw_1483 : Cond.instanceMethod yX9_lowestOf ∈ jm_tb := List.mem_filter.mpr ⟨List.mem_of_getElem? (i := 1483) (by decide +kernel), by decide +kernel⟩
theorem tw_66 : Cond.selects yX9_lowestOf.cls yX9_lowestOf yX9_lowestOf ∈ jm_tb := List.mem_filter.mpr ⟨List.mem_of_getElem? (i := 66) (by decide +kernel), by decide +kernel⟩
theorem tw_1484 : Cond.code yX9_lowestOf cX9_lowestOf 2 (some .long) ∈ jm_tb := List.mem_filter.mpr ⟨List.mem_of_getElem? (i := 1484) (by decide +kernel), by decide +kernel⟩
theorem qX9_369 : jm_CV "WeighedInBooksModel" 369 yX9_lowestOf cX9_lowestOf 2 (some .long) 1 := ⟨tw_1481, tw_1483, tw_66, tw_89, tw_1484, by decide, by decide, by decide +kernel⟩
theorem tw_1500 : Cond.methodLink "WeighedInBooksModel" 377 yX9_ofRank ∈ jm_tb := List.mem_filter.mpr ⟨List.mem_of_getElem? (i := 1500) (by decide +kernel), by decide +kernel⟩
theorem tw_1502 : Cond.instanceMethod yX9_ofRank ∈ jm_tb := List.mem_filter.mpr ⟨List.mem_of_getElem? (i := 1502) (by decide +kernel), by decide +kernel⟩
theorem tw_68 : Cond.selects yX9_ofRank.cls yX9_ofRank yX9_ofRank ∈ jm_tb := List.mem_filter.mpr ⟨List.mem_of_getElem? (i := 68) (by decide +kernel), by decide +kernel⟩
theorem tw_1503 : Cond.code yX9_ofRank cX9_ofRank 3 (some .int) ∈ jm_tb := List.mem_filter.mpr ⟨List.mem_of_getElem? (i := 1503) (by decide +kernel), by decide +kernel⟩
theorem qX9_377 : jm_CV "WeighedInBooksModel" 377 yX9_ofRank cX9_ofRank 3 (some .int) 1 := ⟨tw_1500, tw_1502, tw_68, tw_89, tw_1503, by decide, by decide, by decide +kernel⟩
theorem tw_1524 : Cond.methodLink "WeighedInBooksModel" 380 yX9_manyOn ∈ jm_tb := List.mem_filter.mpr ⟨List.mem_of_getElem? (i := 1524) (by decide +kernel), by decide +kernel⟩
theorem tw_1526 : Cond.instanceMethod yX9_manyOn ∈ jm_tb := List.mem_filter.mpr ⟨List.mem_of_getElem? (i := 1526) (by decide +kernel), by decide +kernel⟩
theorem tw_72 : Cond.selects yX9_manyOn.cls yX9_manyOn yX9_manyOn ∈ jm_tb := List.mem_filter.mpr ⟨List.mem_of_getElem? (i := 72) (by decide +kernel), by decide +kernel⟩
theorem tw_1527 : Cond.code yX9_manyOn cX9_manyOn 5 (some .int) ∈ jm_tb := List.mem_filter.mpr ⟨List.mem_of_getElem? (i := 1527) (by decide +kernel), by decide +kernel⟩
theorem qX9_380 : jm_CV "WeighedInBooksModel" 380 yX9_manyOn cX9_manyOn 5 (some .int) 2 := ⟨tw_1524, tw_1526, tw_72, tw_89, tw_1527, by decide, by decide, by decide +kernel⟩
theorem tw_1512 : Cond.methodLink "WeighedInBooksModel" 383 yX9_kindsOn ∈ jm_tb := List.mem_filter.mpr ⟨List.mem_of_getElem? (i := 1512) (by decide +kernel), by decide +kernel⟩
theorem tw_1514 : Cond.instanceMethod yX9_kindsOn ∈ jm_tb := List.mem_filter.mpr ⟨List.mem_of_getElem? (i := 1514) (by decide +kernel), by decide +kernel⟩
theorem tw_69 : Cond.selects yX9_kindsOn.cls yX9_kindsOn yX9_kindsOn ∈ jm_tb := List.mem_filter.mpr ⟨List.mem_of_getElem? (i := 69) (by decide +kernel), by decide +kernel⟩
theorem tw_1515 : Cond.code yX9_kindsOn cX9_kindsOn 4 (some .int) ∈ jm_tb := List.mem_filter.mpr ⟨List.mem_of_getElem? (i := 1515) (by decide +kernel), by decide +kernel⟩
theorem qX9_383 : jm_CV "WeighedInBooksModel" 383 yX9_kindsOn cX9_kindsOn 4 (some .int) 1 := ⟨tw_1512, tw_1514, tw_69, tw_89, tw_1515, by decide, by decide, by decide +kernel⟩
theorem tw_1516 : Cond.methodLink "WeighedInBooksModel" 386 yX9_pricesOn ∈ jm_tb := List.mem_filter.mpr ⟨List.mem_of_getElem? (i := 1516) (by decide +kernel), by decide +kernel⟩
theorem tw_1518 : Cond.instanceMethod yX9_pricesOn ∈ jm_tb := List.mem_filter.mpr ⟨List.mem_of_getElem? (i := 1518) (by decide +kernel), by decide +kernel⟩
theorem tw_70 : Cond.selects yX9_pricesOn.cls yX9_pricesOn yX9_pricesOn ∈ jm_tb := List.mem_filter.mpr ⟨List.mem_of_getElem? (i := 70) (by decide +kernel), by decide +kernel⟩
theorem tw_1519 : Cond.code yX9_pricesOn cX9_pricesOn 4 (some .int) ∈ jm_tb := List.mem_filter.mpr ⟨List.mem_of_getElem? (i := 1519) (by decide +kernel), by decide +kernel⟩
theorem qX9_386 : jm_CV "WeighedInBooksModel" 386 yX9_pricesOn cX9_pricesOn 4 (some .int) 1 := ⟨tw_1516, tw_1518, tw_70, tw_89, tw_1519, by decide, by decide, by decide +kernel⟩
theorem tw_1520 : Cond.methodLink "WeighedInBooksModel" 389 yX9_mostOn ∈ jm_tb := List.mem_filter.mpr ⟨List.mem_of_getElem? (i := 1520) (by decide +kernel), by decide +kernel⟩
theorem tw_1522 : Cond.instanceMethod yX9_mostOn ∈ jm_tb := List.mem_filter.mpr ⟨List.mem_of_getElem? (i := 1522) (by decide +kernel), by decide +kernel⟩
theorem tw_71 : Cond.selects yX9_mostOn.cls yX9_mostOn yX9_mostOn ∈ jm_tb := List.mem_filter.mpr ⟨List.mem_of_getElem? (i := 71) (by decide +kernel), by decide +kernel⟩
theorem tw_1523 : Cond.code yX9_mostOn cX9_mostOn 4 (some .int) ∈ jm_tb := List.mem_filter.mpr ⟨List.mem_of_getElem? (i := 1523) (by decide +kernel), by decide +kernel⟩
theorem qX9_389 : jm_CV "WeighedInBooksModel" 389 yX9_mostOn cX9_mostOn 4 (some .int) 1 := ⟨tw_1520, tw_1522, tw_71, tw_89, tw_1523, by decide, by decide, by decide +kernel⟩
theorem tw_1536 : Cond.methodLink "WeighedInBooksModel" 392 yX9_sizeOf ∈ jm_tb := List.mem_filter.mpr ⟨List.mem_of_getElem? (i := 1536) (by decide +kernel), by decide +kernel⟩
theorem tw_1537 : Cond.static yX9_sizeOf ∈ jm_tb := List.mem_filter.mpr ⟨List.mem_of_getElem? (i := 1537) (by decide +kernel), by decide +kernel⟩
theorem tw_1538 : Cond.code yX9_sizeOf cX9_sizeOf 1 (some .int) ∈ jm_tb := List.mem_filter.mpr ⟨List.mem_of_getElem? (i := 1538) (by decide +kernel), by decide +kernel⟩
theorem qX9_392 : jm_CS "WeighedInBooksModel" 392 yX9_sizeOf cX9_sizeOf 1 (some .int) 1 := ⟨tw_1536, tw_1537, tw_89, tw_1538, by decide, by decide, by decide +kernel⟩
theorem tw_1532 : Cond.methodLink "WeighedInBooksModel" 395 yX9_closest ∈ jm_tb := List.mem_filter.mpr ⟨List.mem_of_getElem? (i := 1532) (by decide +kernel), by decide +kernel⟩
theorem tw_1534 : Cond.instanceMethod yX9_closest ∈ jm_tb := List.mem_filter.mpr ⟨List.mem_of_getElem? (i := 1534) (by decide +kernel), by decide +kernel⟩
theorem tw_73 : Cond.selects yX9_closest.cls yX9_closest yX9_closest ∈ jm_tb := List.mem_filter.mpr ⟨List.mem_of_getElem? (i := 73) (by decide +kernel), by decide +kernel⟩
theorem tw_1535 : Cond.code yX9_closest cX9_closest 6 (some .int) ∈ jm_tb := List.mem_filter.mpr ⟨List.mem_of_getElem? (i := 1535) (by decide +kernel), by decide +kernel⟩
theorem qX9_395 : jm_CV "WeighedInBooksModel" 395 yX9_closest cX9_closest 6 (some .int) 0 := ⟨tw_1532, tw_1534, tw_73, tw_89, tw_1535, by decide, by decide, by decide +kernel⟩
theorem tw_1539 : Cond.methodLink "WeighedInBooksModel" 398 yX9_poor ∈ jm_tb := List.mem_filter.mpr ⟨List.mem_of_getElem? (i := 1539) (by decide +kernel), by decide +kernel⟩
theorem tw_1541 : Cond.instanceMethod yX9_poor ∈ jm_tb := List.mem_filter.mpr ⟨List.mem_of_getElem? (i := 1541) (by decide +kernel), by decide +kernel⟩
theorem tw_74 : Cond.selects yX9_poor.cls yX9_poor yX9_poor ∈ jm_tb := List.mem_filter.mpr ⟨List.mem_of_getElem? (i := 74) (by decide +kernel), by decide +kernel⟩
theorem tw_1542 : Cond.code yX9_poor cX9_poor 4 (some .int) ∈ jm_tb := List.mem_filter.mpr ⟨List.mem_of_getElem? (i := 1542) (by decide +kernel), by decide +kernel⟩
theorem qX9_398 : jm_CV "WeighedInBooksModel" 398 yX9_poor cX9_poor 4 (some .int) 0 := ⟨tw_1539, tw_1541, tw_74, tw_89, tw_1542, by decide, by decide, by decide +kernel⟩
theorem tw_1543 : Cond.methodLink "WeighedInBooksModel" 401 yX9_unread ∈ jm_tb := List.mem_filter.mpr ⟨List.mem_of_getElem? (i := 1543) (by decide +kernel), by decide +kernel⟩
theorem tw_1545 : Cond.instanceMethod yX9_unread ∈ jm_tb := List.mem_filter.mpr ⟨List.mem_of_getElem? (i := 1545) (by decide +kernel), by decide +kernel⟩
theorem tw_75 : Cond.selects yX9_unread.cls yX9_unread yX9_unread ∈ jm_tb := List.mem_filter.mpr ⟨List.mem_of_getElem? (i := 75) (by decide +kernel), by decide +kernel⟩
theorem tw_1546 : Cond.code yX9_unread cX9_unread 3 (some .int) ∈ jm_tb := List.mem_filter.mpr ⟨List.mem_of_getElem? (i := 1546) (by decide +kernel), by decide +kernel⟩
theorem qX9_401 : jm_CV "WeighedInBooksModel" 401 yX9_unread cX9_unread 3 (some .int) 0 := ⟨tw_1543, tw_1545, tw_75, tw_89, tw_1546, by decide, by decide, by decide +kernel⟩
theorem tw_1547 : Cond.methodLink "WeighedInBooksModel" 404 yX9_lent ∈ jm_tb := List.mem_filter.mpr ⟨List.mem_of_getElem? (i := 1547) (by decide +kernel), by decide +kernel⟩
theorem tw_1549 : Cond.instanceMethod yX9_lent ∈ jm_tb := List.mem_filter.mpr ⟨List.mem_of_getElem? (i := 1549) (by decide +kernel), by decide +kernel⟩
theorem tw_76 : Cond.selects yX9_lent.cls yX9_lent yX9_lent ∈ jm_tb := List.mem_filter.mpr ⟨List.mem_of_getElem? (i := 76) (by decide +kernel), by decide +kernel⟩
theorem tw_1550 : Cond.code yX9_lent cX9_lent 3 (some .int) ∈ jm_tb := List.mem_filter.mpr ⟨List.mem_of_getElem? (i := 1550) (by decide +kernel), by decide +kernel⟩
theorem qX9_404 : jm_CV "WeighedInBooksModel" 404 yX9_lent cX9_lent 3 (some .int) 0 := ⟨tw_1547, tw_1549, tw_76, tw_89, tw_1550, by decide, by decide, by decide +kernel⟩
theorem fp_X9_353 : jm_Fp "WeighedInBooksModel" 353 7 41 .int := ⟨_, _, _, tyX9, rfl, by decide, inX9, tw_999, tyX9_ok, nmX9, rfl, by decide +kernel⟩
theorem tw_1001 : Cond.fieldLink "WeighedInBooksModel" 407 "WeighedInBooksModel" "lots" "I" ∈ jm_tb := List.mem_filter.mpr ⟨List.mem_of_getElem? (i := 1001) (by decide +kernel), by decide +kernel⟩
theorem fl_X9_407 : jm_Fl "WeighedInBooksModel" 407 7 43 := ⟨_, _, _, rfl, by decide, inX9, tw_1001⟩
theorem tw_1587 : Cond.constant "WeighedInBooksModel" 410 (1103515245) ∈ jm_tb := List.mem_filter.mpr ⟨List.mem_of_getElem? (i := 1587) (by decide +kernel), by decide +kernel⟩
theorem fp_X9_407 : jm_Fp "WeighedInBooksModel" 407 7 43 .int := ⟨_, _, _, tyX9, rfl, by decide, inX9, tw_1001, tyX9_ok, nmX9, rfl, by decide +kernel⟩
theorem tw_1588 : Cond.constant "WeighedInBooksModel" 411 (2147483647) ∈ jm_tb := List.mem_filter.mpr ⟨List.mem_of_getElem? (i := 1588) (by decide +kernel), by decide +kernel⟩
theorem tw_1589 : Cond.constant "WeighedInBooksModel" 412 (65536) ∈ jm_tb := List.mem_filter.mpr ⟨List.mem_of_getElem? (i := 1589) (by decide +kernel), by decide +kernel⟩
theorem tw_1579 : Cond.methodLink "WeighedInBooksModel" 413 yX9_allRead ∈ jm_tb := List.mem_filter.mpr ⟨List.mem_of_getElem? (i := 1579) (by decide +kernel), by decide +kernel⟩
theorem tw_1581 : Cond.instanceMethod yX9_allRead ∈ jm_tb := List.mem_filter.mpr ⟨List.mem_of_getElem? (i := 1581) (by decide +kernel), by decide +kernel⟩
theorem tw_77 : Cond.selects yX9_allRead.cls yX9_allRead yX9_allRead ∈ jm_tb := List.mem_filter.mpr ⟨List.mem_of_getElem? (i := 77) (by decide +kernel), by decide +kernel⟩
theorem tw_1582 : Cond.code yX9_allRead cX9_allRead 3 (some .int) ∈ jm_tb := List.mem_filter.mpr ⟨List.mem_of_getElem? (i := 1582) (by decide +kernel), by decide +kernel⟩
theorem qX9_413 : jm_CV "WeighedInBooksModel" 413 yX9_allRead cX9_allRead 3 (some .int) 0 := ⟨tw_1579, tw_1581, tw_77, tw_89, tw_1582, by decide, by decide, by decide +kernel⟩
theorem tw_1583 : Cond.methodLink "WeighedInBooksModel" 416 yX9_draw ∈ jm_tb := List.mem_filter.mpr ⟨List.mem_of_getElem? (i := 1583) (by decide +kernel), by decide +kernel⟩
theorem tw_1585 : Cond.instanceMethod yX9_draw ∈ jm_tb := List.mem_filter.mpr ⟨List.mem_of_getElem? (i := 1585) (by decide +kernel), by decide +kernel⟩
theorem tw_78 : Cond.selects yX9_draw.cls yX9_draw yX9_draw ∈ jm_tb := List.mem_filter.mpr ⟨List.mem_of_getElem? (i := 78) (by decide +kernel), by decide +kernel⟩
theorem tw_1586 : Cond.code yX9_draw cX9_draw 2 (some .int) ∈ jm_tb := List.mem_filter.mpr ⟨List.mem_of_getElem? (i := 1586) (by decide +kernel), by decide +kernel⟩
theorem qX9_416 : jm_CV "WeighedInBooksModel" 416 yX9_draw cX9_draw 2 (some .int) 1 := ⟨tw_1583, tw_1585, tw_78, tw_89, tw_1586, by decide, by decide, by decide +kernel⟩
theorem tw_1590 : Cond.methodLink "WeighedInBooksModel" 419 yX9_manyDown ∈ jm_tb := List.mem_filter.mpr ⟨List.mem_of_getElem? (i := 1590) (by decide +kernel), by decide +kernel⟩
theorem tw_1592 : Cond.instanceMethod yX9_manyDown ∈ jm_tb := List.mem_filter.mpr ⟨List.mem_of_getElem? (i := 1592) (by decide +kernel), by decide +kernel⟩
theorem tw_79 : Cond.selects yX9_manyDown.cls yX9_manyDown yX9_manyDown ∈ jm_tb := List.mem_filter.mpr ⟨List.mem_of_getElem? (i := 79) (by decide +kernel), by decide +kernel⟩
theorem tw_1593 : Cond.code yX9_manyDown cX9_manyDown 4 (some .int) ∈ jm_tb := List.mem_filter.mpr ⟨List.mem_of_getElem? (i := 1593) (by decide +kernel), by decide +kernel⟩
theorem qX9_419 : jm_CV "WeighedInBooksModel" 419 yX9_manyDown cX9_manyDown 4 (some .int) 0 := ⟨tw_1590, tw_1592, tw_79, tw_89, tw_1593, by decide, by decide, by decide +kernel⟩
theorem tw_1598 : Cond.methodLink "WeighedInBooksModel" 422 yX9_allWeights ∈ jm_tb := List.mem_filter.mpr ⟨List.mem_of_getElem? (i := 1598) (by decide +kernel), by decide +kernel⟩
theorem tw_1600 : Cond.instanceMethod yX9_allWeights ∈ jm_tb := List.mem_filter.mpr ⟨List.mem_of_getElem? (i := 1600) (by decide +kernel), by decide +kernel⟩
theorem tw_80 : Cond.selects yX9_allWeights.cls yX9_allWeights yX9_allWeights ∈ jm_tb := List.mem_filter.mpr ⟨List.mem_of_getElem? (i := 80) (by decide +kernel), by decide +kernel⟩
theorem tw_1601 : Cond.code yX9_allWeights cX9_allWeights 3 (some .int) ∈ jm_tb := List.mem_filter.mpr ⟨List.mem_of_getElem? (i := 1601) (by decide +kernel), by decide +kernel⟩
theorem qX9_422 : jm_CV "WeighedInBooksModel" 422 yX9_allWeights cX9_allWeights 3 (some .int) 0 := ⟨tw_1598, tw_1600, tw_80, tw_89, tw_1601, by decide, by decide, by decide +kernel⟩
end
section
theorem dJ6_bitCount_0f7a4_0 : jm_d cJ6_bitCount_0f7a4 0 (.iload_n 0) 1 1 := ⟨by decide +kernel, rfl⟩
theorem dJ6_bitCount_0f7a4_1 : jm_d cJ6_bitCount_0f7a4 1 (.iload_n 0) 1 2 := ⟨by decide +kernel, rfl⟩
theorem dJ6_bitCount_0f7a4_2 : jm_d cJ6_bitCount_0f7a4 2 (.iconst 1) 1 3 := ⟨by decide +kernel, rfl⟩
theorem dJ6_bitCount_0f7a4_3 : jm_d cJ6_bitCount_0f7a4 3 (.iushr) 1 4 := ⟨by decide +kernel, rfl⟩
theorem dJ6_bitCount_0f7a4_4 : jm_d cJ6_bitCount_0f7a4 4 (.ldc_w 265) 3 7 := ⟨by decide +kernel, rfl⟩
theorem dJ6_bitCount_0f7a4_7 : jm_d cJ6_bitCount_0f7a4 7 (.iand) 1 8 := ⟨by decide +kernel, rfl⟩
theorem dJ6_bitCount_0f7a4_8 : jm_d cJ6_bitCount_0f7a4 8 (.isub) 1 9 := ⟨by decide +kernel, rfl⟩
theorem dJ6_bitCount_0f7a4_9 : jm_d cJ6_bitCount_0f7a4 9 (.istore_n 0) 1 10 := ⟨by decide +kernel, rfl⟩
theorem dJ6_bitCount_0f7a4_10 : jm_d cJ6_bitCount_0f7a4 10 (.iload_n 0) 1 11 := ⟨by decide +kernel, rfl⟩
theorem dJ6_bitCount_0f7a4_11 : jm_d cJ6_bitCount_0f7a4 11 (.ldc_w 266) 3 14 := ⟨by decide +kernel, rfl⟩
theorem dJ6_bitCount_0f7a4_14 : jm_d cJ6_bitCount_0f7a4 14 (.iand) 1 15 := ⟨by decide +kernel, rfl⟩
theorem dJ6_bitCount_0f7a4_15 : jm_d cJ6_bitCount_0f7a4 15 (.iload_n 0) 1 16 := ⟨by decide +kernel, rfl⟩
theorem dJ6_bitCount_0f7a4_16 : jm_d cJ6_bitCount_0f7a4 16 (.iconst 2) 1 17 := ⟨by decide +kernel, rfl⟩
theorem dJ6_bitCount_0f7a4_17 : jm_d cJ6_bitCount_0f7a4 17 (.iushr) 1 18 := ⟨by decide +kernel, rfl⟩
theorem dJ6_bitCount_0f7a4_18 : jm_d cJ6_bitCount_0f7a4 18 (.ldc_w 266) 3 21 := ⟨by decide +kernel, rfl⟩
theorem dJ6_bitCount_0f7a4_21 : jm_d cJ6_bitCount_0f7a4 21 (.iand) 1 22 := ⟨by decide +kernel, rfl⟩
theorem dJ6_bitCount_0f7a4_22 : jm_d cJ6_bitCount_0f7a4 22 (.iadd) 1 23 := ⟨by decide +kernel, rfl⟩
theorem dJ6_bitCount_0f7a4_23 : jm_d cJ6_bitCount_0f7a4 23 (.istore_n 0) 1 24 := ⟨by decide +kernel, rfl⟩
theorem dJ6_bitCount_0f7a4_24 : jm_d cJ6_bitCount_0f7a4 24 (.iload_n 0) 1 25 := ⟨by decide +kernel, rfl⟩
theorem dJ6_bitCount_0f7a4_25 : jm_d cJ6_bitCount_0f7a4 25 (.iload_n 0) 1 26 := ⟨by decide +kernel, rfl⟩
theorem dJ6_bitCount_0f7a4_26 : jm_d cJ6_bitCount_0f7a4 26 (.iconst 4) 1 27 := ⟨by decide +kernel, rfl⟩
theorem dJ6_bitCount_0f7a4_27 : jm_d cJ6_bitCount_0f7a4 27 (.iushr) 1 28 := ⟨by decide +kernel, rfl⟩
theorem dJ6_bitCount_0f7a4_28 : jm_d cJ6_bitCount_0f7a4 28 (.iadd) 1 29 := ⟨by decide +kernel, rfl⟩
theorem dJ6_bitCount_0f7a4_29 : jm_d cJ6_bitCount_0f7a4 29 (.ldc_w 267) 3 32 := ⟨by decide +kernel, rfl⟩
theorem dJ6_bitCount_0f7a4_32 : jm_d cJ6_bitCount_0f7a4 32 (.iand) 1 33 := ⟨by decide +kernel, rfl⟩
theorem dJ6_bitCount_0f7a4_33 : jm_d cJ6_bitCount_0f7a4 33 (.istore_n 0) 1 34 := ⟨by decide +kernel, rfl⟩
theorem dJ6_bitCount_0f7a4_34 : jm_d cJ6_bitCount_0f7a4 34 (.iload_n 0) 1 35 := ⟨by decide +kernel, rfl⟩
theorem dJ6_bitCount_0f7a4_35 : jm_d cJ6_bitCount_0f7a4 35 (.iload_n 0) 1 36 := ⟨by decide +kernel, rfl⟩
theorem dJ6_bitCount_0f7a4_36 : jm_d cJ6_bitCount_0f7a4 36 (.bipush 8) 2 38 := ⟨by decide +kernel, rfl⟩
theorem dJ6_bitCount_0f7a4_38 : jm_d cJ6_bitCount_0f7a4 38 (.iushr) 1 39 := ⟨by decide +kernel, rfl⟩
theorem dJ6_bitCount_0f7a4_39 : jm_d cJ6_bitCount_0f7a4 39 (.iadd) 1 40 := ⟨by decide +kernel, rfl⟩
theorem dJ6_bitCount_0f7a4_40 : jm_d cJ6_bitCount_0f7a4 40 (.istore_n 0) 1 41 := ⟨by decide +kernel, rfl⟩
theorem dJ6_bitCount_0f7a4_41 : jm_d cJ6_bitCount_0f7a4 41 (.iload_n 0) 1 42 := ⟨by decide +kernel, rfl⟩
theorem dJ6_bitCount_0f7a4_42 : jm_d cJ6_bitCount_0f7a4 42 (.iload_n 0) 1 43 := ⟨by decide +kernel, rfl⟩
theorem dJ6_bitCount_0f7a4_43 : jm_d cJ6_bitCount_0f7a4 43 (.bipush 16) 2 45 := ⟨by decide +kernel, rfl⟩
theorem dJ6_bitCount_0f7a4_45 : jm_d cJ6_bitCount_0f7a4 45 (.iushr) 1 46 := ⟨by decide +kernel, rfl⟩
theorem dJ6_bitCount_0f7a4_46 : jm_d cJ6_bitCount_0f7a4 46 (.iadd) 1 47 := ⟨by decide +kernel, rfl⟩
theorem dJ6_bitCount_0f7a4_47 : jm_d cJ6_bitCount_0f7a4 47 (.istore_n 0) 1 48 := ⟨by decide +kernel, rfl⟩
theorem dJ6_bitCount_0f7a4_48 : jm_d cJ6_bitCount_0f7a4 48 (.iload_n 0) 1 49 := ⟨by decide +kernel, rfl⟩
theorem dJ6_bitCount_0f7a4_49 : jm_d cJ6_bitCount_0f7a4 49 (.bipush 63) 2 51 := ⟨by decide +kernel, rfl⟩
theorem dJ6_bitCount_0f7a4_51 : jm_d cJ6_bitCount_0f7a4 51 (.iand) 1 52 := ⟨by decide +kernel, rfl⟩
theorem dJ6_bitCount_0f7a4_52 : jm_d cJ6_bitCount_0f7a4 52 (.ireturn) 1 53 := ⟨by decide +kernel, rfl⟩
set_option maxHeartbeats 4000000 in
set_option maxRecDepth 100000 in
theorem kJ_bitCount (E : jm_Ev) (hE : jm_dj E jm_LC) {p1 : Int32} {M : jm_M}  {r : Int32} (h : sJ_bitCount p1 = some r) : jm_Ct E jm_LC yJ6_bitCount_0f7a4 cJ6_bitCount_0f7a4 1 (some .int) 0 0 [.int p1] M (some (.int r)) M := by
  refine jm_enter (lv := [some (.int p1)]) hE (by decide) (Nat.le_of_ble_eq_true rfl) rfl ?_
  intro z w F hz
  have G : jm_G w 0 [some (.int p1)] [] M (sJ_bitCount p1) (fun e => z (some (.int e)) M) := by
    unfold sJ_bitCount
    refine jm_iload_n (i := 0) F dJ6_bitCount_0f7a4_0 rfl rfl ?_
    refine jm_iload_n (i := 0) F dJ6_bitCount_0f7a4_1 rfl rfl ?_
    refine jm_iconst F dJ6_bitCount_0f7a4_2 kc_1 ?_
    refine jm_iushr F dJ6_bitCount_0f7a4_3 ?_
    refine jm_ldcw F dJ6_bitCount_0f7a4_4 tw_531 ?_
    refine jm_iand F dJ6_bitCount_0f7a4_7 ?_
    refine jm_isub F dJ6_bitCount_0f7a4_8 ?_
    refine jm_nameI (f := fun x1 => [.int x1]) (fun x1 => ?_) rfl
    refine jm_istore_n (i := 0) (lv' := [some (.int x1)]) F dJ6_bitCount_0f7a4_9 rfl (by decide) rfl rfl ?_
    refine jm_iload_n (i := 0) F dJ6_bitCount_0f7a4_10 rfl rfl ?_
    refine jm_ldcw F dJ6_bitCount_0f7a4_11 tw_532 ?_
    refine jm_iand F dJ6_bitCount_0f7a4_14 ?_
    refine jm_iload_n (i := 0) F dJ6_bitCount_0f7a4_15 rfl rfl ?_
    refine jm_iconst F dJ6_bitCount_0f7a4_16 kc_2 ?_
    refine jm_iushr F dJ6_bitCount_0f7a4_17 ?_
    refine jm_ldcw F dJ6_bitCount_0f7a4_18 tw_532 ?_
    refine jm_iand F dJ6_bitCount_0f7a4_21 ?_
    refine jm_iadd F dJ6_bitCount_0f7a4_22 ?_
    refine jm_nameI (f := fun x2 => [.int x2]) (fun x2 => ?_) rfl
    refine jm_istore_n (i := 0) (lv' := [some (.int x2)]) F dJ6_bitCount_0f7a4_23 rfl (by decide) rfl rfl ?_
    refine jm_iload_n (i := 0) F dJ6_bitCount_0f7a4_24 rfl rfl ?_
    refine jm_iload_n (i := 0) F dJ6_bitCount_0f7a4_25 rfl rfl ?_
    refine jm_iconst F dJ6_bitCount_0f7a4_26 kc_4 ?_
    refine jm_iushr F dJ6_bitCount_0f7a4_27 ?_
    refine jm_iadd F dJ6_bitCount_0f7a4_28 ?_
    refine jm_ldcw F dJ6_bitCount_0f7a4_29 tw_533 ?_
    refine jm_iand F dJ6_bitCount_0f7a4_32 ?_
    refine jm_nameI (f := fun x3 => [.int x3]) (fun x3 => ?_) rfl
    refine jm_istore_n (i := 0) (lv' := [some (.int x3)]) F dJ6_bitCount_0f7a4_33 rfl (by decide) rfl rfl ?_
    refine jm_iload_n (i := 0) F dJ6_bitCount_0f7a4_34 rfl rfl ?_
    refine jm_iload_n (i := 0) F dJ6_bitCount_0f7a4_35 rfl rfl ?_
    refine jm_bipush F dJ6_bitCount_0f7a4_36 kb_8 ?_
    refine jm_iushr F dJ6_bitCount_0f7a4_38 ?_
    refine jm_iadd F dJ6_bitCount_0f7a4_39 ?_
    refine jm_nameI (f := fun x4 => [.int x4]) (fun x4 => ?_) rfl
    refine jm_istore_n (i := 0) (lv' := [some (.int x4)]) F dJ6_bitCount_0f7a4_40 rfl (by decide) rfl rfl ?_
    refine jm_iload_n (i := 0) F dJ6_bitCount_0f7a4_41 rfl rfl ?_
    refine jm_iload_n (i := 0) F dJ6_bitCount_0f7a4_42 rfl rfl ?_
    refine jm_bipush F dJ6_bitCount_0f7a4_43 kb_16 ?_
    refine jm_iushr F dJ6_bitCount_0f7a4_45 ?_
    refine jm_iadd F dJ6_bitCount_0f7a4_46 ?_
    refine jm_nameI (f := fun x5 => [.int x5]) (fun x5 => ?_) rfl
    refine jm_istore_n (i := 0) (lv' := [some (.int x5)]) F dJ6_bitCount_0f7a4_47 rfl (by decide) rfl rfl ?_
    refine jm_iload_n (i := 0) F dJ6_bitCount_0f7a4_48 rfl rfl ?_
    refine jm_bipush F dJ6_bitCount_0f7a4_49 kb_63 ?_
    refine jm_iand F dJ6_bitCount_0f7a4_51 ?_
    exact jm_iret F dJ6_bitCount_0f7a4_52 (fun h => h)
  exact G r h hz
theorem dX8_refuse_0 : jm_d cX8_refuse 0 (.aload_n 0) 1 1 := ⟨by decide +kernel, rfl⟩
theorem dX8_refuse_1 : jm_d cX8_refuse 1 (.getfield 61) 3 4 := ⟨by decide +kernel, rfl⟩
theorem dX8_refuse_4 : jm_d cX8_refuse 4 (.iload_n 1) 1 5 := ⟨by decide +kernel, rfl⟩
theorem dX8_refuse_5 : jm_d cX8_refuse 5 (.ineg) 1 6 := ⟨by decide +kernel, rfl⟩
theorem dX8_refuse_6 : jm_d cX8_refuse 6 (.dup2) 1 7 := ⟨by decide +kernel, rfl⟩
theorem dX8_refuse_7 : jm_d cX8_refuse 7 (.iaload) 1 8 := ⟨by decide +kernel, rfl⟩
theorem dX8_refuse_8 : jm_d cX8_refuse 8 (.iconst 1) 1 9 := ⟨by decide +kernel, rfl⟩
theorem dX8_refuse_9 : jm_d cX8_refuse 9 (.iadd) 1 10 := ⟨by decide +kernel, rfl⟩
theorem dX8_refuse_10 : jm_d cX8_refuse 10 (.iastore) 1 11 := ⟨by decide +kernel, rfl⟩
theorem dX8_refuse_11 : jm_d cX8_refuse 11 (.iload_n 1) 1 12 := ⟨by decide +kernel, rfl⟩
theorem dX8_refuse_12 : jm_d cX8_refuse 12 (.ireturn) 1 13 := ⟨by decide +kernel, rfl⟩
set_option maxHeartbeats 4000000 in
set_option maxRecDepth 100000 in
theorem kW_refuse (E : jm_Ev) (hE : jm_dj E jm_LC) {M : jm_M} {p1 : Int32}  {r : Int32 × jm_M} (h : sW_refuse M p1 = some r) : jm_Ct E jm_LC yX8_refuse cX8_refuse 2 (some .int) 0 0 [.ref (jm_a E 0 0), .int p1] M (some (.int r.1)) r.2 := by
  refine jm_enter (lv := [some (.ref (jm_a E 0 0)), some (.int p1)]) hE (by decide) (Nat.le_of_ble_eq_true rfl) rfl ?_
  intro z w F hz
  have G : jm_G w 0 [some (.ref (jm_a E 0 0)), some (.int p1)] [] M (sW_refuse M p1) (fun e => z (some (.int e.1)) e.2) := by
    unfold sW_refuse
    refine jm_aload_n (i := 0) F dX8_refuse_0 rfl rfl ?_
    refine jm_getR F dX8_refuse_1 fl_X8_61 lo_X8 rfl ?_
    refine jm_iload_n (i := 1) F dX8_refuse_4 rfl rfl ?_
    refine jm_ineg F dX8_refuse_5 ?_
    refine jm_dup2 F dX8_refuse_6 rfl rfl ?_
    refine jm_iald F dX8_refuse_7 la_X8_12 (fun v1 => ?_)
    refine jm_iconst F dX8_refuse_8 kc_1 ?_
    refine jm_iadd F dX8_refuse_9 ?_
    refine jm_iast F dX8_refuse_10 la_X8_12 (fun M2 => ?_)
    refine jm_iload_n (i := 1) F dX8_refuse_11 rfl rfl ?_
    exact jm_iret F dX8_refuse_12 (fun h => h)
  exact G r h hz
theorem dX5_addLetter_0 : jm_d cX5_addLetter 0 (.aload_n 0) 1 1 := ⟨by decide +kernel, rfl⟩
theorem dX5_addLetter_1 : jm_d cX5_addLetter 1 (.getfield 22) 3 4 := ⟨by decide +kernel, rfl⟩
theorem dX5_addLetter_4 : jm_d cX5_addLetter 4 (.bipush 96) 2 6 := ⟨by decide +kernel, rfl⟩
theorem dX5_addLetter_6 : jm_b cX5_addLetter 6 (.if_icmp .ge) 9 29 := ⟨23, by decide +kernel, rfl, by decide⟩
theorem dX5_addLetter_29 : jm_d cX5_addLetter 29 (.aload_n 0) 1 30 := ⟨by decide +kernel, rfl⟩
theorem dX5_addLetter_30 : jm_d cX5_addLetter 30 (.getfield 22) 3 33 := ⟨by decide +kernel, rfl⟩
theorem dX5_addLetter_33 : jm_d cX5_addLetter 33 (.ireturn) 1 34 := ⟨by decide +kernel, rfl⟩
theorem dX5_addLetter_9 : jm_d cX5_addLetter 9 (.aload_n 0) 1 10 := ⟨by decide +kernel, rfl⟩
theorem dX5_addLetter_10 : jm_d cX5_addLetter 10 (.getfield 9) 3 13 := ⟨by decide +kernel, rfl⟩
theorem dX5_addLetter_13 : jm_d cX5_addLetter 13 (.aload_n 0) 1 14 := ⟨by decide +kernel, rfl⟩
theorem dX5_addLetter_14 : jm_d cX5_addLetter 14 (.getfield 22) 3 17 := ⟨by decide +kernel, rfl⟩
theorem dX5_addLetter_17 : jm_d cX5_addLetter 17 (.iload_n 1) 1 18 := ⟨by decide +kernel, rfl⟩
theorem dX5_addLetter_18 : jm_d cX5_addLetter 18 (.iastore) 1 19 := ⟨by decide +kernel, rfl⟩
theorem dX5_addLetter_19 : jm_d cX5_addLetter 19 (.aload_n 0) 1 20 := ⟨by decide +kernel, rfl⟩
theorem dX5_addLetter_20 : jm_d cX5_addLetter 20 (.dup) 1 21 := ⟨by decide +kernel, rfl⟩
theorem dX5_addLetter_21 : jm_d cX5_addLetter 21 (.getfield 22) 3 24 := ⟨by decide +kernel, rfl⟩
theorem dX5_addLetter_24 : jm_d cX5_addLetter 24 (.iconst 1) 1 25 := ⟨by decide +kernel, rfl⟩
theorem dX5_addLetter_25 : jm_d cX5_addLetter 25 (.iadd) 1 26 := ⟨by decide +kernel, rfl⟩
theorem dX5_addLetter_26 : jm_d cX5_addLetter 26 (.putfield 22) 3 29 := ⟨by decide +kernel, rfl⟩
set_option maxHeartbeats 4000000 in
set_option maxRecDepth 100000 in
theorem kS_addLetter (E : jm_Ev) (hE : jm_dj E jm_LC) {M : jm_M} {p1 : Int32}  {r : Int32 × jm_M} (h : sS_addLetter M p1 = some r) : jm_Ct E jm_LC yX5_addLetter cX5_addLetter 2 (some .int) 0 0 [.ref (jm_a E 14 0), .int p1] M (some (.int r.1)) r.2 := by
  refine jm_enter (lv := [some (.ref (jm_a E 14 0)), some (.int p1)]) hE (by decide) (Nat.le_of_ble_eq_true rfl) rfl ?_
  intro z w F hz
  have G : jm_G w 0 [some (.ref (jm_a E 14 0)), some (.int p1)] [] M (sS_addLetter M p1) (fun e => z (some (.int e.1)) e.2) := by
    unfold sS_addLetter
    refine jm_aload_n (i := 0) F dX5_addLetter_0 rfl rfl ?_
    refine jm_getI F dX5_addLetter_1 fl_X5_22 lo_X5 rfl ?_
    refine jm_bipush F dX5_addLetter_4 kb_96 ?_
    refine jm_icmp_ge F dX5_addLetter_6 (fun c1 => ?_) (fun c1 => ?_)
    · refine jm_aload_n (i := 0) F dX5_addLetter_29 rfl rfl ?_
      refine jm_getI F dX5_addLetter_30 fl_X5_22 lo_X5 rfl ?_
      exact jm_iret F dX5_addLetter_33 (fun h => h)
    · refine jm_aload_n (i := 0) F dX5_addLetter_9 rfl rfl ?_
      refine jm_getR F dX5_addLetter_10 fl_X5_9 lo_X5 rfl ?_
      refine jm_aload_n (i := 0) F dX5_addLetter_13 rfl rfl ?_
      refine jm_getI F dX5_addLetter_14 fl_X5_22 lo_X5 rfl ?_
      refine jm_iload_n (i := 1) F dX5_addLetter_17 rfl rfl ?_
      refine jm_iast F dX5_addLetter_18 la_X5_1 (fun M2 => ?_)
      refine jm_aload_n (i := 0) F dX5_addLetter_19 rfl rfl ?_
      refine jm_dup F dX5_addLetter_20 rfl ?_
      refine jm_getI F dX5_addLetter_21 fl_X5_22 lo_X5 rfl ?_
      refine jm_iconst F dX5_addLetter_24 kc_1 ?_
      refine jm_iadd F dX5_addLetter_25 ?_
      refine jm_putI F dX5_addLetter_26 fp_X5_22 lo_X5 rfl (fun M3 => ?_)
      refine jm_aload_n (i := 0) F dX5_addLetter_29 rfl rfl ?_
      refine jm_getI F dX5_addLetter_30 fl_X5_22 lo_X5 rfl ?_
      exact jm_iret F dX5_addLetter_33 (fun h => h)
  exact G r h hz
theorem dX8_feed_0 : jm_d cX8_feed 0 (.iload_n 1) 1 1 := ⟨by decide +kernel, rfl⟩
theorem dX8_feed_1 : jm_b cX8_feed 1 (.ifCond .ge) 4 11 := ⟨10, by decide +kernel, rfl, by decide⟩
theorem dX8_feed_11 : jm_d cX8_feed 11 (.iload_n 1) 1 12 := ⟨by decide +kernel, rfl⟩
theorem dX8_feed_12 : jm_d cX8_feed 12 (.sipush 255) 3 15 := ⟨by decide +kernel, rfl⟩
theorem dX8_feed_15 : jm_b cX8_feed 15 (.if_icmp .gt) 18 30 := ⟨15, by decide +kernel, rfl, by decide⟩
theorem dX8_feed_30 : jm_d cX8_feed 30 (.aload_n 0) 1 31 := ⟨by decide +kernel, rfl⟩
theorem dX8_feed_31 : jm_d cX8_feed 31 (.bipush (-6)) 2 33 := ⟨by decide +kernel, rfl⟩
theorem dX8_feed_33 : jm_d cX8_feed 33 (.invokevirtual 64) 3 36 := ⟨by decide +kernel, rfl⟩
theorem dX8_feed_36 : jm_d cX8_feed 36 (.ireturn) 1 37 := ⟨by decide +kernel, rfl⟩
theorem dX8_feed_18 : jm_d cX8_feed 18 (.aload_n 0) 1 19 := ⟨by decide +kernel, rfl⟩
theorem dX8_feed_19 : jm_d cX8_feed 19 (.getfield 29) 3 22 := ⟨by decide +kernel, rfl⟩
theorem dX8_feed_22 : jm_d cX8_feed 22 (.getfield 68) 3 25 := ⟨by decide +kernel, rfl⟩
theorem dX8_feed_25 : jm_d cX8_feed 25 (.bipush 96) 2 27 := ⟨by decide +kernel, rfl⟩
theorem dX8_feed_27 : jm_b cX8_feed 27 (.if_icmp .lt) 30 37 := ⟨10, by decide +kernel, rfl, by decide⟩
theorem dX8_feed_37 : jm_d cX8_feed 37 (.aload_n 0) 1 38 := ⟨by decide +kernel, rfl⟩
theorem dX8_feed_38 : jm_d cX8_feed 38 (.getfield 29) 3 41 := ⟨by decide +kernel, rfl⟩
theorem dX8_feed_41 : jm_d cX8_feed 41 (.iload_n 1) 1 42 := ⟨by decide +kernel, rfl⟩
theorem dX8_feed_42 : jm_d cX8_feed 42 (.invokevirtual 72) 3 45 := ⟨by decide +kernel, rfl⟩
theorem dX8_feed_45 : jm_d cX8_feed 45 (.ireturn) 1 46 := ⟨by decide +kernel, rfl⟩
theorem dX8_feed_4 : jm_d cX8_feed 4 (.aload_n 0) 1 5 := ⟨by decide +kernel, rfl⟩
theorem dX8_feed_5 : jm_d cX8_feed 5 (.bipush (-4)) 2 7 := ⟨by decide +kernel, rfl⟩
theorem dX8_feed_7 : jm_d cX8_feed 7 (.invokevirtual 64) 3 10 := ⟨by decide +kernel, rfl⟩
theorem dX8_feed_10 : jm_d cX8_feed 10 (.ireturn) 1 11 := ⟨by decide +kernel, rfl⟩
set_option maxHeartbeats 4000000 in
set_option maxRecDepth 100000 in
theorem kW_feed (E : jm_Ev) (hE : jm_dj E jm_LC) {M : jm_M} {p1 : Int32}  {r : Int32 × jm_M} (h : sW_feed M p1 = some r) : jm_Ct E jm_LC yX8_feed cX8_feed 2 (some .int) 1 21 [.ref (jm_a E 0 0), .int p1] M (some (.int r.1)) r.2 := by
  refine jm_enter (lv := [some (.ref (jm_a E 0 0)), some (.int p1)]) hE (by decide) (Nat.le_of_ble_eq_true rfl) rfl ?_
  intro z w F hz
  have G : jm_G w 0 [some (.ref (jm_a E 0 0)), some (.int p1)] [] M (sW_feed M p1) (fun e => z (some (.int e.1)) e.2) := by
    unfold sW_feed
    refine jm_iload_n (i := 1) F dX8_feed_0 rfl rfl ?_
    refine jm_if_ge F dX8_feed_1 (fun c1 => ?_) (fun c1 => ?_)
    · refine jm_iload_n (i := 1) F dX8_feed_11 rfl rfl ?_
      refine jm_sipush F dX8_feed_12 ks_255 ?_
      refine jm_icmp_gt F dX8_feed_15 (fun c2 => ?_) (fun c2 => ?_)
      · refine jm_aload_n (i := 0) F dX8_feed_30 rfl rfl ?_
        refine jm_bipush F dX8_feed_31 kb_m6 ?_
        refine jm_callV (As := [.int (-6)]) (st := []) (rv := fun r => some (.int r.1)) (mm := fun r => r.2) F dX8_feed_33 qX8_64 rfl lo_X8 rfl (fun r h => kW_refuse E hE h) rfl (Nat.le_of_ble_eq_true rfl) ⟨Nat.le_of_ble_eq_true rfl, Nat.le_of_ble_eq_true rfl⟩ (fun r3 => ?_)
        exact jm_iret F dX8_feed_36 (fun h => h)
      · refine jm_aload_n (i := 0) F dX8_feed_18 rfl rfl ?_
        refine jm_getR F dX8_feed_19 fl_X8_29 lo_X8 rfl ?_
        refine jm_getI F dX8_feed_22 fl_X8_68 lo_X5 rfl ?_
        refine jm_bipush F dX8_feed_25 kb_96 ?_
        refine jm_icmp_lt F dX8_feed_27 (fun c4 => ?_) (fun c4 => ?_)
        · refine jm_aload_n (i := 0) F dX8_feed_37 rfl rfl ?_
          refine jm_getR F dX8_feed_38 fl_X8_29 lo_X8 rfl ?_
          refine jm_iload_n (i := 1) F dX8_feed_41 rfl rfl ?_
          refine jm_callV (As := [.int p1]) (st := []) (rv := fun r => some (.int r.1)) (mm := fun r => r.2) F dX8_feed_42 qX8_72 rfl lo_X5 rfl (fun r h => kS_addLetter E hE h) rfl (Nat.le_of_ble_eq_true rfl) ⟨Nat.le_of_ble_eq_true rfl, Nat.le_of_ble_eq_true rfl⟩ (fun r5 => ?_)
          exact jm_iret F dX8_feed_45 (fun h => h)
        · refine jm_aload_n (i := 0) F dX8_feed_30 rfl rfl ?_
          refine jm_bipush F dX8_feed_31 kb_m6 ?_
          refine jm_callV (As := [.int (-6)]) (st := []) (rv := fun r => some (.int r.1)) (mm := fun r => r.2) F dX8_feed_33 qX8_64 rfl lo_X8 rfl (fun r h => kW_refuse E hE h) rfl (Nat.le_of_ble_eq_true rfl) ⟨Nat.le_of_ble_eq_true rfl, Nat.le_of_ble_eq_true rfl⟩ (fun r6 => ?_)
          exact jm_iret F dX8_feed_36 (fun h => h)
    · refine jm_aload_n (i := 0) F dX8_feed_4 rfl rfl ?_
      refine jm_bipush F dX8_feed_5 kb_m4 ?_
      refine jm_callV (As := [.int (-4)]) (st := []) (rv := fun r => some (.int r.1)) (mm := fun r => r.2) F dX8_feed_7 qX8_64 rfl lo_X8 rfl (fun r h => kW_refuse E hE h) rfl (Nat.le_of_ble_eq_true rfl) ⟨Nat.le_of_ble_eq_true rfl, Nat.le_of_ble_eq_true rfl⟩ (fun r7 => ?_)
      exact jm_iret F dX8_feed_10 (fun h => h)
  exact G r h hz
theorem dX5_here_0 : jm_d cX5_here 0 (.aload_n 0) 1 1 := ⟨by decide +kernel, rfl⟩
theorem dX5_here_1 : jm_d cX5_here 1 (.getfield 30) 3 4 := ⟨by decide +kernel, rfl⟩
theorem dX5_here_4 : jm_b cX5_here 4 (.ifCond .lt) 7 30 := ⟨26, by decide +kernel, rfl, by decide⟩
theorem dX5_here_30 : jm_d cX5_here 30 (.iconst (-1)) 1 31 := ⟨by decide +kernel, rfl⟩
theorem dX5_here_31 : jm_d cX5_here 31 (.ireturn) 1 32 := ⟨by decide +kernel, rfl⟩
theorem dX5_here_7 : jm_d cX5_here 7 (.aload_n 0) 1 8 := ⟨by decide +kernel, rfl⟩
theorem dX5_here_8 : jm_d cX5_here 8 (.getfield 30) 3 11 := ⟨by decide +kernel, rfl⟩
theorem dX5_here_11 : jm_d cX5_here 11 (.aload_n 0) 1 12 := ⟨by decide +kernel, rfl⟩
theorem dX5_here_12 : jm_d cX5_here 12 (.getfield 22) 3 15 := ⟨by decide +kernel, rfl⟩
theorem dX5_here_15 : jm_b cX5_here 15 (.if_icmp .ge) 18 30 := ⟨15, by decide +kernel, rfl, by decide⟩
theorem dX5_here_18 : jm_d cX5_here 18 (.aload_n 0) 1 19 := ⟨by decide +kernel, rfl⟩
theorem dX5_here_19 : jm_d cX5_here 19 (.getfield 9) 3 22 := ⟨by decide +kernel, rfl⟩
theorem dX5_here_22 : jm_d cX5_here 22 (.aload_n 0) 1 23 := ⟨by decide +kernel, rfl⟩
theorem dX5_here_23 : jm_d cX5_here 23 (.getfield 30) 3 26 := ⟨by decide +kernel, rfl⟩
theorem dX5_here_26 : jm_d cX5_here 26 (.iaload) 1 27 := ⟨by decide +kernel, rfl⟩
theorem dX5_here_27 : jm_b cX5_here 27 .goto 30 31 := ⟨4, by decide +kernel, rfl, by decide⟩
set_option maxHeartbeats 4000000 in
set_option maxRecDepth 100000 in
theorem kS_here (E : jm_Ev) (hE : jm_dj E jm_LC) {M : jm_M}  {r : Int32} (h : sS_here M = some r) : jm_Ct E jm_LC yX5_here cX5_here 1 (some .int) 0 0 [.ref (jm_a E 14 0)] M (some (.int r)) M := by
  refine jm_enter (lv := [some (.ref (jm_a E 14 0))]) hE (by decide) (Nat.le_of_ble_eq_true rfl) rfl ?_
  intro z w F hz
  have G : jm_G w 0 [some (.ref (jm_a E 14 0))] [] M (sS_here M) (fun e => z (some (.int e)) M) := by
    unfold sS_here
    refine jm_aload_n (i := 0) F dX5_here_0 rfl rfl ?_
    refine jm_getI F dX5_here_1 fl_X5_30 lo_X5 rfl ?_
    refine jm_if_lt F dX5_here_4 (fun c1 => ?_) (fun c1 => ?_)
    · refine jm_iconst F dX5_here_30 kc_m1 ?_
      exact jm_iret F dX5_here_31 (fun h => h)
    · refine jm_aload_n (i := 0) F dX5_here_7 rfl rfl ?_
      refine jm_getI F dX5_here_8 fl_X5_30 lo_X5 rfl ?_
      refine jm_aload_n (i := 0) F dX5_here_11 rfl rfl ?_
      refine jm_getI F dX5_here_12 fl_X5_22 lo_X5 rfl ?_
      refine jm_icmp_ge F dX5_here_15 (fun c2 => ?_) (fun c2 => ?_)
      · refine jm_iconst F dX5_here_30 kc_m1 ?_
        exact jm_iret F dX5_here_31 (fun h => h)
      · refine jm_aload_n (i := 0) F dX5_here_18 rfl rfl ?_
        refine jm_getR F dX5_here_19 fl_X5_9 lo_X5 rfl ?_
        refine jm_aload_n (i := 0) F dX5_here_22 rfl rfl ?_
        refine jm_getI F dX5_here_23 fl_X5_30 lo_X5 rfl ?_
        refine jm_iald F dX5_here_26 la_X5_1 (fun v3 => ?_)
        refine jm_goto F dX5_here_27 ?_
        exact jm_iret F dX5_here_31 (fun h => h)
  exact G r h hz
theorem dX5_passDigits_0 : jm_d cX5_passDigits 0 (.iconst 0) 1 1 := ⟨by decide +kernel, rfl⟩
theorem dX5_passDigits_1 : jm_d cX5_passDigits 1 (.istore_n 2) 1 2 := ⟨by decide +kernel, rfl⟩
theorem dX5_passDigits_2 : jm_d cX5_passDigits 2 (.iload_n 2) 1 3 := ⟨by decide +kernel, rfl⟩
theorem dX5_passDigits_3 : jm_d cX5_passDigits 3 (.iload_n 1) 1 4 := ⟨by decide +kernel, rfl⟩
theorem dX5_passDigits_4 : jm_b cX5_passDigits 4 (.if_icmp .ge) 7 43 := ⟨39, by decide +kernel, rfl, by decide⟩
theorem dX5_passDigits_7 : jm_d cX5_passDigits 7 (.aload_n 0) 1 8 := ⟨by decide +kernel, rfl⟩
theorem dX5_passDigits_8 : jm_d cX5_passDigits 8 (.invokevirtual 37) 3 11 := ⟨by decide +kernel, rfl⟩
theorem dX5_passDigits_11 : jm_d cX5_passDigits 11 (.bipush 48) 2 13 := ⟨by decide +kernel, rfl⟩
theorem dX5_passDigits_13 : jm_b cX5_passDigits 13 (.if_icmp .lt) 16 25 := ⟨12, by decide +kernel, rfl, by decide⟩
theorem dX5_passDigits_25 : jm_d cX5_passDigits 25 (.iconst 0) 1 26 := ⟨by decide +kernel, rfl⟩
theorem dX5_passDigits_26 : jm_d cX5_passDigits 26 (.ireturn) 1 27 := ⟨by decide +kernel, rfl⟩
theorem dX5_passDigits_16 : jm_d cX5_passDigits 16 (.aload_n 0) 1 17 := ⟨by decide +kernel, rfl⟩
theorem dX5_passDigits_17 : jm_d cX5_passDigits 17 (.invokevirtual 37) 3 20 := ⟨by decide +kernel, rfl⟩
theorem dX5_passDigits_20 : jm_d cX5_passDigits 20 (.bipush 57) 2 22 := ⟨by decide +kernel, rfl⟩
theorem dX5_passDigits_22 : jm_b cX5_passDigits 22 (.if_icmp .le) 25 27 := ⟨5, by decide +kernel, rfl, by decide⟩
theorem dX5_passDigits_27 : jm_d cX5_passDigits 27 (.aload_n 0) 1 28 := ⟨by decide +kernel, rfl⟩
theorem dX5_passDigits_28 : jm_d cX5_passDigits 28 (.dup) 1 29 := ⟨by decide +kernel, rfl⟩
theorem dX5_passDigits_29 : jm_d cX5_passDigits 29 (.getfield 30) 3 32 := ⟨by decide +kernel, rfl⟩
theorem dX5_passDigits_32 : jm_d cX5_passDigits 32 (.iconst 1) 1 33 := ⟨by decide +kernel, rfl⟩
theorem dX5_passDigits_33 : jm_d cX5_passDigits 33 (.iadd) 1 34 := ⟨by decide +kernel, rfl⟩
theorem dX5_passDigits_34 : jm_d cX5_passDigits 34 (.putfield 30) 3 37 := ⟨by decide +kernel, rfl⟩
theorem dX5_passDigits_37 : jm_d cX5_passDigits 37 (.iinc 2 1) 3 40 := ⟨by decide +kernel, rfl⟩
theorem dX5_passDigits_40 : jm_b cX5_passDigits 40 .goto 43 2 := ⟨(-38), by decide +kernel, rfl, by decide⟩
theorem dX5_passDigits_43 : jm_d cX5_passDigits 43 (.iconst 1) 1 44 := ⟨by decide +kernel, rfl⟩
theorem dX5_passDigits_44 : jm_d cX5_passDigits 44 (.ireturn) 1 45 := ⟨by decide +kernel, rfl⟩
set_option maxHeartbeats 4000000 in
set_option maxRecDepth 100000 in
theorem kS_passDigits (E : jm_Ev) (hE : jm_dj E jm_LC) {M : jm_M} {p1 : Int32}  {r : Int32 × jm_M} (h : sS_passDigits M p1 = some r) : jm_Ct E jm_LC yX5_passDigits cX5_passDigits 3 (some .boolean) 1 20 [.ref (jm_a E 14 0), .int p1] M (some (.int r.1)) r.2 := by
  refine jm_enter (lv := [some (.ref (jm_a E 14 0)), some (.int p1), none]) hE (by decide) (Nat.le_of_ble_eq_true rfl) rfl ?_
  intro z w F hz
  have G : jm_G w 0 [some (.ref (jm_a E 14 0)), some (.int p1), none] [] M (sS_passDigits M p1) (fun e => z (some (.int e.1)) e.2) := by
    unfold sS_passDigits
    refine jm_iconst F dX5_passDigits_0 kc_0 ?_
    refine jm_istore_n (i := 2) (lv' := [some (.ref (jm_a E 14 0)), some (.int p1), some (.int 0)]) F dX5_passDigits_1 rfl (by decide) rfl rfl ?_
    refine jm_bindS (pcJ := 43) (lvJ := fun e8 => [none, none, none]) (stJ := fun _ => []) (MJ := fun e8 => e8) ?_ (fun e8 => ?_)
    · refine jm_weak F (lv' := [some (.ref (jm_a E 14 0)), some (.int p1), some (.int 0)]) ⟨rfl, rfl, rfl, trivial⟩ ?_
      refine jm_loopR (lvH := fun s1 => [some (.ref (jm_a E 14 0)), some (.int p1), some (.int s1.1)]) (MH := fun s1 => s1.2) (fun s1 => ?_) jm_N (0, M)
      unfold sS_passDigits_L2
      refine jm_iload_n (i := 2) F dX5_passDigits_2 rfl rfl ?_
      refine jm_iload_n (i := 1) F dX5_passDigits_3 rfl rfl ?_
      refine jm_icmp_ge F dX5_passDigits_4 (fun c2 => ?_) (fun c2 => ?_)
      · exact jm_weakD F (lv' := [none, none, none]) trivial (fun h => h)
      · refine jm_aload_n (i := 0) F dX5_passDigits_7 rfl rfl ?_
        refine jm_callV (As := []) (st := []) (rv := fun r => some (.int r)) (mm := fun _ => s1.2) F dX5_passDigits_8 qX5_37 rfl lo_X5 rfl (fun r h => kS_here E hE h) rfl (Nat.le_of_ble_eq_true rfl) ⟨Nat.le_of_ble_eq_true rfl, Nat.le_of_ble_eq_true rfl⟩ (fun r3 => ?_)
        refine jm_bipush F dX5_passDigits_11 kb_48 ?_
        refine jm_icmp_lt F dX5_passDigits_13 (fun c4 => ?_) (fun c4 => ?_)
        · refine jm_iconst F dX5_passDigits_25 kc_0 ?_
          exact jm_zret F dX5_passDigits_26 (Or.inl rfl) (fun h => h)
        · refine jm_aload_n (i := 0) F dX5_passDigits_16 rfl rfl ?_
          refine jm_callV (As := []) (st := []) (rv := fun r => some (.int r)) (mm := fun _ => s1.2) F dX5_passDigits_17 qX5_37 rfl lo_X5 rfl (fun r h => kS_here E hE h) rfl (Nat.le_of_ble_eq_true rfl) ⟨Nat.le_of_ble_eq_true rfl, Nat.le_of_ble_eq_true rfl⟩ (fun r5 => ?_)
          refine jm_bipush F dX5_passDigits_20 kb_57 ?_
          refine jm_icmp_le F dX5_passDigits_22 (fun c6 => ?_) (fun c6 => ?_)
          · refine jm_aload_n (i := 0) F dX5_passDigits_27 rfl rfl ?_
            refine jm_dup F dX5_passDigits_28 rfl ?_
            refine jm_getI F dX5_passDigits_29 fl_X5_30 lo_X5 rfl ?_
            refine jm_iconst F dX5_passDigits_32 kc_1 ?_
            refine jm_iadd F dX5_passDigits_33 ?_
            refine jm_putI F dX5_passDigits_34 fp_X5_30 lo_X5 rfl (fun M7 => ?_)
            refine jm_iinc (i := 2) (lv' := [some (.ref (jm_a E 14 0)), some (.int p1), some (.int (s1.1 + 1))]) F dX5_passDigits_37 kc_1 rfl (by decide) rfl rfl ?_
            refine jm_goto F dX5_passDigits_40 ?_
            exact jm_weakD F (lv' := [some (.ref (jm_a E 14 0)), some (.int p1), some (.int (s1.1 + 1))]) ⟨rfl, rfl, rfl, trivial⟩ (fun h => h)
          · refine jm_iconst F dX5_passDigits_25 kc_0 ?_
            exact jm_zret F dX5_passDigits_26 (Or.inl rfl) (fun h => h)
    · refine jm_iconst F dX5_passDigits_43 kc_1 ?_
      exact jm_zret F dX5_passDigits_44 (Or.inr rfl) (fun h => h)
  exact G r h hz
theorem dX5_isTitleLetter_0 : jm_d cX5_isTitleLetter 0 (.iload_n 1) 1 1 := ⟨by decide +kernel, rfl⟩
theorem dX5_isTitleLetter_1 : jm_d cX5_isTitleLetter 1 (.bipush 97) 2 3 := ⟨by decide +kernel, rfl⟩
theorem dX5_isTitleLetter_3 : jm_b cX5_isTitleLetter 3 (.if_icmp .lt) 6 16 := ⟨13, by decide +kernel, rfl, by decide⟩
theorem dX5_isTitleLetter_16 : jm_d cX5_isTitleLetter 16 (.iconst 0) 1 17 := ⟨by decide +kernel, rfl⟩
theorem dX5_isTitleLetter_17 : jm_d cX5_isTitleLetter 17 (.ireturn) 1 18 := ⟨by decide +kernel, rfl⟩
theorem dX5_isTitleLetter_6 : jm_d cX5_isTitleLetter 6 (.iload_n 1) 1 7 := ⟨by decide +kernel, rfl⟩
theorem dX5_isTitleLetter_7 : jm_d cX5_isTitleLetter 7 (.bipush 122) 2 9 := ⟨by decide +kernel, rfl⟩
theorem dX5_isTitleLetter_9 : jm_b cX5_isTitleLetter 9 (.if_icmp .gt) 12 16 := ⟨7, by decide +kernel, rfl, by decide⟩
theorem dX5_isTitleLetter_12 : jm_d cX5_isTitleLetter 12 (.iconst 1) 1 13 := ⟨by decide +kernel, rfl⟩
theorem dX5_isTitleLetter_13 : jm_b cX5_isTitleLetter 13 .goto 16 17 := ⟨4, by decide +kernel, rfl, by decide⟩
set_option maxHeartbeats 4000000 in
set_option maxRecDepth 100000 in
theorem kS_isTitleLetter (E : jm_Ev) (hE : jm_dj E jm_LC) {p1 : Int32} {M : jm_M}  {r : Int32} (h : sS_isTitleLetter p1 = some r) : jm_Ct E jm_LC yX5_isTitleLetter cX5_isTitleLetter 2 (some .boolean) 0 0 [.ref (jm_a E 14 0), .int p1] M (some (.int r)) M := by
  refine jm_enter (lv := [some (.ref (jm_a E 14 0)), some (.int p1)]) hE (by decide) (Nat.le_of_ble_eq_true rfl) rfl ?_
  intro z w F hz
  have G : jm_G w 0 [some (.ref (jm_a E 14 0)), some (.int p1)] [] M (sS_isTitleLetter p1) (fun e => z (some (.int e)) M) := by
    unfold sS_isTitleLetter
    refine jm_iload_n (i := 1) F dX5_isTitleLetter_0 rfl rfl ?_
    refine jm_bipush F dX5_isTitleLetter_1 kb_97 ?_
    refine jm_icmp_lt F dX5_isTitleLetter_3 (fun c1 => ?_) (fun c1 => ?_)
    · refine jm_iconst F dX5_isTitleLetter_16 kc_0 ?_
      exact jm_zret F dX5_isTitleLetter_17 (Or.inl rfl) (fun h => h)
    · refine jm_iload_n (i := 1) F dX5_isTitleLetter_6 rfl rfl ?_
      refine jm_bipush F dX5_isTitleLetter_7 kb_122 ?_
      refine jm_icmp_gt F dX5_isTitleLetter_9 (fun c2 => ?_) (fun c2 => ?_)
      · refine jm_iconst F dX5_isTitleLetter_16 kc_0 ?_
        exact jm_zret F dX5_isTitleLetter_17 (Or.inl rfl) (fun h => h)
      · refine jm_iconst F dX5_isTitleLetter_12 kc_1 ?_
        refine jm_goto F dX5_isTitleLetter_13 ?_
        exact jm_zret F dX5_isTitleLetter_17 (Or.inr rfl) (fun h => h)
  exact G r h hz
theorem dX5_passTitle_0 : jm_d cX5_passTitle 0 (.aload_n 0) 1 1 := ⟨by decide +kernel, rfl⟩
theorem dX5_passTitle_1 : jm_d cX5_passTitle 1 (.aload_n 0) 1 2 := ⟨by decide +kernel, rfl⟩
theorem dX5_passTitle_2 : jm_d cX5_passTitle 2 (.invokevirtual 37) 3 5 := ⟨by decide +kernel, rfl⟩
theorem dX5_passTitle_5 : jm_d cX5_passTitle 5 (.invokevirtual 66) 3 8 := ⟨by decide +kernel, rfl⟩
theorem dX5_passTitle_8 : jm_b cX5_passTitle 8 (.ifCond .ne) 11 13 := ⟨5, by decide +kernel, rfl, by decide⟩
theorem dX5_passTitle_11 : jm_d cX5_passTitle 11 (.iconst 0) 1 12 := ⟨by decide +kernel, rfl⟩
theorem dX5_passTitle_12 : jm_d cX5_passTitle 12 (.ireturn) 1 13 := ⟨by decide +kernel, rfl⟩
theorem dX5_passTitle_13 : jm_d cX5_passTitle 13 (.aload_n 0) 1 14 := ⟨by decide +kernel, rfl⟩
theorem dX5_passTitle_14 : jm_d cX5_passTitle 14 (.getfield 30) 3 17 := ⟨by decide +kernel, rfl⟩
theorem dX5_passTitle_17 : jm_d cX5_passTitle 17 (.aload_n 0) 1 18 := ⟨by decide +kernel, rfl⟩
theorem dX5_passTitle_18 : jm_d cX5_passTitle 18 (.getfield 22) 3 21 := ⟨by decide +kernel, rfl⟩
theorem dX5_passTitle_21 : jm_b cX5_passTitle 21 (.if_icmp .ge) 24 48 := ⟨27, by decide +kernel, rfl, by decide⟩
theorem dX5_passTitle_24 : jm_d cX5_passTitle 24 (.aload_n 0) 1 25 := ⟨by decide +kernel, rfl⟩
theorem dX5_passTitle_25 : jm_d cX5_passTitle 25 (.aload_n 0) 1 26 := ⟨by decide +kernel, rfl⟩
theorem dX5_passTitle_26 : jm_d cX5_passTitle 26 (.invokevirtual 37) 3 29 := ⟨by decide +kernel, rfl⟩
theorem dX5_passTitle_29 : jm_d cX5_passTitle 29 (.invokevirtual 66) 3 32 := ⟨by decide +kernel, rfl⟩
theorem dX5_passTitle_32 : jm_b cX5_passTitle 32 (.ifCond .eq) 35 48 := ⟨16, by decide +kernel, rfl, by decide⟩
theorem dX5_passTitle_35 : jm_d cX5_passTitle 35 (.aload_n 0) 1 36 := ⟨by decide +kernel, rfl⟩
theorem dX5_passTitle_36 : jm_d cX5_passTitle 36 (.dup) 1 37 := ⟨by decide +kernel, rfl⟩
theorem dX5_passTitle_37 : jm_d cX5_passTitle 37 (.getfield 30) 3 40 := ⟨by decide +kernel, rfl⟩
theorem dX5_passTitle_40 : jm_d cX5_passTitle 40 (.iconst 1) 1 41 := ⟨by decide +kernel, rfl⟩
theorem dX5_passTitle_41 : jm_d cX5_passTitle 41 (.iadd) 1 42 := ⟨by decide +kernel, rfl⟩
theorem dX5_passTitle_42 : jm_d cX5_passTitle 42 (.putfield 30) 3 45 := ⟨by decide +kernel, rfl⟩
theorem dX5_passTitle_45 : jm_b cX5_passTitle 45 .goto 48 13 := ⟨(-32), by decide +kernel, rfl, by decide⟩
theorem dX5_passTitle_48 : jm_d cX5_passTitle 48 (.iconst 1) 1 49 := ⟨by decide +kernel, rfl⟩
theorem dX5_passTitle_49 : jm_d cX5_passTitle 49 (.ireturn) 1 50 := ⟨by decide +kernel, rfl⟩
set_option maxHeartbeats 4000000 in
set_option maxRecDepth 100000 in
theorem kS_passTitle (E : jm_Ev) (hE : jm_dj E jm_LC) {M : jm_M}  {r : Int32 × jm_M} (h : sS_passTitle M = some r) : jm_Ct E jm_LC yX5_passTitle cX5_passTitle 1 (some .boolean) 1 21 [.ref (jm_a E 14 0)] M (some (.int r.1)) r.2 := by
  refine jm_enter (lv := [some (.ref (jm_a E 14 0))]) hE (by decide) (Nat.le_of_ble_eq_true rfl) rfl ?_
  intro z w F hz
  have G : jm_G w 0 [some (.ref (jm_a E 14 0))] [] M (sS_passTitle M) (fun e => z (some (.int e.1)) e.2) := by
    unfold sS_passTitle
    refine jm_aload_n (i := 0) F dX5_passTitle_0 rfl rfl ?_
    refine jm_aload_n (i := 0) F dX5_passTitle_1 rfl rfl ?_
    refine jm_callV (As := []) (st := [.ref (jm_a E 14 0)]) (rv := fun r => some (.int r)) (mm := fun _ => M) F dX5_passTitle_2 qX5_37 rfl lo_X5 rfl (fun r h => kS_here E hE h) rfl (Nat.le_of_ble_eq_true rfl) ⟨Nat.le_of_ble_eq_true rfl, Nat.le_of_ble_eq_true rfl⟩ (fun r1 => ?_)
    refine jm_callV (As := [.int r1]) (st := []) (rv := fun r => some (.int r)) (mm := fun _ => M) F dX5_passTitle_5 qX5_66 rfl lo_X5 rfl (fun r h => kS_isTitleLetter E hE h) rfl (Nat.le_of_ble_eq_true rfl) ⟨Nat.le_of_ble_eq_true rfl, Nat.le_of_ble_eq_true rfl⟩ (fun r2 => ?_)
    refine jm_if_ne F dX5_passTitle_8 (fun c3 => ?_) (fun c3 => ?_)
    · refine jm_iconst F dX5_passTitle_11 kc_0 ?_
      exact jm_zret F dX5_passTitle_12 (Or.inl rfl) (fun h => h)
    · refine jm_bind (pcJ := 48) (lvJ := fun e10 => [none]) (stJ := fun _ => []) (MJ := fun e10 => e10) ?_ (fun e10 => ?_)
      · refine jm_weak F (lv' := [some (.ref (jm_a E 14 0))]) ⟨rfl, trivial⟩ ?_
        refine jm_loopR (lvH := fun s4 => [some (.ref (jm_a E 14 0))]) (MH := fun s4 => s4) (fun s4 => ?_) jm_N M
        unfold sS_passTitle_L13
        refine jm_aload_n (i := 0) F dX5_passTitle_13 rfl rfl ?_
        refine jm_getI F dX5_passTitle_14 fl_X5_30 lo_X5 rfl ?_
        refine jm_aload_n (i := 0) F dX5_passTitle_17 rfl rfl ?_
        refine jm_getI F dX5_passTitle_18 fl_X5_22 lo_X5 rfl ?_
        refine jm_icmp_ge F dX5_passTitle_21 (fun c5 => ?_) (fun c5 => ?_)
        · exact jm_weakD F (lv' := [none]) trivial (fun h => h)
        · refine jm_aload_n (i := 0) F dX5_passTitle_24 rfl rfl ?_
          refine jm_aload_n (i := 0) F dX5_passTitle_25 rfl rfl ?_
          refine jm_callV (As := []) (st := [.ref (jm_a E 14 0)]) (rv := fun r => some (.int r)) (mm := fun _ => s4) F dX5_passTitle_26 qX5_37 rfl lo_X5 rfl (fun r h => kS_here E hE h) rfl (Nat.le_of_ble_eq_true rfl) ⟨Nat.le_of_ble_eq_true rfl, Nat.le_of_ble_eq_true rfl⟩ (fun r6 => ?_)
          refine jm_callV (As := [.int r6]) (st := []) (rv := fun r => some (.int r)) (mm := fun _ => s4) F dX5_passTitle_29 qX5_66 rfl lo_X5 rfl (fun r h => kS_isTitleLetter E hE h) rfl (Nat.le_of_ble_eq_true rfl) ⟨Nat.le_of_ble_eq_true rfl, Nat.le_of_ble_eq_true rfl⟩ (fun r7 => ?_)
          refine jm_if_eq F dX5_passTitle_32 (fun c8 => ?_) (fun c8 => ?_)
          · exact jm_weakD F (lv' := [none]) trivial (fun h => h)
          · refine jm_aload_n (i := 0) F dX5_passTitle_35 rfl rfl ?_
            refine jm_dup F dX5_passTitle_36 rfl ?_
            refine jm_getI F dX5_passTitle_37 fl_X5_30 lo_X5 rfl ?_
            refine jm_iconst F dX5_passTitle_40 kc_1 ?_
            refine jm_iadd F dX5_passTitle_41 ?_
            refine jm_putI F dX5_passTitle_42 fp_X5_30 lo_X5 rfl (fun M9 => ?_)
            refine jm_goto F dX5_passTitle_45 ?_
            exact jm_weakD F (lv' := [some (.ref (jm_a E 14 0))]) ⟨rfl, trivial⟩ (fun h => h)
      · refine jm_iconst F dX5_passTitle_48 kc_1 ?_
        exact jm_zret F dX5_passTitle_49 (Or.inr rfl) (fun h => h)
  exact G r h hz
theorem dX5_stepHere_0 : jm_d cX5_stepHere 0 (.iconst 0) 1 1 := ⟨by decide +kernel, rfl⟩
theorem dX5_stepHere_1 : jm_d cX5_stepHere 1 (.istore_n 1) 1 2 := ⟨by decide +kernel, rfl⟩
theorem dX5_stepHere_2 : jm_d cX5_stepHere 2 (.iload_n 1) 1 3 := ⟨by decide +kernel, rfl⟩
theorem dX5_stepHere_3 : jm_d cX5_stepHere 3 (.bipush 8) 2 5 := ⟨by decide +kernel, rfl⟩
theorem dX5_stepHere_5 : jm_b cX5_stepHere 5 (.if_icmp .ge) 8 28 := ⟨23, by decide +kernel, rfl, by decide⟩
theorem dX5_stepHere_8 : jm_d cX5_stepHere 8 (.getstatic 69) 3 11 := ⟨by decide +kernel, rfl⟩
theorem dX5_stepHere_11 : jm_d cX5_stepHere 11 (.iload_n 1) 1 12 := ⟨by decide +kernel, rfl⟩
theorem dX5_stepHere_12 : jm_d cX5_stepHere 12 (.caload) 1 13 := ⟨by decide +kernel, rfl⟩
theorem dX5_stepHere_13 : jm_d cX5_stepHere 13 (.aload_n 0) 1 14 := ⟨by decide +kernel, rfl⟩
theorem dX5_stepHere_14 : jm_d cX5_stepHere 14 (.invokevirtual 37) 3 17 := ⟨by decide +kernel, rfl⟩
theorem dX5_stepHere_17 : jm_b cX5_stepHere 17 (.if_icmp .ne) 20 22 := ⟨5, by decide +kernel, rfl, by decide⟩
theorem dX5_stepHere_20 : jm_d cX5_stepHere 20 (.iload_n 1) 1 21 := ⟨by decide +kernel, rfl⟩
theorem dX5_stepHere_21 : jm_d cX5_stepHere 21 (.ireturn) 1 22 := ⟨by decide +kernel, rfl⟩
theorem dX5_stepHere_22 : jm_d cX5_stepHere 22 (.iinc 1 1) 3 25 := ⟨by decide +kernel, rfl⟩
theorem dX5_stepHere_25 : jm_b cX5_stepHere 25 .goto 28 2 := ⟨(-23), by decide +kernel, rfl, by decide⟩
theorem dX5_stepHere_28 : jm_d cX5_stepHere 28 (.bipush (-9)) 2 30 := ⟨by decide +kernel, rfl⟩
theorem dX5_stepHere_30 : jm_d cX5_stepHere 30 (.ireturn) 1 31 := ⟨by decide +kernel, rfl⟩
set_option maxHeartbeats 4000000 in
set_option maxRecDepth 100000 in
theorem kS_stepHere (E : jm_Ev) (hE : jm_dj E jm_LC) {M : jm_M}  {r : Int32} (h : sS_stepHere M = some r) : jm_Ct E jm_LC yX5_stepHere cX5_stepHere 2 (some .int) 1 20 [.ref (jm_a E 14 0)] M (some (.int r)) M := by
  refine jm_enter (lv := [some (.ref (jm_a E 14 0)), none]) hE (by decide) (Nat.le_of_ble_eq_true rfl) rfl ?_
  intro z w F hz
  have G : jm_G w 0 [some (.ref (jm_a E 14 0)), none] [] M (sS_stepHere M) (fun e => z (some (.int e)) M) := by
    unfold sS_stepHere
    refine jm_iconst F dX5_stepHere_0 kc_0 ?_
    refine jm_istore_n (i := 1) (lv' := [some (.ref (jm_a E 14 0)), some (.int 0)]) F dX5_stepHere_1 rfl (by decide) rfl rfl ?_
    refine jm_bindS (pcJ := 28) (lvJ := fun e6 => [none, none]) (stJ := fun _ => []) (MJ := fun e6 => M) ?_ (fun e6 => ?_)
    · refine jm_weak F (lv' := [some (.ref (jm_a E 14 0)), some (.int 0)]) ⟨rfl, rfl, trivial⟩ ?_
      refine jm_loopR (lvH := fun s1 => [some (.ref (jm_a E 14 0)), some (.int s1)]) (MH := fun s1 => M) (fun s1 => ?_) jm_N 0
      unfold sS_stepHere_L2
      refine jm_iload_n (i := 1) F dX5_stepHere_2 rfl rfl ?_
      refine jm_bipush F dX5_stepHere_3 kb_8 ?_
      refine jm_icmp_ge F dX5_stepHere_5 (fun c2 => ?_) (fun c2 => ?_)
      · exact jm_weakD F (lv' := [none, none]) trivial (fun h => h)
      · refine jm_gets F dX5_stepHere_8 tw_395 ?_
        refine jm_iload_n (i := 1) F dX5_stepHere_11 rfl rfl ?_
        refine jm_cald F dX5_stepHere_12 (fun v3 => ?_)
        refine jm_aload_n (i := 0) F dX5_stepHere_13 rfl rfl ?_
        refine jm_callV (As := []) (st := [.int v3]) (rv := fun r => some (.int r)) (mm := fun _ => M) F dX5_stepHere_14 qX5_37 rfl lo_X5 rfl (fun r h => kS_here E hE h) rfl (Nat.le_of_ble_eq_true rfl) ⟨Nat.le_of_ble_eq_true rfl, Nat.le_of_ble_eq_true rfl⟩ (fun r4 => ?_)
        refine jm_icmp_ne F dX5_stepHere_17 (fun c5 => ?_) (fun c5 => ?_)
        · refine jm_iload_n (i := 1) F dX5_stepHere_20 rfl rfl ?_
          exact jm_iret F dX5_stepHere_21 (fun h => h)
        · refine jm_iinc (i := 1) (lv' := [some (.ref (jm_a E 14 0)), some (.int (s1 + 1))]) F dX5_stepHere_22 kc_1 rfl (by decide) rfl rfl ?_
          refine jm_goto F dX5_stepHere_25 ?_
          exact jm_weakD F (lv' := [some (.ref (jm_a E 14 0)), some (.int (s1 + 1))]) ⟨rfl, rfl, trivial⟩ (fun h => h)
    · refine jm_bipush F dX5_stepHere_28 kb_m9 ?_
      exact jm_iret F dX5_stepHere_30 (fun h => h)
  exact G r h hz
theorem dX5_passSteps_0 : jm_d cX5_passSteps 0 (.iconst 0) 1 1 := ⟨by decide +kernel, rfl⟩
theorem dX5_passSteps_1 : jm_d cX5_passSteps 1 (.istore_n 1) 1 2 := ⟨by decide +kernel, rfl⟩
theorem dX5_passSteps_2 : jm_d cX5_passSteps 2 (.iload_n 1) 1 3 := ⟨by decide +kernel, rfl⟩
theorem dX5_passSteps_3 : jm_d cX5_passSteps 3 (.bipush 96) 2 5 := ⟨by decide +kernel, rfl⟩
theorem dX5_passSteps_5 : jm_b cX5_passSteps 5 (.if_icmp .ge) 8 61 := ⟨56, by decide +kernel, rfl, by decide⟩
theorem dX5_passSteps_8 : jm_d cX5_passSteps 8 (.aload_n 0) 1 9 := ⟨by decide +kernel, rfl⟩
theorem dX5_passSteps_9 : jm_d cX5_passSteps 9 (.invokevirtual 37) 3 12 := ⟨by decide +kernel, rfl⟩
theorem dX5_passSteps_12 : jm_d cX5_passSteps 12 (.bipush 59) 2 14 := ⟨by decide +kernel, rfl⟩
theorem dX5_passSteps_14 : jm_b cX5_passSteps 14 (.if_icmp .eq) 17 61 := ⟨47, by decide +kernel, rfl, by decide⟩
theorem dX5_passSteps_17 : jm_d cX5_passSteps 17 (.aload_n 0) 1 18 := ⟨by decide +kernel, rfl⟩
theorem dX5_passSteps_18 : jm_d cX5_passSteps 18 (.invokevirtual 63) 3 21 := ⟨by decide +kernel, rfl⟩
theorem dX5_passSteps_21 : jm_d cX5_passSteps 21 (.istore_n 2) 1 22 := ⟨by decide +kernel, rfl⟩
theorem dX5_passSteps_22 : jm_d cX5_passSteps 22 (.iload_n 2) 1 23 := ⟨by decide +kernel, rfl⟩
theorem dX5_passSteps_23 : jm_d cX5_passSteps 23 (.bipush (-9)) 2 25 := ⟨by decide +kernel, rfl⟩
theorem dX5_passSteps_25 : jm_b cX5_passSteps 25 (.if_icmp .ne) 28 30 := ⟨5, by decide +kernel, rfl, by decide⟩
theorem dX5_passSteps_28 : jm_d cX5_passSteps 28 (.iconst 0) 1 29 := ⟨by decide +kernel, rfl⟩
theorem dX5_passSteps_29 : jm_d cX5_passSteps 29 (.ireturn) 1 30 := ⟨by decide +kernel, rfl⟩
theorem dX5_passSteps_30 : jm_d cX5_passSteps 30 (.aload_n 0) 1 31 := ⟨by decide +kernel, rfl⟩
theorem dX5_passSteps_31 : jm_d cX5_passSteps 31 (.dup) 1 32 := ⟨by decide +kernel, rfl⟩
theorem dX5_passSteps_32 : jm_d cX5_passSteps 32 (.getfield 30) 3 35 := ⟨by decide +kernel, rfl⟩
theorem dX5_passSteps_35 : jm_d cX5_passSteps 35 (.iconst 1) 1 36 := ⟨by decide +kernel, rfl⟩
theorem dX5_passSteps_36 : jm_d cX5_passSteps 36 (.iadd) 1 37 := ⟨by decide +kernel, rfl⟩
theorem dX5_passSteps_37 : jm_d cX5_passSteps 37 (.putfield 30) 3 40 := ⟨by decide +kernel, rfl⟩
theorem dX5_passSteps_40 : jm_d cX5_passSteps 40 (.iload_n 2) 1 41 := ⟨by decide +kernel, rfl⟩
theorem dX5_passSteps_41 : jm_d cX5_passSteps 41 (.iconst 4) 1 42 := ⟨by decide +kernel, rfl⟩
theorem dX5_passSteps_42 : jm_b cX5_passSteps 42 (.if_icmp .ge) 45 55 := ⟨13, by decide +kernel, rfl, by decide⟩
theorem dX5_passSteps_55 : jm_d cX5_passSteps 55 (.iinc 1 1) 3 58 := ⟨by decide +kernel, rfl⟩
theorem dX5_passSteps_58 : jm_b cX5_passSteps 58 .goto 61 2 := ⟨(-56), by decide +kernel, rfl, by decide⟩
theorem dX5_passSteps_45 : jm_d cX5_passSteps 45 (.aload_n 0) 1 46 := ⟨by decide +kernel, rfl⟩
theorem dX5_passSteps_46 : jm_d cX5_passSteps 46 (.iconst 2) 1 47 := ⟨by decide +kernel, rfl⟩
theorem dX5_passSteps_47 : jm_d cX5_passSteps 47 (.invokevirtual 54) 3 50 := ⟨by decide +kernel, rfl⟩
theorem dX5_passSteps_50 : jm_b cX5_passSteps 50 (.ifCond .ne) 53 55 := ⟨5, by decide +kernel, rfl, by decide⟩
theorem dX5_passSteps_53 : jm_d cX5_passSteps 53 (.iconst 0) 1 54 := ⟨by decide +kernel, rfl⟩
theorem dX5_passSteps_54 : jm_d cX5_passSteps 54 (.ireturn) 1 55 := ⟨by decide +kernel, rfl⟩
theorem dX5_passSteps_61 : jm_d cX5_passSteps 61 (.iconst 1) 1 62 := ⟨by decide +kernel, rfl⟩
theorem dX5_passSteps_62 : jm_d cX5_passSteps 62 (.ireturn) 1 63 := ⟨by decide +kernel, rfl⟩
set_option maxHeartbeats 4000000 in
set_option maxRecDepth 100000 in
theorem kS_passSteps (E : jm_Ev) (hE : jm_dj E jm_LC) {M : jm_M}  {r : Int32 × jm_M} (h : sS_passSteps M = some r) : jm_Ct E jm_LC yX5_passSteps cX5_passSteps 3 (some .boolean) 2 42 [.ref (jm_a E 14 0)] M (some (.int r.1)) r.2 := by
  refine jm_enter (lv := [some (.ref (jm_a E 14 0)), none, none]) hE (by decide) (Nat.le_of_ble_eq_true rfl) rfl ?_
  intro z w F hz
  have G : jm_G w 0 [some (.ref (jm_a E 14 0)), none, none] [] M (sS_passSteps M) (fun e => z (some (.int e.1)) e.2) := by
    unfold sS_passSteps
    refine jm_iconst F dX5_passSteps_0 kc_0 ?_
    refine jm_istore_n (i := 1) (lv' := [some (.ref (jm_a E 14 0)), some (.int 0), none]) F dX5_passSteps_1 rfl (by decide) rfl rfl ?_
    refine jm_bindS (pcJ := 61) (lvJ := fun e11 => [none, none, none]) (stJ := fun _ => []) (MJ := fun e11 => e11) ?_ (fun e11 => ?_)
    · refine jm_weak F (lv' := [some (.ref (jm_a E 14 0)), some (.int 0), none]) ⟨rfl, rfl, trivial⟩ ?_
      refine jm_loopR (lvH := fun s1 => [some (.ref (jm_a E 14 0)), some (.int s1.1), none]) (MH := fun s1 => s1.2) (fun s1 => ?_) jm_N (0, M)
      unfold sS_passSteps_L2
      refine jm_iload_n (i := 1) F dX5_passSteps_2 rfl rfl ?_
      refine jm_bipush F dX5_passSteps_3 kb_96 ?_
      refine jm_icmp_ge F dX5_passSteps_5 (fun c2 => ?_) (fun c2 => ?_)
      · exact jm_weakD F (lv' := [none, none, none]) trivial (fun h => h)
      · refine jm_aload_n (i := 0) F dX5_passSteps_8 rfl rfl ?_
        refine jm_callV (As := []) (st := []) (rv := fun r => some (.int r)) (mm := fun _ => s1.2) F dX5_passSteps_9 qX5_37 rfl lo_X5 rfl (fun r h => kS_here E hE h) rfl (Nat.le_of_ble_eq_true rfl) ⟨Nat.le_of_ble_eq_true rfl, Nat.le_of_ble_eq_true rfl⟩ (fun r3 => ?_)
        refine jm_bipush F dX5_passSteps_12 kb_59 ?_
        refine jm_icmp_eq F dX5_passSteps_14 (fun c4 => ?_) (fun c4 => ?_)
        · exact jm_weakD F (lv' := [none, none, none]) trivial (fun h => h)
        · refine jm_aload_n (i := 0) F dX5_passSteps_17 rfl rfl ?_
          refine jm_callV (As := []) (st := []) (rv := fun r => some (.int r)) (mm := fun _ => s1.2) F dX5_passSteps_18 qX5_63 rfl lo_X5 rfl (fun r h => kS_stepHere E hE h) rfl (Nat.le_of_ble_eq_true rfl) ⟨Nat.le_of_ble_eq_true rfl, Nat.le_of_ble_eq_true rfl⟩ (fun r5 => ?_)
          refine jm_istore_n (i := 2) (lv' := [some (.ref (jm_a E 14 0)), some (.int s1.1), some (.int r5)]) F dX5_passSteps_21 rfl (by decide) rfl rfl ?_
          refine jm_iload_n (i := 2) F dX5_passSteps_22 rfl rfl ?_
          refine jm_bipush F dX5_passSteps_23 kb_m9 ?_
          refine jm_icmp_ne F dX5_passSteps_25 (fun c6 => ?_) (fun c6 => ?_)
          · refine jm_iconst F dX5_passSteps_28 kc_0 ?_
            exact jm_zret F dX5_passSteps_29 (Or.inl rfl) (fun h => h)
          · refine jm_aload_n (i := 0) F dX5_passSteps_30 rfl rfl ?_
            refine jm_dup F dX5_passSteps_31 rfl ?_
            refine jm_getI F dX5_passSteps_32 fl_X5_30 lo_X5 rfl ?_
            refine jm_iconst F dX5_passSteps_35 kc_1 ?_
            refine jm_iadd F dX5_passSteps_36 ?_
            refine jm_putI F dX5_passSteps_37 fp_X5_30 lo_X5 rfl (fun M7 => ?_)
            refine jm_iload_n (i := 2) F dX5_passSteps_40 rfl rfl ?_
            refine jm_iconst F dX5_passSteps_41 kc_4 ?_
            refine jm_icmp_ge F dX5_passSteps_42 (fun c8 => ?_) (fun c8 => ?_)
            · refine jm_iinc (i := 1) (lv' := [some (.ref (jm_a E 14 0)), some (.int (s1.1 + 1)), some (.int r5)]) F dX5_passSteps_55 kc_1 rfl (by decide) rfl rfl ?_
              refine jm_goto F dX5_passSteps_58 ?_
              exact jm_weakD F (lv' := [some (.ref (jm_a E 14 0)), some (.int (s1.1 + 1)), none]) ⟨rfl, rfl, trivial⟩ (fun h => h)
            · refine jm_aload_n (i := 0) F dX5_passSteps_45 rfl rfl ?_
              refine jm_iconst F dX5_passSteps_46 kc_2 ?_
              refine jm_callV (As := [.int 2]) (st := []) (rv := fun r => some (.int r.1)) (mm := fun r => r.2) F dX5_passSteps_47 qX5_54 rfl lo_X5 rfl (fun r h => kS_passDigits E hE h) rfl (Nat.le_of_ble_eq_true rfl) ⟨Nat.le_of_ble_eq_true rfl, Nat.le_of_ble_eq_true rfl⟩ (fun r9 => ?_)
              refine jm_if_ne F dX5_passSteps_50 (fun c10 => ?_) (fun c10 => ?_)
              · refine jm_iconst F dX5_passSteps_53 kc_0 ?_
                exact jm_zret F dX5_passSteps_54 (Or.inl rfl) (fun h => h)
              · refine jm_iinc (i := 1) (lv' := [some (.ref (jm_a E 14 0)), some (.int (s1.1 + 1)), some (.int r5)]) F dX5_passSteps_55 kc_1 rfl (by decide) rfl rfl ?_
                refine jm_goto F dX5_passSteps_58 ?_
                exact jm_weakD F (lv' := [some (.ref (jm_a E 14 0)), some (.int (s1.1 + 1)), none]) ⟨rfl, rfl, trivial⟩ (fun h => h)
    · refine jm_iconst F dX5_passSteps_61 kc_1 ?_
      exact jm_zret F dX5_passSteps_62 (Or.inr rfl) (fun h => h)
  exact G r h hz
theorem dX5_passBody_0 : jm_d cX5_passBody 0 (.iload_n 1) 1 1 := ⟨by decide +kernel, rfl⟩
theorem dX5_passBody_1 : decode cX5_passBody 1 = .ok (.lookupswitch 81 #[(98, 49), (108, 70), (112, 43), (119, 75)], 43) := by decide +kernel
theorem dX5_passBody_50 : jm_d cX5_passBody 50 (.aload_n 0) 1 51 := ⟨by decide +kernel, rfl⟩
theorem dX5_passBody_51 : jm_d cX5_passBody 51 (.iconst 3) 1 52 := ⟨by decide +kernel, rfl⟩
theorem dX5_passBody_52 : jm_d cX5_passBody 52 (.invokevirtual 54) 3 55 := ⟨by decide +kernel, rfl⟩
theorem dX5_passBody_55 : jm_b cX5_passBody 55 (.ifCond .eq) 58 69 := ⟨14, by decide +kernel, rfl, by decide⟩
theorem dX5_passBody_69 : jm_d cX5_passBody 69 (.iconst 0) 1 70 := ⟨by decide +kernel, rfl⟩
theorem dX5_passBody_70 : jm_d cX5_passBody 70 (.ireturn) 1 71 := ⟨by decide +kernel, rfl⟩
theorem dX5_passBody_58 : jm_d cX5_passBody 58 (.aload_n 0) 1 59 := ⟨by decide +kernel, rfl⟩
theorem dX5_passBody_59 : jm_d cX5_passBody 59 (.invokevirtual 57) 3 62 := ⟨by decide +kernel, rfl⟩
theorem dX5_passBody_62 : jm_b cX5_passBody 62 (.ifCond .eq) 65 69 := ⟨7, by decide +kernel, rfl, by decide⟩
theorem dX5_passBody_65 : jm_d cX5_passBody 65 (.iconst 1) 1 66 := ⟨by decide +kernel, rfl⟩
theorem dX5_passBody_66 : jm_b cX5_passBody 66 .goto 69 70 := ⟨4, by decide +kernel, rfl, by decide⟩
theorem dX5_passBody_71 : jm_d cX5_passBody 71 (.aload_n 0) 1 72 := ⟨by decide +kernel, rfl⟩
theorem dX5_passBody_72 : jm_d cX5_passBody 72 (.invokevirtual 60) 3 75 := ⟨by decide +kernel, rfl⟩
theorem dX5_passBody_75 : jm_d cX5_passBody 75 (.ireturn) 1 76 := ⟨by decide +kernel, rfl⟩
theorem dX5_passBody_44 : jm_d cX5_passBody 44 (.aload_n 0) 1 45 := ⟨by decide +kernel, rfl⟩
theorem dX5_passBody_45 : jm_d cX5_passBody 45 (.iconst 5) 1 46 := ⟨by decide +kernel, rfl⟩
theorem dX5_passBody_46 : jm_d cX5_passBody 46 (.invokevirtual 54) 3 49 := ⟨by decide +kernel, rfl⟩
theorem dX5_passBody_49 : jm_d cX5_passBody 49 (.ireturn) 1 50 := ⟨by decide +kernel, rfl⟩
theorem dX5_passBody_76 : jm_d cX5_passBody 76 (.aload_n 0) 1 77 := ⟨by decide +kernel, rfl⟩
theorem dX5_passBody_77 : jm_d cX5_passBody 77 (.iconst 2) 1 78 := ⟨by decide +kernel, rfl⟩
theorem dX5_passBody_78 : jm_d cX5_passBody 78 (.invokevirtual 54) 3 81 := ⟨by decide +kernel, rfl⟩
theorem dX5_passBody_81 : jm_d cX5_passBody 81 (.ireturn) 1 82 := ⟨by decide +kernel, rfl⟩
theorem dX5_passBody_82 : jm_d cX5_passBody 82 (.aload_n 0) 1 83 := ⟨by decide +kernel, rfl⟩
theorem dX5_passBody_83 : jm_d cX5_passBody 83 (.iconst 1) 1 84 := ⟨by decide +kernel, rfl⟩
theorem dX5_passBody_84 : jm_d cX5_passBody 84 (.invokevirtual 54) 3 87 := ⟨by decide +kernel, rfl⟩
theorem dX5_passBody_87 : jm_b cX5_passBody 87 (.ifCond .eq) 90 101 := ⟨14, by decide +kernel, rfl, by decide⟩
theorem dX5_passBody_101 : jm_d cX5_passBody 101 (.iconst 0) 1 102 := ⟨by decide +kernel, rfl⟩
theorem dX5_passBody_102 : jm_d cX5_passBody 102 (.ireturn) 1 103 := ⟨by decide +kernel, rfl⟩
theorem dX5_passBody_90 : jm_d cX5_passBody 90 (.aload_n 0) 1 91 := ⟨by decide +kernel, rfl⟩
theorem dX5_passBody_91 : jm_d cX5_passBody 91 (.invokevirtual 57) 3 94 := ⟨by decide +kernel, rfl⟩
theorem dX5_passBody_94 : jm_b cX5_passBody 94 (.ifCond .eq) 97 101 := ⟨7, by decide +kernel, rfl, by decide⟩
theorem dX5_passBody_97 : jm_d cX5_passBody 97 (.iconst 1) 1 98 := ⟨by decide +kernel, rfl⟩
theorem dX5_passBody_98 : jm_b cX5_passBody 98 .goto 101 102 := ⟨4, by decide +kernel, rfl, by decide⟩
set_option maxHeartbeats 4000000 in
set_option maxRecDepth 100000 in
theorem kS_passBody (E : jm_Ev) (hE : jm_dj E jm_LC) {M : jm_M} {p1 : Int32}  {r : Int32 × jm_M} (h : sS_passBody M p1 = some r) : jm_Ct E jm_LC yX5_passBody cX5_passBody 2 (some .boolean) 3 64 [.ref (jm_a E 14 0), .int p1] M (some (.int r.1)) r.2 := by
  refine jm_enter (lv := [some (.ref (jm_a E 14 0)), some (.int p1)]) hE (by decide) (Nat.le_of_ble_eq_true rfl) rfl ?_
  intro z w F hz
  have G : jm_G w 0 [some (.ref (jm_a E 14 0)), some (.int p1)] [] M (sS_passBody M p1) (fun e => z (some (.int e.1)) e.2) := by
    unfold sS_passBody
    refine jm_iload_n (i := 1) F dX5_passBody_0 rfl rfl ?_
    refine jm_ite (fun c1 => ?_) (fun c1 => ?_)
    · refine jm_lsw (off := 49) (tgt := 50) F dX5_passBody_1 (by decide) (by rw [c1]; decide) (by decide) ?_
      refine jm_aload_n (i := 0) F dX5_passBody_50 rfl rfl ?_
      refine jm_iconst F dX5_passBody_51 kc_3 ?_
      refine jm_callV (As := [.int 3]) (st := []) (rv := fun r => some (.int r.1)) (mm := fun r => r.2) F dX5_passBody_52 qX5_54 rfl lo_X5 rfl (fun r h => kS_passDigits E hE h) rfl (Nat.le_of_ble_eq_true rfl) ⟨Nat.le_of_ble_eq_true rfl, Nat.le_of_ble_eq_true rfl⟩ (fun r2 => ?_)
      refine jm_if_eq F dX5_passBody_55 (fun c3 => ?_) (fun c3 => ?_)
      · refine jm_iconst F dX5_passBody_69 kc_0 ?_
        exact jm_zret F dX5_passBody_70 (Or.inl rfl) (fun h => h)
      · refine jm_aload_n (i := 0) F dX5_passBody_58 rfl rfl ?_
        refine jm_callV (As := []) (st := []) (rv := fun r => some (.int r.1)) (mm := fun r => r.2) F dX5_passBody_59 qX5_57 rfl lo_X5 rfl (fun r h => kS_passTitle E hE h) rfl (Nat.le_of_ble_eq_true rfl) ⟨Nat.le_of_ble_eq_true rfl, Nat.le_of_ble_eq_true rfl⟩ (fun r4 => ?_)
        refine jm_if_eq F dX5_passBody_62 (fun c5 => ?_) (fun c5 => ?_)
        · refine jm_iconst F dX5_passBody_69 kc_0 ?_
          exact jm_zret F dX5_passBody_70 (Or.inl rfl) (fun h => h)
        · refine jm_iconst F dX5_passBody_65 kc_1 ?_
          refine jm_goto F dX5_passBody_66 ?_
          exact jm_zret F dX5_passBody_70 (Or.inr rfl) (fun h => h)
    · refine jm_ite (fun c6 => ?_) (fun c6 => ?_)
      · refine jm_lsw (off := 70) (tgt := 71) F dX5_passBody_1 (by decide) (by rw [c6]; decide) (by decide) ?_
        refine jm_aload_n (i := 0) F dX5_passBody_71 rfl rfl ?_
        refine jm_callV (As := []) (st := []) (rv := fun r => some (.int r.1)) (mm := fun r => r.2) F dX5_passBody_72 qX5_60 rfl lo_X5 rfl (fun r h => kS_passSteps E hE h) rfl (Nat.le_of_ble_eq_true rfl) ⟨Nat.le_of_ble_eq_true rfl, Nat.le_of_ble_eq_true rfl⟩ (fun r7 => ?_)
        refine jm_bzB (fun hb9 => ?_)
        exact jm_zret F dX5_passBody_75 hb9 (fun h => h)
      · refine jm_ite (fun c10 => ?_) (fun c10 => ?_)
        · refine jm_lsw (off := 43) (tgt := 44) F dX5_passBody_1 (by decide) (by rw [c10]; decide) (by decide) ?_
          refine jm_aload_n (i := 0) F dX5_passBody_44 rfl rfl ?_
          refine jm_iconst F dX5_passBody_45 kc_5 ?_
          refine jm_callV (As := [.int 5]) (st := []) (rv := fun r => some (.int r.1)) (mm := fun r => r.2) F dX5_passBody_46 qX5_54 rfl lo_X5 rfl (fun r h => kS_passDigits E hE h) rfl (Nat.le_of_ble_eq_true rfl) ⟨Nat.le_of_ble_eq_true rfl, Nat.le_of_ble_eq_true rfl⟩ (fun r11 => ?_)
          refine jm_bzB (fun hb13 => ?_)
          exact jm_zret F dX5_passBody_49 hb13 (fun h => h)
        · refine jm_ite (fun c14 => ?_) (fun c14 => ?_)
          · refine jm_lsw (off := 75) (tgt := 76) F dX5_passBody_1 (by decide) (by rw [c14]; decide) (by decide) ?_
            refine jm_aload_n (i := 0) F dX5_passBody_76 rfl rfl ?_
            refine jm_iconst F dX5_passBody_77 kc_2 ?_
            refine jm_callV (As := [.int 2]) (st := []) (rv := fun r => some (.int r.1)) (mm := fun r => r.2) F dX5_passBody_78 qX5_54 rfl lo_X5 rfl (fun r h => kS_passDigits E hE h) rfl (Nat.le_of_ble_eq_true rfl) ⟨Nat.le_of_ble_eq_true rfl, Nat.le_of_ble_eq_true rfl⟩ (fun r15 => ?_)
            refine jm_bzB (fun hb17 => ?_)
            exact jm_zret F dX5_passBody_81 hb17 (fun h => h)
          · refine jm_lsw (off := 81) (tgt := 82) F dX5_passBody_1 (by decide) ((lv_osw c1 (by decide)).trans ((lv_osw c6 (by decide)).trans ((lv_osw c10 (by decide)).trans ((lv_osw c14 (by decide)).trans rfl)))) (by decide) ?_
            refine jm_aload_n (i := 0) F dX5_passBody_82 rfl rfl ?_
            refine jm_iconst F dX5_passBody_83 kc_1 ?_
            refine jm_callV (As := [.int 1]) (st := []) (rv := fun r => some (.int r.1)) (mm := fun r => r.2) F dX5_passBody_84 qX5_54 rfl lo_X5 rfl (fun r h => kS_passDigits E hE h) rfl (Nat.le_of_ble_eq_true rfl) ⟨Nat.le_of_ble_eq_true rfl, Nat.le_of_ble_eq_true rfl⟩ (fun r18 => ?_)
            refine jm_if_eq F dX5_passBody_87 (fun c19 => ?_) (fun c19 => ?_)
            · refine jm_iconst F dX5_passBody_101 kc_0 ?_
              exact jm_zret F dX5_passBody_102 (Or.inl rfl) (fun h => h)
            · refine jm_aload_n (i := 0) F dX5_passBody_90 rfl rfl ?_
              refine jm_callV (As := []) (st := []) (rv := fun r => some (.int r.1)) (mm := fun r => r.2) F dX5_passBody_91 qX5_57 rfl lo_X5 rfl (fun r h => kS_passTitle E hE h) rfl (Nat.le_of_ble_eq_true rfl) ⟨Nat.le_of_ble_eq_true rfl, Nat.le_of_ble_eq_true rfl⟩ (fun r20 => ?_)
              refine jm_if_eq F dX5_passBody_94 (fun c21 => ?_) (fun c21 => ?_)
              · refine jm_iconst F dX5_passBody_101 kc_0 ?_
                exact jm_zret F dX5_passBody_102 (Or.inl rfl) (fun h => h)
              · refine jm_iconst F dX5_passBody_97 kc_1 ?_
                refine jm_goto F dX5_passBody_98 ?_
                exact jm_zret F dX5_passBody_102 (Or.inr rfl) (fun h => h)
  exact G r h hz
theorem dX5_passLetter_0 : jm_d cX5_passLetter 0 (.aload_n 0) 1 1 := ⟨by decide +kernel, rfl⟩
theorem dX5_passLetter_1 : jm_d cX5_passLetter 1 (.invokevirtual 37) 3 4 := ⟨by decide +kernel, rfl⟩
theorem dX5_passLetter_4 : jm_d cX5_passLetter 4 (.iload_n 1) 1 5 := ⟨by decide +kernel, rfl⟩
theorem dX5_passLetter_5 : jm_b cX5_passLetter 5 (.if_icmp .eq) 8 10 := ⟨5, by decide +kernel, rfl, by decide⟩
theorem dX5_passLetter_10 : jm_d cX5_passLetter 10 (.aload_n 0) 1 11 := ⟨by decide +kernel, rfl⟩
theorem dX5_passLetter_11 : jm_d cX5_passLetter 11 (.dup) 1 12 := ⟨by decide +kernel, rfl⟩
theorem dX5_passLetter_12 : jm_d cX5_passLetter 12 (.getfield 30) 3 15 := ⟨by decide +kernel, rfl⟩
theorem dX5_passLetter_15 : jm_d cX5_passLetter 15 (.iconst 1) 1 16 := ⟨by decide +kernel, rfl⟩
theorem dX5_passLetter_16 : jm_d cX5_passLetter 16 (.iadd) 1 17 := ⟨by decide +kernel, rfl⟩
theorem dX5_passLetter_17 : jm_d cX5_passLetter 17 (.putfield 30) 3 20 := ⟨by decide +kernel, rfl⟩
theorem dX5_passLetter_20 : jm_d cX5_passLetter 20 (.iconst 1) 1 21 := ⟨by decide +kernel, rfl⟩
theorem dX5_passLetter_21 : jm_d cX5_passLetter 21 (.ireturn) 1 22 := ⟨by decide +kernel, rfl⟩
theorem dX5_passLetter_8 : jm_d cX5_passLetter 8 (.iconst 0) 1 9 := ⟨by decide +kernel, rfl⟩
theorem dX5_passLetter_9 : jm_d cX5_passLetter 9 (.ireturn) 1 10 := ⟨by decide +kernel, rfl⟩
set_option maxHeartbeats 4000000 in
set_option maxRecDepth 100000 in
theorem kS_passLetter (E : jm_Ev) (hE : jm_dj E jm_LC) {M : jm_M} {p1 : Int32}  {r : Int32 × jm_M} (h : sS_passLetter M p1 = some r) : jm_Ct E jm_LC yX5_passLetter cX5_passLetter 2 (some .boolean) 1 20 [.ref (jm_a E 14 0), .int p1] M (some (.int r.1)) r.2 := by
  refine jm_enter (lv := [some (.ref (jm_a E 14 0)), some (.int p1)]) hE (by decide) (Nat.le_of_ble_eq_true rfl) rfl ?_
  intro z w F hz
  have G : jm_G w 0 [some (.ref (jm_a E 14 0)), some (.int p1)] [] M (sS_passLetter M p1) (fun e => z (some (.int e.1)) e.2) := by
    unfold sS_passLetter
    refine jm_aload_n (i := 0) F dX5_passLetter_0 rfl rfl ?_
    refine jm_callV (As := []) (st := []) (rv := fun r => some (.int r)) (mm := fun _ => M) F dX5_passLetter_1 qX5_37 rfl lo_X5 rfl (fun r h => kS_here E hE h) rfl (Nat.le_of_ble_eq_true rfl) ⟨Nat.le_of_ble_eq_true rfl, Nat.le_of_ble_eq_true rfl⟩ (fun r1 => ?_)
    refine jm_iload_n (i := 1) F dX5_passLetter_4 rfl rfl ?_
    refine jm_icmp_eq F dX5_passLetter_5 (fun c2 => ?_) (fun c2 => ?_)
    · refine jm_aload_n (i := 0) F dX5_passLetter_10 rfl rfl ?_
      refine jm_dup F dX5_passLetter_11 rfl ?_
      refine jm_getI F dX5_passLetter_12 fl_X5_30 lo_X5 rfl ?_
      refine jm_iconst F dX5_passLetter_15 kc_1 ?_
      refine jm_iadd F dX5_passLetter_16 ?_
      refine jm_putI F dX5_passLetter_17 fp_X5_30 lo_X5 rfl (fun M3 => ?_)
      refine jm_iconst F dX5_passLetter_20 kc_1 ?_
      exact jm_zret F dX5_passLetter_21 (Or.inr rfl) (fun h => h)
    · refine jm_iconst F dX5_passLetter_8 kc_0 ?_
      exact jm_zret F dX5_passLetter_9 (Or.inl rfl) (fun h => h)
  exact G r h hz
theorem dX5_passStatement_0 : jm_d cX5_passStatement 0 (.aload_n 0) 1 1 := ⟨by decide +kernel, rfl⟩
theorem dX5_passStatement_1 : jm_d cX5_passStatement 1 (.invokevirtual 37) 3 4 := ⟨by decide +kernel, rfl⟩
theorem dX5_passStatement_4 : jm_d cX5_passStatement 4 (.istore_n 1) 1 5 := ⟨by decide +kernel, rfl⟩
theorem dX5_passStatement_5 : jm_d cX5_passStatement 5 (.iload_n 1) 1 6 := ⟨by decide +kernel, rfl⟩
theorem dX5_passStatement_6 : jm_d cX5_passStatement 6 (.bipush 112) 2 8 := ⟨by decide +kernel, rfl⟩
theorem dX5_passStatement_8 : jm_b cX5_passStatement 8 (.if_icmp .eq) 11 43 := ⟨35, by decide +kernel, rfl, by decide⟩
theorem dX5_passStatement_43 : jm_d cX5_passStatement 43 (.aload_n 0) 1 44 := ⟨by decide +kernel, rfl⟩
theorem dX5_passStatement_44 : jm_d cX5_passStatement 44 (.dup) 1 45 := ⟨by decide +kernel, rfl⟩
theorem dX5_passStatement_45 : jm_d cX5_passStatement 45 (.getfield 30) 3 48 := ⟨by decide +kernel, rfl⟩
theorem dX5_passStatement_48 : jm_d cX5_passStatement 48 (.iconst 1) 1 49 := ⟨by decide +kernel, rfl⟩
theorem dX5_passStatement_49 : jm_d cX5_passStatement 49 (.iadd) 1 50 := ⟨by decide +kernel, rfl⟩
theorem dX5_passStatement_50 : jm_d cX5_passStatement 50 (.putfield 30) 3 53 := ⟨by decide +kernel, rfl⟩
theorem dX5_passStatement_53 : jm_d cX5_passStatement 53 (.aload_n 0) 1 54 := ⟨by decide +kernel, rfl⟩
theorem dX5_passStatement_54 : jm_d cX5_passStatement 54 (.iload_n 1) 1 55 := ⟨by decide +kernel, rfl⟩
theorem dX5_passStatement_55 : jm_d cX5_passStatement 55 (.invokevirtual 48) 3 58 := ⟨by decide +kernel, rfl⟩
theorem dX5_passStatement_58 : jm_b cX5_passStatement 58 (.ifCond .eq) 61 74 := ⟨16, by decide +kernel, rfl, by decide⟩
theorem dX5_passStatement_74 : jm_d cX5_passStatement 74 (.iconst 0) 1 75 := ⟨by decide +kernel, rfl⟩
theorem dX5_passStatement_75 : jm_d cX5_passStatement 75 (.ireturn) 1 76 := ⟨by decide +kernel, rfl⟩
theorem dX5_passStatement_61 : jm_d cX5_passStatement 61 (.aload_n 0) 1 62 := ⟨by decide +kernel, rfl⟩
theorem dX5_passStatement_62 : jm_d cX5_passStatement 62 (.bipush 59) 2 64 := ⟨by decide +kernel, rfl⟩
theorem dX5_passStatement_64 : jm_d cX5_passStatement 64 (.invokevirtual 51) 3 67 := ⟨by decide +kernel, rfl⟩
theorem dX5_passStatement_67 : jm_b cX5_passStatement 67 (.ifCond .eq) 70 74 := ⟨7, by decide +kernel, rfl, by decide⟩
theorem dX5_passStatement_70 : jm_d cX5_passStatement 70 (.iconst 1) 1 71 := ⟨by decide +kernel, rfl⟩
theorem dX5_passStatement_71 : jm_b cX5_passStatement 71 .goto 74 75 := ⟨4, by decide +kernel, rfl, by decide⟩
theorem dX5_passStatement_11 : jm_d cX5_passStatement 11 (.iload_n 1) 1 12 := ⟨by decide +kernel, rfl⟩
theorem dX5_passStatement_12 : jm_d cX5_passStatement 12 (.bipush 98) 2 14 := ⟨by decide +kernel, rfl⟩
theorem dX5_passStatement_14 : jm_b cX5_passStatement 14 (.if_icmp .eq) 17 43 := ⟨29, by decide +kernel, rfl, by decide⟩
theorem dX5_passStatement_17 : jm_d cX5_passStatement 17 (.iload_n 1) 1 18 := ⟨by decide +kernel, rfl⟩
theorem dX5_passStatement_18 : jm_d cX5_passStatement 18 (.bipush 114) 2 20 := ⟨by decide +kernel, rfl⟩
theorem dX5_passStatement_20 : jm_b cX5_passStatement 20 (.if_icmp .eq) 23 43 := ⟨23, by decide +kernel, rfl, by decide⟩
theorem dX5_passStatement_23 : jm_d cX5_passStatement 23 (.iload_n 1) 1 24 := ⟨by decide +kernel, rfl⟩
theorem dX5_passStatement_24 : jm_d cX5_passStatement 24 (.bipush 104) 2 26 := ⟨by decide +kernel, rfl⟩
theorem dX5_passStatement_26 : jm_b cX5_passStatement 26 (.if_icmp .eq) 29 43 := ⟨17, by decide +kernel, rfl, by decide⟩
theorem dX5_passStatement_29 : jm_d cX5_passStatement 29 (.iload_n 1) 1 30 := ⟨by decide +kernel, rfl⟩
theorem dX5_passStatement_30 : jm_d cX5_passStatement 30 (.bipush 108) 2 32 := ⟨by decide +kernel, rfl⟩
theorem dX5_passStatement_32 : jm_b cX5_passStatement 32 (.if_icmp .eq) 35 43 := ⟨11, by decide +kernel, rfl, by decide⟩
theorem dX5_passStatement_35 : jm_d cX5_passStatement 35 (.iload_n 1) 1 36 := ⟨by decide +kernel, rfl⟩
theorem dX5_passStatement_36 : jm_d cX5_passStatement 36 (.bipush 119) 2 38 := ⟨by decide +kernel, rfl⟩
theorem dX5_passStatement_38 : jm_b cX5_passStatement 38 (.if_icmp .eq) 41 43 := ⟨5, by decide +kernel, rfl, by decide⟩
theorem dX5_passStatement_41 : jm_d cX5_passStatement 41 (.iconst 0) 1 42 := ⟨by decide +kernel, rfl⟩
theorem dX5_passStatement_42 : jm_d cX5_passStatement 42 (.ireturn) 1 43 := ⟨by decide +kernel, rfl⟩
set_option maxHeartbeats 4000000 in
set_option maxRecDepth 100000 in
theorem kS_passStatement (E : jm_Ev) (hE : jm_dj E jm_LC) {M : jm_M}  {r : Int32 × jm_M} (h : sS_passStatement M = some r) : jm_Ct E jm_LC yX5_passStatement cX5_passStatement 2 (some .boolean) 4 85 [.ref (jm_a E 14 0)] M (some (.int r.1)) r.2 := by
  refine jm_enter (lv := [some (.ref (jm_a E 14 0)), none]) hE (by decide) (Nat.le_of_ble_eq_true rfl) rfl ?_
  intro z w F hz
  have G : jm_G w 0 [some (.ref (jm_a E 14 0)), none] [] M (sS_passStatement M) (fun e => z (some (.int e.1)) e.2) := by
    unfold sS_passStatement
    refine jm_aload_n (i := 0) F dX5_passStatement_0 rfl rfl ?_
    refine jm_callV (As := []) (st := []) (rv := fun r => some (.int r)) (mm := fun _ => M) F dX5_passStatement_1 qX5_37 rfl lo_X5 rfl (fun r h => kS_here E hE h) rfl (Nat.le_of_ble_eq_true rfl) ⟨Nat.le_of_ble_eq_true rfl, Nat.le_of_ble_eq_true rfl⟩ (fun r1 => ?_)
    refine jm_istore_n (i := 1) (lv' := [some (.ref (jm_a E 14 0)), some (.int r1)]) F dX5_passStatement_4 rfl (by decide) rfl rfl ?_
    refine jm_iload_n (i := 1) F dX5_passStatement_5 rfl rfl ?_
    refine jm_bipush F dX5_passStatement_6 kb_112 ?_
    refine jm_icmp_eq F dX5_passStatement_8 (fun c2 => ?_) (fun c2 => ?_)
    · refine jm_aload_n (i := 0) F dX5_passStatement_43 rfl rfl ?_
      refine jm_dup F dX5_passStatement_44 rfl ?_
      refine jm_getI F dX5_passStatement_45 fl_X5_30 lo_X5 rfl ?_
      refine jm_iconst F dX5_passStatement_48 kc_1 ?_
      refine jm_iadd F dX5_passStatement_49 ?_
      refine jm_putI F dX5_passStatement_50 fp_X5_30 lo_X5 rfl (fun M3 => ?_)
      refine jm_aload_n (i := 0) F dX5_passStatement_53 rfl rfl ?_
      refine jm_iload_n (i := 1) F dX5_passStatement_54 rfl rfl ?_
      refine jm_callV (As := [.int r1]) (st := []) (rv := fun r => some (.int r.1)) (mm := fun r => r.2) F dX5_passStatement_55 qX5_48 rfl lo_X5 rfl (fun r h => kS_passBody E hE h) rfl (Nat.le_of_ble_eq_true rfl) ⟨Nat.le_of_ble_eq_true rfl, Nat.le_of_ble_eq_true rfl⟩ (fun r4 => ?_)
      refine jm_if_eq F dX5_passStatement_58 (fun c5 => ?_) (fun c5 => ?_)
      · refine jm_iconst F dX5_passStatement_74 kc_0 ?_
        exact jm_zret F dX5_passStatement_75 (Or.inl rfl) (fun h => h)
      · refine jm_aload_n (i := 0) F dX5_passStatement_61 rfl rfl ?_
        refine jm_bipush F dX5_passStatement_62 kb_59 ?_
        refine jm_callV (As := [.int 59]) (st := []) (rv := fun r => some (.int r.1)) (mm := fun r => r.2) F dX5_passStatement_64 qX5_51 rfl lo_X5 rfl (fun r h => kS_passLetter E hE h) rfl (Nat.le_of_ble_eq_true rfl) ⟨Nat.le_of_ble_eq_true rfl, Nat.le_of_ble_eq_true rfl⟩ (fun r6 => ?_)
        refine jm_if_eq F dX5_passStatement_67 (fun c7 => ?_) (fun c7 => ?_)
        · refine jm_iconst F dX5_passStatement_74 kc_0 ?_
          exact jm_zret F dX5_passStatement_75 (Or.inl rfl) (fun h => h)
        · refine jm_iconst F dX5_passStatement_70 kc_1 ?_
          refine jm_goto F dX5_passStatement_71 ?_
          exact jm_zret F dX5_passStatement_75 (Or.inr rfl) (fun h => h)
    · refine jm_iload_n (i := 1) F dX5_passStatement_11 rfl rfl ?_
      refine jm_bipush F dX5_passStatement_12 kb_98 ?_
      refine jm_icmp_eq F dX5_passStatement_14 (fun c8 => ?_) (fun c8 => ?_)
      · refine jm_aload_n (i := 0) F dX5_passStatement_43 rfl rfl ?_
        refine jm_dup F dX5_passStatement_44 rfl ?_
        refine jm_getI F dX5_passStatement_45 fl_X5_30 lo_X5 rfl ?_
        refine jm_iconst F dX5_passStatement_48 kc_1 ?_
        refine jm_iadd F dX5_passStatement_49 ?_
        refine jm_putI F dX5_passStatement_50 fp_X5_30 lo_X5 rfl (fun M9 => ?_)
        refine jm_aload_n (i := 0) F dX5_passStatement_53 rfl rfl ?_
        refine jm_iload_n (i := 1) F dX5_passStatement_54 rfl rfl ?_
        refine jm_callV (As := [.int r1]) (st := []) (rv := fun r => some (.int r.1)) (mm := fun r => r.2) F dX5_passStatement_55 qX5_48 rfl lo_X5 rfl (fun r h => kS_passBody E hE h) rfl (Nat.le_of_ble_eq_true rfl) ⟨Nat.le_of_ble_eq_true rfl, Nat.le_of_ble_eq_true rfl⟩ (fun r10 => ?_)
        refine jm_if_eq F dX5_passStatement_58 (fun c11 => ?_) (fun c11 => ?_)
        · refine jm_iconst F dX5_passStatement_74 kc_0 ?_
          exact jm_zret F dX5_passStatement_75 (Or.inl rfl) (fun h => h)
        · refine jm_aload_n (i := 0) F dX5_passStatement_61 rfl rfl ?_
          refine jm_bipush F dX5_passStatement_62 kb_59 ?_
          refine jm_callV (As := [.int 59]) (st := []) (rv := fun r => some (.int r.1)) (mm := fun r => r.2) F dX5_passStatement_64 qX5_51 rfl lo_X5 rfl (fun r h => kS_passLetter E hE h) rfl (Nat.le_of_ble_eq_true rfl) ⟨Nat.le_of_ble_eq_true rfl, Nat.le_of_ble_eq_true rfl⟩ (fun r12 => ?_)
          refine jm_if_eq F dX5_passStatement_67 (fun c13 => ?_) (fun c13 => ?_)
          · refine jm_iconst F dX5_passStatement_74 kc_0 ?_
            exact jm_zret F dX5_passStatement_75 (Or.inl rfl) (fun h => h)
          · refine jm_iconst F dX5_passStatement_70 kc_1 ?_
            refine jm_goto F dX5_passStatement_71 ?_
            exact jm_zret F dX5_passStatement_75 (Or.inr rfl) (fun h => h)
      · refine jm_iload_n (i := 1) F dX5_passStatement_17 rfl rfl ?_
        refine jm_bipush F dX5_passStatement_18 kb_114 ?_
        refine jm_icmp_eq F dX5_passStatement_20 (fun c14 => ?_) (fun c14 => ?_)
        · refine jm_aload_n (i := 0) F dX5_passStatement_43 rfl rfl ?_
          refine jm_dup F dX5_passStatement_44 rfl ?_
          refine jm_getI F dX5_passStatement_45 fl_X5_30 lo_X5 rfl ?_
          refine jm_iconst F dX5_passStatement_48 kc_1 ?_
          refine jm_iadd F dX5_passStatement_49 ?_
          refine jm_putI F dX5_passStatement_50 fp_X5_30 lo_X5 rfl (fun M15 => ?_)
          refine jm_aload_n (i := 0) F dX5_passStatement_53 rfl rfl ?_
          refine jm_iload_n (i := 1) F dX5_passStatement_54 rfl rfl ?_
          refine jm_callV (As := [.int r1]) (st := []) (rv := fun r => some (.int r.1)) (mm := fun r => r.2) F dX5_passStatement_55 qX5_48 rfl lo_X5 rfl (fun r h => kS_passBody E hE h) rfl (Nat.le_of_ble_eq_true rfl) ⟨Nat.le_of_ble_eq_true rfl, Nat.le_of_ble_eq_true rfl⟩ (fun r16 => ?_)
          refine jm_if_eq F dX5_passStatement_58 (fun c17 => ?_) (fun c17 => ?_)
          · refine jm_iconst F dX5_passStatement_74 kc_0 ?_
            exact jm_zret F dX5_passStatement_75 (Or.inl rfl) (fun h => h)
          · refine jm_aload_n (i := 0) F dX5_passStatement_61 rfl rfl ?_
            refine jm_bipush F dX5_passStatement_62 kb_59 ?_
            refine jm_callV (As := [.int 59]) (st := []) (rv := fun r => some (.int r.1)) (mm := fun r => r.2) F dX5_passStatement_64 qX5_51 rfl lo_X5 rfl (fun r h => kS_passLetter E hE h) rfl (Nat.le_of_ble_eq_true rfl) ⟨Nat.le_of_ble_eq_true rfl, Nat.le_of_ble_eq_true rfl⟩ (fun r18 => ?_)
            refine jm_if_eq F dX5_passStatement_67 (fun c19 => ?_) (fun c19 => ?_)
            · refine jm_iconst F dX5_passStatement_74 kc_0 ?_
              exact jm_zret F dX5_passStatement_75 (Or.inl rfl) (fun h => h)
            · refine jm_iconst F dX5_passStatement_70 kc_1 ?_
              refine jm_goto F dX5_passStatement_71 ?_
              exact jm_zret F dX5_passStatement_75 (Or.inr rfl) (fun h => h)
        · refine jm_iload_n (i := 1) F dX5_passStatement_23 rfl rfl ?_
          refine jm_bipush F dX5_passStatement_24 kb_104 ?_
          refine jm_icmp_eq F dX5_passStatement_26 (fun c20 => ?_) (fun c20 => ?_)
          · refine jm_aload_n (i := 0) F dX5_passStatement_43 rfl rfl ?_
            refine jm_dup F dX5_passStatement_44 rfl ?_
            refine jm_getI F dX5_passStatement_45 fl_X5_30 lo_X5 rfl ?_
            refine jm_iconst F dX5_passStatement_48 kc_1 ?_
            refine jm_iadd F dX5_passStatement_49 ?_
            refine jm_putI F dX5_passStatement_50 fp_X5_30 lo_X5 rfl (fun M21 => ?_)
            refine jm_aload_n (i := 0) F dX5_passStatement_53 rfl rfl ?_
            refine jm_iload_n (i := 1) F dX5_passStatement_54 rfl rfl ?_
            refine jm_callV (As := [.int r1]) (st := []) (rv := fun r => some (.int r.1)) (mm := fun r => r.2) F dX5_passStatement_55 qX5_48 rfl lo_X5 rfl (fun r h => kS_passBody E hE h) rfl (Nat.le_of_ble_eq_true rfl) ⟨Nat.le_of_ble_eq_true rfl, Nat.le_of_ble_eq_true rfl⟩ (fun r22 => ?_)
            refine jm_if_eq F dX5_passStatement_58 (fun c23 => ?_) (fun c23 => ?_)
            · refine jm_iconst F dX5_passStatement_74 kc_0 ?_
              exact jm_zret F dX5_passStatement_75 (Or.inl rfl) (fun h => h)
            · refine jm_aload_n (i := 0) F dX5_passStatement_61 rfl rfl ?_
              refine jm_bipush F dX5_passStatement_62 kb_59 ?_
              refine jm_callV (As := [.int 59]) (st := []) (rv := fun r => some (.int r.1)) (mm := fun r => r.2) F dX5_passStatement_64 qX5_51 rfl lo_X5 rfl (fun r h => kS_passLetter E hE h) rfl (Nat.le_of_ble_eq_true rfl) ⟨Nat.le_of_ble_eq_true rfl, Nat.le_of_ble_eq_true rfl⟩ (fun r24 => ?_)
              refine jm_if_eq F dX5_passStatement_67 (fun c25 => ?_) (fun c25 => ?_)
              · refine jm_iconst F dX5_passStatement_74 kc_0 ?_
                exact jm_zret F dX5_passStatement_75 (Or.inl rfl) (fun h => h)
              · refine jm_iconst F dX5_passStatement_70 kc_1 ?_
                refine jm_goto F dX5_passStatement_71 ?_
                exact jm_zret F dX5_passStatement_75 (Or.inr rfl) (fun h => h)
          · refine jm_iload_n (i := 1) F dX5_passStatement_29 rfl rfl ?_
            refine jm_bipush F dX5_passStatement_30 kb_108 ?_
            refine jm_icmp_eq F dX5_passStatement_32 (fun c26 => ?_) (fun c26 => ?_)
            · refine jm_aload_n (i := 0) F dX5_passStatement_43 rfl rfl ?_
              refine jm_dup F dX5_passStatement_44 rfl ?_
              refine jm_getI F dX5_passStatement_45 fl_X5_30 lo_X5 rfl ?_
              refine jm_iconst F dX5_passStatement_48 kc_1 ?_
              refine jm_iadd F dX5_passStatement_49 ?_
              refine jm_putI F dX5_passStatement_50 fp_X5_30 lo_X5 rfl (fun M27 => ?_)
              refine jm_aload_n (i := 0) F dX5_passStatement_53 rfl rfl ?_
              refine jm_iload_n (i := 1) F dX5_passStatement_54 rfl rfl ?_
              refine jm_callV (As := [.int r1]) (st := []) (rv := fun r => some (.int r.1)) (mm := fun r => r.2) F dX5_passStatement_55 qX5_48 rfl lo_X5 rfl (fun r h => kS_passBody E hE h) rfl (Nat.le_of_ble_eq_true rfl) ⟨Nat.le_of_ble_eq_true rfl, Nat.le_of_ble_eq_true rfl⟩ (fun r28 => ?_)
              refine jm_if_eq F dX5_passStatement_58 (fun c29 => ?_) (fun c29 => ?_)
              · refine jm_iconst F dX5_passStatement_74 kc_0 ?_
                exact jm_zret F dX5_passStatement_75 (Or.inl rfl) (fun h => h)
              · refine jm_aload_n (i := 0) F dX5_passStatement_61 rfl rfl ?_
                refine jm_bipush F dX5_passStatement_62 kb_59 ?_
                refine jm_callV (As := [.int 59]) (st := []) (rv := fun r => some (.int r.1)) (mm := fun r => r.2) F dX5_passStatement_64 qX5_51 rfl lo_X5 rfl (fun r h => kS_passLetter E hE h) rfl (Nat.le_of_ble_eq_true rfl) ⟨Nat.le_of_ble_eq_true rfl, Nat.le_of_ble_eq_true rfl⟩ (fun r30 => ?_)
                refine jm_if_eq F dX5_passStatement_67 (fun c31 => ?_) (fun c31 => ?_)
                · refine jm_iconst F dX5_passStatement_74 kc_0 ?_
                  exact jm_zret F dX5_passStatement_75 (Or.inl rfl) (fun h => h)
                · refine jm_iconst F dX5_passStatement_70 kc_1 ?_
                  refine jm_goto F dX5_passStatement_71 ?_
                  exact jm_zret F dX5_passStatement_75 (Or.inr rfl) (fun h => h)
            · refine jm_iload_n (i := 1) F dX5_passStatement_35 rfl rfl ?_
              refine jm_bipush F dX5_passStatement_36 kb_119 ?_
              refine jm_icmp_eq F dX5_passStatement_38 (fun c32 => ?_) (fun c32 => ?_)
              · refine jm_aload_n (i := 0) F dX5_passStatement_43 rfl rfl ?_
                refine jm_dup F dX5_passStatement_44 rfl ?_
                refine jm_getI F dX5_passStatement_45 fl_X5_30 lo_X5 rfl ?_
                refine jm_iconst F dX5_passStatement_48 kc_1 ?_
                refine jm_iadd F dX5_passStatement_49 ?_
                refine jm_putI F dX5_passStatement_50 fp_X5_30 lo_X5 rfl (fun M33 => ?_)
                refine jm_aload_n (i := 0) F dX5_passStatement_53 rfl rfl ?_
                refine jm_iload_n (i := 1) F dX5_passStatement_54 rfl rfl ?_
                refine jm_callV (As := [.int r1]) (st := []) (rv := fun r => some (.int r.1)) (mm := fun r => r.2) F dX5_passStatement_55 qX5_48 rfl lo_X5 rfl (fun r h => kS_passBody E hE h) rfl (Nat.le_of_ble_eq_true rfl) ⟨Nat.le_of_ble_eq_true rfl, Nat.le_of_ble_eq_true rfl⟩ (fun r34 => ?_)
                refine jm_if_eq F dX5_passStatement_58 (fun c35 => ?_) (fun c35 => ?_)
                · refine jm_iconst F dX5_passStatement_74 kc_0 ?_
                  exact jm_zret F dX5_passStatement_75 (Or.inl rfl) (fun h => h)
                · refine jm_aload_n (i := 0) F dX5_passStatement_61 rfl rfl ?_
                  refine jm_bipush F dX5_passStatement_62 kb_59 ?_
                  refine jm_callV (As := [.int 59]) (st := []) (rv := fun r => some (.int r.1)) (mm := fun r => r.2) F dX5_passStatement_64 qX5_51 rfl lo_X5 rfl (fun r h => kS_passLetter E hE h) rfl (Nat.le_of_ble_eq_true rfl) ⟨Nat.le_of_ble_eq_true rfl, Nat.le_of_ble_eq_true rfl⟩ (fun r36 => ?_)
                  refine jm_if_eq F dX5_passStatement_67 (fun c37 => ?_) (fun c37 => ?_)
                  · refine jm_iconst F dX5_passStatement_74 kc_0 ?_
                    exact jm_zret F dX5_passStatement_75 (Or.inl rfl) (fun h => h)
                  · refine jm_iconst F dX5_passStatement_70 kc_1 ?_
                    refine jm_goto F dX5_passStatement_71 ?_
                    exact jm_zret F dX5_passStatement_75 (Or.inr rfl) (fun h => h)
              · refine jm_iconst F dX5_passStatement_41 kc_0 ?_
                exact jm_zret F dX5_passStatement_42 (Or.inl rfl) (fun h => h)
  exact G r h hz
theorem dX5_canBeRead_0 : jm_d cX5_canBeRead 0 (.aload_n 0) 1 1 := ⟨by decide +kernel, rfl⟩
theorem dX5_canBeRead_1 : jm_d cX5_canBeRead 1 (.iconst 0) 1 2 := ⟨by decide +kernel, rfl⟩
theorem dX5_canBeRead_2 : jm_d cX5_canBeRead 2 (.putfield 30) 3 5 := ⟨by decide +kernel, rfl⟩
theorem dX5_canBeRead_5 : jm_d cX5_canBeRead 5 (.aload_n 0) 1 6 := ⟨by decide +kernel, rfl⟩
theorem dX5_canBeRead_6 : jm_d cX5_canBeRead 6 (.invokevirtual 45) 3 9 := ⟨by decide +kernel, rfl⟩
theorem dX5_canBeRead_9 : jm_d cX5_canBeRead 9 (.istore_n 1) 1 10 := ⟨by decide +kernel, rfl⟩
theorem dX5_canBeRead_10 : jm_d cX5_canBeRead 10 (.iconst 0) 1 11 := ⟨by decide +kernel, rfl⟩
theorem dX5_canBeRead_11 : jm_d cX5_canBeRead 11 (.istore_n 2) 1 12 := ⟨by decide +kernel, rfl⟩
theorem dX5_canBeRead_12 : jm_d cX5_canBeRead 12 (.iload_n 2) 1 13 := ⟨by decide +kernel, rfl⟩
theorem dX5_canBeRead_13 : jm_d cX5_canBeRead 13 (.bipush 96) 2 15 := ⟨by decide +kernel, rfl⟩
theorem dX5_canBeRead_15 : jm_b cX5_canBeRead 15 (.if_icmp .ge) 18 44 := ⟨29, by decide +kernel, rfl, by decide⟩
theorem dX5_canBeRead_18 : jm_d cX5_canBeRead 18 (.iload_n 1) 1 19 := ⟨by decide +kernel, rfl⟩
theorem dX5_canBeRead_19 : jm_b cX5_canBeRead 19 (.ifCond .eq) 22 44 := ⟨25, by decide +kernel, rfl, by decide⟩
theorem dX5_canBeRead_22 : jm_d cX5_canBeRead 22 (.aload_n 0) 1 23 := ⟨by decide +kernel, rfl⟩
theorem dX5_canBeRead_23 : jm_d cX5_canBeRead 23 (.getfield 30) 3 26 := ⟨by decide +kernel, rfl⟩
theorem dX5_canBeRead_26 : jm_d cX5_canBeRead 26 (.aload_n 0) 1 27 := ⟨by decide +kernel, rfl⟩
theorem dX5_canBeRead_27 : jm_d cX5_canBeRead 27 (.getfield 22) 3 30 := ⟨by decide +kernel, rfl⟩
theorem dX5_canBeRead_30 : jm_b cX5_canBeRead 30 (.if_icmp .ge) 33 44 := ⟨14, by decide +kernel, rfl, by decide⟩
theorem dX5_canBeRead_33 : jm_d cX5_canBeRead 33 (.aload_n 0) 1 34 := ⟨by decide +kernel, rfl⟩
theorem dX5_canBeRead_34 : jm_d cX5_canBeRead 34 (.invokevirtual 45) 3 37 := ⟨by decide +kernel, rfl⟩
theorem dX5_canBeRead_37 : jm_d cX5_canBeRead 37 (.istore_n 1) 1 38 := ⟨by decide +kernel, rfl⟩
theorem dX5_canBeRead_38 : jm_d cX5_canBeRead 38 (.iinc 2 1) 3 41 := ⟨by decide +kernel, rfl⟩
theorem dX5_canBeRead_41 : jm_b cX5_canBeRead 41 .goto 44 12 := ⟨(-29), by decide +kernel, rfl, by decide⟩
theorem dX5_canBeRead_44 : jm_d cX5_canBeRead 44 (.iload_n 1) 1 45 := ⟨by decide +kernel, rfl⟩
theorem dX5_canBeRead_45 : jm_d cX5_canBeRead 45 (.ireturn) 1 46 := ⟨by decide +kernel, rfl⟩
set_option maxHeartbeats 4000000 in
set_option maxRecDepth 100000 in
theorem kS_canBeRead (E : jm_Ev) (hE : jm_dj E jm_LC) {M : jm_M}  {r : Int32 × jm_M} (h : sS_canBeRead M = some r) : jm_Ct E jm_LC yX5_canBeRead cX5_canBeRead 3 (some .boolean) 5 106 [.ref (jm_a E 14 0)] M (some (.int r.1)) r.2 := by
  refine jm_enter (lv := [some (.ref (jm_a E 14 0)), none, none]) hE (by decide) (Nat.le_of_ble_eq_true rfl) rfl ?_
  intro z w F hz
  have G : jm_G w 0 [some (.ref (jm_a E 14 0)), none, none] [] M (sS_canBeRead M) (fun e => z (some (.int e.1)) e.2) := by
    unfold sS_canBeRead
    refine jm_aload_n (i := 0) F dX5_canBeRead_0 rfl rfl ?_
    refine jm_iconst F dX5_canBeRead_1 kc_0 ?_
    refine jm_putI F dX5_canBeRead_2 fp_X5_30 lo_X5 rfl (fun M1 => ?_)
    refine jm_aload_n (i := 0) F dX5_canBeRead_5 rfl rfl ?_
    refine jm_callV (As := []) (st := []) (rv := fun r => some (.int r.1)) (mm := fun r => r.2) F dX5_canBeRead_6 qX5_45 rfl lo_X5 rfl (fun r h => kS_passStatement E hE h) rfl (Nat.le_of_ble_eq_true rfl) ⟨Nat.le_of_ble_eq_true rfl, Nat.le_of_ble_eq_true rfl⟩ (fun r2 => ?_)
    refine jm_istore_n (i := 1) (lv' := [some (.ref (jm_a E 14 0)), some (.int r2.1), none]) F dX5_canBeRead_9 rfl (by decide) rfl rfl ?_
    refine jm_iconst F dX5_canBeRead_10 kc_0 ?_
    refine jm_istore_n (i := 2) (lv' := [some (.ref (jm_a E 14 0)), some (.int r2.1), some (.int 0)]) F dX5_canBeRead_11 rfl (by decide) rfl rfl ?_
    refine jm_bind (pcJ := 44) (lvJ := fun e8 => [none, some (.int e8.1), none]) (stJ := fun _ => []) (MJ := fun e8 => e8.2) ?_ (fun e8 => ?_)
    · refine jm_weak F (lv' := [some (.ref (jm_a E 14 0)), some (.int r2.1), some (.int 0)]) ⟨rfl, rfl, rfl, trivial⟩ ?_
      refine jm_loopR (lvH := fun s3 => [some (.ref (jm_a E 14 0)), some (.int s3.1), some (.int s3.2.1)]) (MH := fun s3 => s3.2.2) (fun s3 => ?_) jm_N (r2.1, 0, r2.2)
      unfold sS_canBeRead_L12
      refine jm_iload_n (i := 2) F dX5_canBeRead_12 rfl rfl ?_
      refine jm_bipush F dX5_canBeRead_13 kb_96 ?_
      refine jm_icmp_ge F dX5_canBeRead_15 (fun c4 => ?_) (fun c4 => ?_)
      · exact jm_weakD F (lv' := [none, some (.int s3.1), none]) ⟨rfl, trivial⟩ (fun h => h)
      · refine jm_iload_n (i := 1) F dX5_canBeRead_18 rfl rfl ?_
        refine jm_if_eq F dX5_canBeRead_19 (fun c5 => ?_) (fun c5 => ?_)
        · exact jm_weakD F (lv' := [none, some (.int s3.1), none]) ⟨rfl, trivial⟩ (fun h => h)
        · refine jm_aload_n (i := 0) F dX5_canBeRead_22 rfl rfl ?_
          refine jm_getI F dX5_canBeRead_23 fl_X5_30 lo_X5 rfl ?_
          refine jm_aload_n (i := 0) F dX5_canBeRead_26 rfl rfl ?_
          refine jm_getI F dX5_canBeRead_27 fl_X5_22 lo_X5 rfl ?_
          refine jm_icmp_ge F dX5_canBeRead_30 (fun c6 => ?_) (fun c6 => ?_)
          · exact jm_weakD F (lv' := [none, some (.int s3.1), none]) ⟨rfl, trivial⟩ (fun h => h)
          · refine jm_aload_n (i := 0) F dX5_canBeRead_33 rfl rfl ?_
            refine jm_callV (As := []) (st := []) (rv := fun r => some (.int r.1)) (mm := fun r => r.2) F dX5_canBeRead_34 qX5_45 rfl lo_X5 rfl (fun r h => kS_passStatement E hE h) rfl (Nat.le_of_ble_eq_true rfl) ⟨Nat.le_of_ble_eq_true rfl, Nat.le_of_ble_eq_true rfl⟩ (fun r7 => ?_)
            refine jm_istore_n (i := 1) (lv' := [some (.ref (jm_a E 14 0)), some (.int r7.1), some (.int s3.2.1)]) F dX5_canBeRead_37 rfl (by decide) rfl rfl ?_
            refine jm_iinc (i := 2) (lv' := [some (.ref (jm_a E 14 0)), some (.int r7.1), some (.int (s3.2.1 + 1))]) F dX5_canBeRead_38 kc_1 rfl (by decide) rfl rfl ?_
            refine jm_goto F dX5_canBeRead_41 ?_
            exact jm_weakD F (lv' := [some (.ref (jm_a E 14 0)), some (.int r7.1), some (.int (s3.2.1 + 1))]) ⟨rfl, rfl, rfl, trivial⟩ (fun h => h)
    · refine jm_iload_n (i := 1) F dX5_canBeRead_44 rfl rfl ?_
      refine jm_bzB (fun hb10 => ?_)
      exact jm_zret F dX5_canBeRead_45 hb10 (fun h => h)
  exact G r h hz
theorem dX7_copyFrom_0 : jm_d cX7_copyFrom 0 (.aload_n 0) 1 1 := ⟨by decide +kernel, rfl⟩
theorem dX7_copyFrom_1 : jm_d cX7_copyFrom 1 (.aload_n 1) 1 2 := ⟨by decide +kernel, rfl⟩
theorem dX7_copyFrom_2 : jm_d cX7_copyFrom 2 (.getfield 45) 3 5 := ⟨by decide +kernel, rfl⟩
theorem dX7_copyFrom_5 : jm_d cX7_copyFrom 5 (.putfield 45) 3 8 := ⟨by decide +kernel, rfl⟩
theorem dX7_copyFrom_8 : jm_d cX7_copyFrom 8 (.aload_n 1) 1 9 := ⟨by decide +kernel, rfl⟩
theorem dX7_copyFrom_9 : jm_d cX7_copyFrom 9 (.getfield 9) 3 12 := ⟨by decide +kernel, rfl⟩
theorem dX7_copyFrom_12 : jm_d cX7_copyFrom 12 (.iconst 0) 1 13 := ⟨by decide +kernel, rfl⟩
theorem dX7_copyFrom_13 : jm_d cX7_copyFrom 13 (.aload_n 0) 1 14 := ⟨by decide +kernel, rfl⟩
theorem dX7_copyFrom_14 : jm_d cX7_copyFrom 14 (.getfield 9) 3 17 := ⟨by decide +kernel, rfl⟩
theorem dX7_copyFrom_17 : jm_d cX7_copyFrom 17 (.iconst 0) 1 18 := ⟨by decide +kernel, rfl⟩
theorem dX7_copyFrom_18 : jm_d cX7_copyFrom 18 (.bipush 6) 2 20 := ⟨by decide +kernel, rfl⟩
theorem dX7_copyFrom_20 : jm_d cX7_copyFrom 20 (.invokestatic 49) 3 23 := ⟨by decide +kernel, rfl⟩
theorem dX7_copyFrom_23 : jm_d cX7_copyFrom 23 (.aload_n 1) 1 24 := ⟨by decide +kernel, rfl⟩
theorem dX7_copyFrom_24 : jm_d cX7_copyFrom 24 (.getfield 15) 3 27 := ⟨by decide +kernel, rfl⟩
theorem dX7_copyFrom_27 : jm_d cX7_copyFrom 27 (.iconst 0) 1 28 := ⟨by decide +kernel, rfl⟩
theorem dX7_copyFrom_28 : jm_d cX7_copyFrom 28 (.aload_n 0) 1 29 := ⟨by decide +kernel, rfl⟩
theorem dX7_copyFrom_29 : jm_d cX7_copyFrom 29 (.getfield 15) 3 32 := ⟨by decide +kernel, rfl⟩
theorem dX7_copyFrom_32 : jm_d cX7_copyFrom 32 (.iconst 0) 1 33 := ⟨by decide +kernel, rfl⟩
theorem dX7_copyFrom_33 : jm_d cX7_copyFrom 33 (.bipush 6) 2 35 := ⟨by decide +kernel, rfl⟩
theorem dX7_copyFrom_35 : jm_d cX7_copyFrom 35 (.invokestatic 49) 3 38 := ⟨by decide +kernel, rfl⟩
theorem dX7_copyFrom_38 : jm_d cX7_copyFrom 38 (.aload_n 1) 1 39 := ⟨by decide +kernel, rfl⟩
theorem dX7_copyFrom_39 : jm_d cX7_copyFrom 39 (.getfield 18) 3 42 := ⟨by decide +kernel, rfl⟩
theorem dX7_copyFrom_42 : jm_d cX7_copyFrom 42 (.iconst 0) 1 43 := ⟨by decide +kernel, rfl⟩
theorem dX7_copyFrom_43 : jm_d cX7_copyFrom 43 (.aload_n 0) 1 44 := ⟨by decide +kernel, rfl⟩
theorem dX7_copyFrom_44 : jm_d cX7_copyFrom 44 (.getfield 18) 3 47 := ⟨by decide +kernel, rfl⟩
theorem dX7_copyFrom_47 : jm_d cX7_copyFrom 47 (.iconst 0) 1 48 := ⟨by decide +kernel, rfl⟩
theorem dX7_copyFrom_48 : jm_d cX7_copyFrom 48 (.bipush 6) 2 50 := ⟨by decide +kernel, rfl⟩
theorem dX7_copyFrom_50 : jm_d cX7_copyFrom 50 (.invokestatic 49) 3 53 := ⟨by decide +kernel, rfl⟩
theorem dX7_copyFrom_53 : jm_d cX7_copyFrom 53 (.aload_n 0) 1 54 := ⟨by decide +kernel, rfl⟩
theorem dX7_copyFrom_54 : jm_d cX7_copyFrom 54 (.aload_n 1) 1 55 := ⟨by decide +kernel, rfl⟩
theorem dX7_copyFrom_55 : jm_d cX7_copyFrom 55 (.getfield 55) 3 58 := ⟨by decide +kernel, rfl⟩
theorem dX7_copyFrom_58 : jm_d cX7_copyFrom 58 (.putfield 55) 3 61 := ⟨by decide +kernel, rfl⟩
theorem dX7_copyFrom_61 : jm_d cX7_copyFrom 61 (.aload_n 1) 1 62 := ⟨by decide +kernel, rfl⟩
theorem dX7_copyFrom_62 : jm_d cX7_copyFrom 62 (.getfield 21) 3 65 := ⟨by decide +kernel, rfl⟩
theorem dX7_copyFrom_65 : jm_d cX7_copyFrom 65 (.iconst 0) 1 66 := ⟨by decide +kernel, rfl⟩
theorem dX7_copyFrom_66 : jm_d cX7_copyFrom 66 (.aload_n 0) 1 67 := ⟨by decide +kernel, rfl⟩
theorem dX7_copyFrom_67 : jm_d cX7_copyFrom 67 (.getfield 21) 3 70 := ⟨by decide +kernel, rfl⟩
theorem dX7_copyFrom_70 : jm_d cX7_copyFrom 70 (.iconst 0) 1 71 := ⟨by decide +kernel, rfl⟩
theorem dX7_copyFrom_71 : jm_d cX7_copyFrom 71 (.bipush 10) 2 73 := ⟨by decide +kernel, rfl⟩
theorem dX7_copyFrom_73 : jm_d cX7_copyFrom 73 (.invokestatic 49) 3 76 := ⟨by decide +kernel, rfl⟩
theorem dX7_copyFrom_76 : jm_d cX7_copyFrom 76 (.aload_n 1) 1 77 := ⟨by decide +kernel, rfl⟩
theorem dX7_copyFrom_77 : jm_d cX7_copyFrom 77 (.getfield 24) 3 80 := ⟨by decide +kernel, rfl⟩
theorem dX7_copyFrom_80 : jm_d cX7_copyFrom 80 (.iconst 0) 1 81 := ⟨by decide +kernel, rfl⟩
theorem dX7_copyFrom_81 : jm_d cX7_copyFrom 81 (.aload_n 0) 1 82 := ⟨by decide +kernel, rfl⟩
theorem dX7_copyFrom_82 : jm_d cX7_copyFrom 82 (.getfield 24) 3 85 := ⟨by decide +kernel, rfl⟩
theorem dX7_copyFrom_85 : jm_d cX7_copyFrom 85 (.iconst 0) 1 86 := ⟨by decide +kernel, rfl⟩
theorem dX7_copyFrom_86 : jm_d cX7_copyFrom 86 (.bipush 10) 2 88 := ⟨by decide +kernel, rfl⟩
theorem dX7_copyFrom_88 : jm_d cX7_copyFrom 88 (.invokestatic 49) 3 91 := ⟨by decide +kernel, rfl⟩
theorem dX7_copyFrom_91 : jm_d cX7_copyFrom 91 (.aload_n 1) 1 92 := ⟨by decide +kernel, rfl⟩
theorem dX7_copyFrom_92 : jm_d cX7_copyFrom 92 (.getfield 27) 3 95 := ⟨by decide +kernel, rfl⟩
theorem dX7_copyFrom_95 : jm_d cX7_copyFrom 95 (.iconst 0) 1 96 := ⟨by decide +kernel, rfl⟩
theorem dX7_copyFrom_96 : jm_d cX7_copyFrom 96 (.aload_n 0) 1 97 := ⟨by decide +kernel, rfl⟩
theorem dX7_copyFrom_97 : jm_d cX7_copyFrom 97 (.getfield 27) 3 100 := ⟨by decide +kernel, rfl⟩
theorem dX7_copyFrom_100 : jm_d cX7_copyFrom 100 (.iconst 0) 1 101 := ⟨by decide +kernel, rfl⟩
theorem dX7_copyFrom_101 : jm_d cX7_copyFrom 101 (.bipush 10) 2 103 := ⟨by decide +kernel, rfl⟩
theorem dX7_copyFrom_103 : jm_d cX7_copyFrom 103 (.invokestatic 49) 3 106 := ⟨by decide +kernel, rfl⟩
theorem dX7_copyFrom_106 : jm_d cX7_copyFrom 106 (.aload_n 1) 1 107 := ⟨by decide +kernel, rfl⟩
theorem dX7_copyFrom_107 : jm_d cX7_copyFrom 107 (.getfield 30) 3 110 := ⟨by decide +kernel, rfl⟩
theorem dX7_copyFrom_110 : jm_d cX7_copyFrom 110 (.iconst 0) 1 111 := ⟨by decide +kernel, rfl⟩
theorem dX7_copyFrom_111 : jm_d cX7_copyFrom 111 (.aload_n 0) 1 112 := ⟨by decide +kernel, rfl⟩
theorem dX7_copyFrom_112 : jm_d cX7_copyFrom 112 (.getfield 30) 3 115 := ⟨by decide +kernel, rfl⟩
theorem dX7_copyFrom_115 : jm_d cX7_copyFrom 115 (.iconst 0) 1 116 := ⟨by decide +kernel, rfl⟩
theorem dX7_copyFrom_116 : jm_d cX7_copyFrom 116 (.bipush 10) 2 118 := ⟨by decide +kernel, rfl⟩
theorem dX7_copyFrom_118 : jm_d cX7_copyFrom 118 (.invokestatic 49) 3 121 := ⟨by decide +kernel, rfl⟩
theorem dX7_copyFrom_121 : jm_d cX7_copyFrom 121 (.aload_n 1) 1 122 := ⟨by decide +kernel, rfl⟩
theorem dX7_copyFrom_122 : jm_d cX7_copyFrom 122 (.getfield 33) 3 125 := ⟨by decide +kernel, rfl⟩
theorem dX7_copyFrom_125 : jm_d cX7_copyFrom 125 (.iconst 0) 1 126 := ⟨by decide +kernel, rfl⟩
theorem dX7_copyFrom_126 : jm_d cX7_copyFrom 126 (.aload_n 0) 1 127 := ⟨by decide +kernel, rfl⟩
theorem dX7_copyFrom_127 : jm_d cX7_copyFrom 127 (.getfield 33) 3 130 := ⟨by decide +kernel, rfl⟩
theorem dX7_copyFrom_130 : jm_d cX7_copyFrom 130 (.iconst 0) 1 131 := ⟨by decide +kernel, rfl⟩
theorem dX7_copyFrom_131 : jm_d cX7_copyFrom 131 (.bipush 10) 2 133 := ⟨by decide +kernel, rfl⟩
theorem dX7_copyFrom_133 : jm_d cX7_copyFrom 133 (.invokestatic 49) 3 136 := ⟨by decide +kernel, rfl⟩
theorem dX7_copyFrom_136 : jm_d cX7_copyFrom 136 (.aload_n 1) 1 137 := ⟨by decide +kernel, rfl⟩
theorem dX7_copyFrom_137 : jm_d cX7_copyFrom 137 (.getfield 36) 3 140 := ⟨by decide +kernel, rfl⟩
theorem dX7_copyFrom_140 : jm_d cX7_copyFrom 140 (.iconst 0) 1 141 := ⟨by decide +kernel, rfl⟩
theorem dX7_copyFrom_141 : jm_d cX7_copyFrom 141 (.aload_n 0) 1 142 := ⟨by decide +kernel, rfl⟩
theorem dX7_copyFrom_142 : jm_d cX7_copyFrom 142 (.getfield 36) 3 145 := ⟨by decide +kernel, rfl⟩
theorem dX7_copyFrom_145 : jm_d cX7_copyFrom 145 (.iconst 0) 1 146 := ⟨by decide +kernel, rfl⟩
theorem dX7_copyFrom_146 : jm_d cX7_copyFrom 146 (.bipush 10) 2 148 := ⟨by decide +kernel, rfl⟩
theorem dX7_copyFrom_148 : jm_d cX7_copyFrom 148 (.invokestatic 49) 3 151 := ⟨by decide +kernel, rfl⟩
theorem dX7_copyFrom_151 : jm_d cX7_copyFrom 151 (.aload_n 0) 1 152 := ⟨by decide +kernel, rfl⟩
theorem dX7_copyFrom_152 : jm_d cX7_copyFrom 152 (.aload_n 1) 1 153 := ⟨by decide +kernel, rfl⟩
theorem dX7_copyFrom_153 : jm_d cX7_copyFrom 153 (.getfield 58) 3 156 := ⟨by decide +kernel, rfl⟩
theorem dX7_copyFrom_156 : jm_d cX7_copyFrom 156 (.putfield 58) 3 159 := ⟨by decide +kernel, rfl⟩
theorem dX7_copyFrom_159 : jm_d cX7_copyFrom 159 (.aload_n 0) 1 160 := ⟨by decide +kernel, rfl⟩
theorem dX7_copyFrom_160 : jm_d cX7_copyFrom 160 (.aload_n 1) 1 161 := ⟨by decide +kernel, rfl⟩
theorem dX7_copyFrom_161 : jm_d cX7_copyFrom 161 (.getfield 61) 3 164 := ⟨by decide +kernel, rfl⟩
theorem dX7_copyFrom_164 : jm_d cX7_copyFrom 164 (.putfield 61) 3 167 := ⟨by decide +kernel, rfl⟩
theorem dX7_copyFrom_167 : jm_d cX7_copyFrom 167 (.aload_n 1) 1 168 := ⟨by decide +kernel, rfl⟩
theorem dX7_copyFrom_168 : jm_d cX7_copyFrom 168 (.getfield 39) 3 171 := ⟨by decide +kernel, rfl⟩
theorem dX7_copyFrom_171 : jm_d cX7_copyFrom 171 (.iconst 0) 1 172 := ⟨by decide +kernel, rfl⟩
theorem dX7_copyFrom_172 : jm_d cX7_copyFrom 172 (.aload_n 0) 1 173 := ⟨by decide +kernel, rfl⟩
theorem dX7_copyFrom_173 : jm_d cX7_copyFrom 173 (.getfield 39) 3 176 := ⟨by decide +kernel, rfl⟩
theorem dX7_copyFrom_176 : jm_d cX7_copyFrom 176 (.iconst 0) 1 177 := ⟨by decide +kernel, rfl⟩
theorem dX7_copyFrom_177 : jm_d cX7_copyFrom 177 (.bipush 6) 2 179 := ⟨by decide +kernel, rfl⟩
theorem dX7_copyFrom_179 : jm_d cX7_copyFrom 179 (.invokestatic 49) 3 182 := ⟨by decide +kernel, rfl⟩
theorem dX7_copyFrom_182 : jm_d cX7_copyFrom 182 (.aload_n 1) 1 183 := ⟨by decide +kernel, rfl⟩
theorem dX7_copyFrom_183 : jm_d cX7_copyFrom 183 (.getfield 42) 3 186 := ⟨by decide +kernel, rfl⟩
theorem dX7_copyFrom_186 : jm_d cX7_copyFrom 186 (.iconst 0) 1 187 := ⟨by decide +kernel, rfl⟩
theorem dX7_copyFrom_187 : jm_d cX7_copyFrom 187 (.aload_n 0) 1 188 := ⟨by decide +kernel, rfl⟩
theorem dX7_copyFrom_188 : jm_d cX7_copyFrom 188 (.getfield 42) 3 191 := ⟨by decide +kernel, rfl⟩
theorem dX7_copyFrom_191 : jm_d cX7_copyFrom 191 (.iconst 0) 1 192 := ⟨by decide +kernel, rfl⟩
theorem dX7_copyFrom_192 : jm_d cX7_copyFrom 192 (.bipush 6) 2 194 := ⟨by decide +kernel, rfl⟩
theorem dX7_copyFrom_194 : jm_d cX7_copyFrom 194 (.invokestatic 49) 3 197 := ⟨by decide +kernel, rfl⟩
theorem dX7_copyFrom_197 : jm_d cX7_copyFrom 197 (.return_) 1 198 := ⟨by decide +kernel, rfl⟩
set_option maxHeartbeats 4000000 in
set_option maxRecDepth 100000 in
theorem kT_copyFrom (E : jm_Ev) (hE : jm_dj E jm_LC) {M : jm_M} {t : Nat} {p1 : Nat} (ht : jm_isT t) (hp1 : jm_isT p1) {r : jm_M} (h : sT_copyFrom M t p1 = some r) : jm_Ct E jm_LC yX7_copyFrom cX7_copyFrom 2 none 1 40 [.ref (jm_a E t 0), .ref (jm_a E p1 0)] M none r := by
  refine jm_enter (lv := [some (.ref (jm_a E t 0)), some (.ref (jm_a E p1 0))]) hE (by decide) (Nat.le_of_ble_eq_true rfl) rfl ?_
  intro z w F hz
  have G : jm_G w 0 [some (.ref (jm_a E t 0)), some (.ref (jm_a E p1 0))] [] M (sT_copyFrom M t p1) (fun e => z none e) := by
    unfold sT_copyFrom
    refine jm_aload_n (i := 0) F dX7_copyFrom_0 rfl rfl ?_
    refine jm_aload_n (i := 1) F dX7_copyFrom_1 rfl rfl ?_
    refine jm_getI F dX7_copyFrom_2 fl_X7_45 (lo_T hp1) rfl ?_
    refine jm_putI F dX7_copyFrom_5 fp_X7_45 (lo_T ht) rfl (fun M1 => ?_)
    refine jm_aload_n (i := 1) F dX7_copyFrom_8 rfl rfl ?_
    refine jm_getR F dX7_copyFrom_9 fl_X7_9 (lo_T hp1) rfl ?_
    refine jm_iconst F dX7_copyFrom_12 kc_0 ?_
    refine jm_aload_n (i := 0) F dX7_copyFrom_13 rfl rfl ?_
    refine jm_getR F dX7_copyFrom_14 fl_X7_9 (lo_T ht) rfl ?_
    refine jm_iconst F dX7_copyFrom_17 kc_0 ?_
    refine jm_bipush F dX7_copyFrom_18 kb_6 ?_
    refine jm_acopy F dX7_copyFrom_20 tw_405 tw_407 tw_406 tw_90 (la_T_2 hp1) (la_T_2 ht) (by decide) (by decide) ⟨Nat.le_of_ble_eq_true rfl, Nat.le_of_ble_eq_true rfl⟩ (fun M2 => ?_)
    refine jm_aload_n (i := 1) F dX7_copyFrom_23 rfl rfl ?_
    refine jm_getR F dX7_copyFrom_24 fl_X7_15 (lo_T hp1) rfl ?_
    refine jm_iconst F dX7_copyFrom_27 kc_0 ?_
    refine jm_aload_n (i := 0) F dX7_copyFrom_28 rfl rfl ?_
    refine jm_getR F dX7_copyFrom_29 fl_X7_15 (lo_T ht) rfl ?_
    refine jm_iconst F dX7_copyFrom_32 kc_0 ?_
    refine jm_bipush F dX7_copyFrom_33 kb_6 ?_
    refine jm_acopy F dX7_copyFrom_35 tw_405 tw_407 tw_406 tw_90 (la_T_3 hp1) (la_T_3 ht) (by decide) (by decide) ⟨Nat.le_of_ble_eq_true rfl, Nat.le_of_ble_eq_true rfl⟩ (fun M3 => ?_)
    refine jm_aload_n (i := 1) F dX7_copyFrom_38 rfl rfl ?_
    refine jm_getR F dX7_copyFrom_39 fl_X7_18 (lo_T hp1) rfl ?_
    refine jm_iconst F dX7_copyFrom_42 kc_0 ?_
    refine jm_aload_n (i := 0) F dX7_copyFrom_43 rfl rfl ?_
    refine jm_getR F dX7_copyFrom_44 fl_X7_18 (lo_T ht) rfl ?_
    refine jm_iconst F dX7_copyFrom_47 kc_0 ?_
    refine jm_bipush F dX7_copyFrom_48 kb_6 ?_
    refine jm_acopy F dX7_copyFrom_50 tw_405 tw_407 tw_406 tw_90 (la_T_4 hp1) (la_T_4 ht) (by decide) (by decide) ⟨Nat.le_of_ble_eq_true rfl, Nat.le_of_ble_eq_true rfl⟩ (fun M4 => ?_)
    refine jm_aload_n (i := 0) F dX7_copyFrom_53 rfl rfl ?_
    refine jm_aload_n (i := 1) F dX7_copyFrom_54 rfl rfl ?_
    refine jm_getI F dX7_copyFrom_55 fl_X7_55 (lo_T hp1) rfl ?_
    refine jm_putI F dX7_copyFrom_58 fp_X7_55 (lo_T ht) rfl (fun M5 => ?_)
    refine jm_aload_n (i := 1) F dX7_copyFrom_61 rfl rfl ?_
    refine jm_getR F dX7_copyFrom_62 fl_X7_21 (lo_T hp1) rfl ?_
    refine jm_iconst F dX7_copyFrom_65 kc_0 ?_
    refine jm_aload_n (i := 0) F dX7_copyFrom_66 rfl rfl ?_
    refine jm_getR F dX7_copyFrom_67 fl_X7_21 (lo_T ht) rfl ?_
    refine jm_iconst F dX7_copyFrom_70 kc_0 ?_
    refine jm_bipush F dX7_copyFrom_71 kb_10 ?_
    refine jm_acopy F dX7_copyFrom_73 tw_405 tw_407 tw_406 tw_90 (la_T_6 hp1) (la_T_6 ht) (by decide) (by decide) ⟨Nat.le_of_ble_eq_true rfl, Nat.le_of_ble_eq_true rfl⟩ (fun M6 => ?_)
    refine jm_aload_n (i := 1) F dX7_copyFrom_76 rfl rfl ?_
    refine jm_getR F dX7_copyFrom_77 fl_X7_24 (lo_T hp1) rfl ?_
    refine jm_iconst F dX7_copyFrom_80 kc_0 ?_
    refine jm_aload_n (i := 0) F dX7_copyFrom_81 rfl rfl ?_
    refine jm_getR F dX7_copyFrom_82 fl_X7_24 (lo_T ht) rfl ?_
    refine jm_iconst F dX7_copyFrom_85 kc_0 ?_
    refine jm_bipush F dX7_copyFrom_86 kb_10 ?_
    refine jm_acopy F dX7_copyFrom_88 tw_405 tw_407 tw_406 tw_90 (la_T_7 hp1) (la_T_7 ht) (by decide) (by decide) ⟨Nat.le_of_ble_eq_true rfl, Nat.le_of_ble_eq_true rfl⟩ (fun M7 => ?_)
    refine jm_aload_n (i := 1) F dX7_copyFrom_91 rfl rfl ?_
    refine jm_getR F dX7_copyFrom_92 fl_X7_27 (lo_T hp1) rfl ?_
    refine jm_iconst F dX7_copyFrom_95 kc_0 ?_
    refine jm_aload_n (i := 0) F dX7_copyFrom_96 rfl rfl ?_
    refine jm_getR F dX7_copyFrom_97 fl_X7_27 (lo_T ht) rfl ?_
    refine jm_iconst F dX7_copyFrom_100 kc_0 ?_
    refine jm_bipush F dX7_copyFrom_101 kb_10 ?_
    refine jm_acopy F dX7_copyFrom_103 tw_405 tw_407 tw_406 tw_90 (la_T_8 hp1) (la_T_8 ht) (by decide) (by decide) ⟨Nat.le_of_ble_eq_true rfl, Nat.le_of_ble_eq_true rfl⟩ (fun M8 => ?_)
    refine jm_aload_n (i := 1) F dX7_copyFrom_106 rfl rfl ?_
    refine jm_getR F dX7_copyFrom_107 fl_X7_30 (lo_T hp1) rfl ?_
    refine jm_iconst F dX7_copyFrom_110 kc_0 ?_
    refine jm_aload_n (i := 0) F dX7_copyFrom_111 rfl rfl ?_
    refine jm_getR F dX7_copyFrom_112 fl_X7_30 (lo_T ht) rfl ?_
    refine jm_iconst F dX7_copyFrom_115 kc_0 ?_
    refine jm_bipush F dX7_copyFrom_116 kb_10 ?_
    refine jm_acopy F dX7_copyFrom_118 tw_405 tw_407 tw_406 tw_90 (la_T_9 hp1) (la_T_9 ht) (by decide) (by decide) ⟨Nat.le_of_ble_eq_true rfl, Nat.le_of_ble_eq_true rfl⟩ (fun M9 => ?_)
    refine jm_aload_n (i := 1) F dX7_copyFrom_121 rfl rfl ?_
    refine jm_getR F dX7_copyFrom_122 fl_X7_33 (lo_T hp1) rfl ?_
    refine jm_iconst F dX7_copyFrom_125 kc_0 ?_
    refine jm_aload_n (i := 0) F dX7_copyFrom_126 rfl rfl ?_
    refine jm_getR F dX7_copyFrom_127 fl_X7_33 (lo_T ht) rfl ?_
    refine jm_iconst F dX7_copyFrom_130 kc_0 ?_
    refine jm_bipush F dX7_copyFrom_131 kb_10 ?_
    refine jm_acopy F dX7_copyFrom_133 tw_405 tw_407 tw_406 tw_90 (la_T_10 hp1) (la_T_10 ht) (by decide) (by decide) ⟨Nat.le_of_ble_eq_true rfl, Nat.le_of_ble_eq_true rfl⟩ (fun M10 => ?_)
    refine jm_aload_n (i := 1) F dX7_copyFrom_136 rfl rfl ?_
    refine jm_getR F dX7_copyFrom_137 fl_X7_36 (lo_T hp1) rfl ?_
    refine jm_iconst F dX7_copyFrom_140 kc_0 ?_
    refine jm_aload_n (i := 0) F dX7_copyFrom_141 rfl rfl ?_
    refine jm_getR F dX7_copyFrom_142 fl_X7_36 (lo_T ht) rfl ?_
    refine jm_iconst F dX7_copyFrom_145 kc_0 ?_
    refine jm_bipush F dX7_copyFrom_146 kb_10 ?_
    refine jm_acopy F dX7_copyFrom_148 tw_405 tw_407 tw_406 tw_90 (la_T_11 hp1) (la_T_11 ht) (by decide) (by decide) ⟨Nat.le_of_ble_eq_true rfl, Nat.le_of_ble_eq_true rfl⟩ (fun M11 => ?_)
    refine jm_aload_n (i := 0) F dX7_copyFrom_151 rfl rfl ?_
    refine jm_aload_n (i := 1) F dX7_copyFrom_152 rfl rfl ?_
    refine jm_getI F dX7_copyFrom_153 fl_X7_58 (lo_T hp1) rfl ?_
    refine jm_putI F dX7_copyFrom_156 fp_X7_58 (lo_T ht) rfl (fun M12 => ?_)
    refine jm_aload_n (i := 0) F dX7_copyFrom_159 rfl rfl ?_
    refine jm_aload_n (i := 1) F dX7_copyFrom_160 rfl rfl ?_
    refine jm_getI F dX7_copyFrom_161 fl_X7_61 (lo_T hp1) rfl ?_
    refine jm_putI F dX7_copyFrom_164 fp_X7_61 (lo_T ht) rfl (fun M13 => ?_)
    refine jm_aload_n (i := 1) F dX7_copyFrom_167 rfl rfl ?_
    refine jm_getR F dX7_copyFrom_168 fl_X7_39 (lo_T hp1) rfl ?_
    refine jm_iconst F dX7_copyFrom_171 kc_0 ?_
    refine jm_aload_n (i := 0) F dX7_copyFrom_172 rfl rfl ?_
    refine jm_getR F dX7_copyFrom_173 fl_X7_39 (lo_T ht) rfl ?_
    refine jm_iconst F dX7_copyFrom_176 kc_0 ?_
    refine jm_bipush F dX7_copyFrom_177 kb_6 ?_
    refine jm_acopy F dX7_copyFrom_179 tw_405 tw_407 tw_406 tw_90 (la_T_14 hp1) (la_T_14 ht) (by decide) (by decide) ⟨Nat.le_of_ble_eq_true rfl, Nat.le_of_ble_eq_true rfl⟩ (fun M14 => ?_)
    refine jm_aload_n (i := 1) F dX7_copyFrom_182 rfl rfl ?_
    refine jm_getR F dX7_copyFrom_183 fl_X7_42 (lo_T hp1) rfl ?_
    refine jm_iconst F dX7_copyFrom_186 kc_0 ?_
    refine jm_aload_n (i := 0) F dX7_copyFrom_187 rfl rfl ?_
    refine jm_getR F dX7_copyFrom_188 fl_X7_42 (lo_T ht) rfl ?_
    refine jm_iconst F dX7_copyFrom_191 kc_0 ?_
    refine jm_bipush F dX7_copyFrom_192 kb_6 ?_
    refine jm_acopy F dX7_copyFrom_194 tw_405 tw_407 tw_406 tw_90 (la_T_15 hp1) (la_T_15 ht) (by decide) (by decide) ⟨Nat.le_of_ble_eq_true rfl, Nat.le_of_ble_eq_true rfl⟩ (fun M15 => ?_)
    exact jm_vret F dX7_copyFrom_197 (fun h => h)
  exact G r h hz
theorem dX5_takeNumber_0 : jm_d cX5_takeNumber 0 (.iconst 0) 1 1 := ⟨by decide +kernel, rfl⟩
theorem dX5_takeNumber_1 : jm_d cX5_takeNumber 1 (.istore_n 2) 1 2 := ⟨by decide +kernel, rfl⟩
theorem dX5_takeNumber_2 : jm_d cX5_takeNumber 2 (.iconst 0) 1 3 := ⟨by decide +kernel, rfl⟩
theorem dX5_takeNumber_3 : jm_d cX5_takeNumber 3 (.istore_n 3) 1 4 := ⟨by decide +kernel, rfl⟩
theorem dX5_takeNumber_4 : jm_d cX5_takeNumber 4 (.iload_n 3) 1 5 := ⟨by decide +kernel, rfl⟩
theorem dX5_takeNumber_5 : jm_d cX5_takeNumber 5 (.iload_n 1) 1 6 := ⟨by decide +kernel, rfl⟩
theorem dX5_takeNumber_6 : jm_b cX5_takeNumber 6 (.if_icmp .ge) 9 38 := ⟨32, by decide +kernel, rfl, by decide⟩
theorem dX5_takeNumber_9 : jm_d cX5_takeNumber 9 (.bipush 10) 2 11 := ⟨by decide +kernel, rfl⟩
theorem dX5_takeNumber_11 : jm_d cX5_takeNumber 11 (.iload_n 2) 1 12 := ⟨by decide +kernel, rfl⟩
theorem dX5_takeNumber_12 : jm_d cX5_takeNumber 12 (.imul) 1 13 := ⟨by decide +kernel, rfl⟩
theorem dX5_takeNumber_13 : jm_d cX5_takeNumber 13 (.aload_n 0) 1 14 := ⟨by decide +kernel, rfl⟩
theorem dX5_takeNumber_14 : jm_d cX5_takeNumber 14 (.invokevirtual 37) 3 17 := ⟨by decide +kernel, rfl⟩
theorem dX5_takeNumber_17 : jm_d cX5_takeNumber 17 (.iadd) 1 18 := ⟨by decide +kernel, rfl⟩
theorem dX5_takeNumber_18 : jm_d cX5_takeNumber 18 (.bipush 48) 2 20 := ⟨by decide +kernel, rfl⟩
theorem dX5_takeNumber_20 : jm_d cX5_takeNumber 20 (.isub) 1 21 := ⟨by decide +kernel, rfl⟩
theorem dX5_takeNumber_21 : jm_d cX5_takeNumber 21 (.istore_n 2) 1 22 := ⟨by decide +kernel, rfl⟩
theorem dX5_takeNumber_22 : jm_d cX5_takeNumber 22 (.aload_n 0) 1 23 := ⟨by decide +kernel, rfl⟩
theorem dX5_takeNumber_23 : jm_d cX5_takeNumber 23 (.dup) 1 24 := ⟨by decide +kernel, rfl⟩
theorem dX5_takeNumber_24 : jm_d cX5_takeNumber 24 (.getfield 30) 3 27 := ⟨by decide +kernel, rfl⟩
theorem dX5_takeNumber_27 : jm_d cX5_takeNumber 27 (.iconst 1) 1 28 := ⟨by decide +kernel, rfl⟩
theorem dX5_takeNumber_28 : jm_d cX5_takeNumber 28 (.iadd) 1 29 := ⟨by decide +kernel, rfl⟩
theorem dX5_takeNumber_29 : jm_d cX5_takeNumber 29 (.putfield 30) 3 32 := ⟨by decide +kernel, rfl⟩
theorem dX5_takeNumber_32 : jm_d cX5_takeNumber 32 (.iinc 3 1) 3 35 := ⟨by decide +kernel, rfl⟩
theorem dX5_takeNumber_35 : jm_b cX5_takeNumber 35 .goto 38 4 := ⟨(-31), by decide +kernel, rfl, by decide⟩
theorem dX5_takeNumber_38 : jm_d cX5_takeNumber 38 (.iload_n 2) 1 39 := ⟨by decide +kernel, rfl⟩
theorem dX5_takeNumber_39 : jm_d cX5_takeNumber 39 (.ireturn) 1 40 := ⟨by decide +kernel, rfl⟩
set_option maxHeartbeats 4000000 in
set_option maxRecDepth 100000 in
theorem kS_takeNumber (E : jm_Ev) (hE : jm_dj E jm_LC) {M : jm_M} {p1 : Int32}  {r : Int32 × jm_M} (h : sS_takeNumber M p1 = some r) : jm_Ct E jm_LC yX5_takeNumber cX5_takeNumber 4 (some .int) 1 20 [.ref (jm_a E 14 0), .int p1] M (some (.int r.1)) r.2 := by
  refine jm_enter (lv := [some (.ref (jm_a E 14 0)), some (.int p1), none, none]) hE (by decide) (Nat.le_of_ble_eq_true rfl) rfl ?_
  intro z w F hz
  have G : jm_G w 0 [some (.ref (jm_a E 14 0)), some (.int p1), none, none] [] M (sS_takeNumber M p1) (fun e => z (some (.int e.1)) e.2) := by
    unfold sS_takeNumber
    refine jm_iconst F dX5_takeNumber_0 kc_0 ?_
    refine jm_istore_n (i := 2) (lv' := [some (.ref (jm_a E 14 0)), some (.int p1), some (.int 0), none]) F dX5_takeNumber_1 rfl (by decide) rfl rfl ?_
    refine jm_iconst F dX5_takeNumber_2 kc_0 ?_
    refine jm_istore_n (i := 3) (lv' := [some (.ref (jm_a E 14 0)), some (.int p1), some (.int 0), some (.int 0)]) F dX5_takeNumber_3 rfl (by decide) rfl rfl ?_
    refine jm_bind (pcJ := 38) (lvJ := fun e6 => [none, none, some (.int e6.1), none]) (stJ := fun _ => []) (MJ := fun e6 => e6.2) ?_ (fun e6 => ?_)
    · refine jm_weak F (lv' := [some (.ref (jm_a E 14 0)), some (.int p1), some (.int 0), some (.int 0)]) ⟨rfl, rfl, rfl, rfl, trivial⟩ ?_
      refine jm_loopR (lvH := fun s1 => [some (.ref (jm_a E 14 0)), some (.int p1), some (.int s1.1), some (.int s1.2.1)]) (MH := fun s1 => s1.2.2) (fun s1 => ?_) jm_N (0, 0, M)
      unfold sS_takeNumber_L4
      refine jm_iload_n (i := 3) F dX5_takeNumber_4 rfl rfl ?_
      refine jm_iload_n (i := 1) F dX5_takeNumber_5 rfl rfl ?_
      refine jm_icmp_ge F dX5_takeNumber_6 (fun c2 => ?_) (fun c2 => ?_)
      · exact jm_weakD F (lv' := [none, none, some (.int s1.1), none]) ⟨rfl, trivial⟩ (fun h => h)
      · refine jm_bipush F dX5_takeNumber_9 kb_10 ?_
        refine jm_iload_n (i := 2) F dX5_takeNumber_11 rfl rfl ?_
        refine jm_imul F dX5_takeNumber_12 ?_
        refine jm_aload_n (i := 0) F dX5_takeNumber_13 rfl rfl ?_
        refine jm_callV (As := []) (st := [.int (10 * s1.1)]) (rv := fun r => some (.int r)) (mm := fun _ => s1.2.2) F dX5_takeNumber_14 qX5_37 rfl lo_X5 rfl (fun r h => kS_here E hE h) rfl (Nat.le_of_ble_eq_true rfl) ⟨Nat.le_of_ble_eq_true rfl, Nat.le_of_ble_eq_true rfl⟩ (fun r3 => ?_)
        refine jm_iadd F dX5_takeNumber_17 ?_
        refine jm_bipush F dX5_takeNumber_18 kb_48 ?_
        refine jm_isub F dX5_takeNumber_20 ?_
        refine jm_nameI (f := fun x4 => [.int x4]) (fun x4 => ?_) rfl
        refine jm_istore_n (i := 2) (lv' := [some (.ref (jm_a E 14 0)), some (.int p1), some (.int x4), some (.int s1.2.1)]) F dX5_takeNumber_21 rfl (by decide) rfl rfl ?_
        refine jm_aload_n (i := 0) F dX5_takeNumber_22 rfl rfl ?_
        refine jm_dup F dX5_takeNumber_23 rfl ?_
        refine jm_getI F dX5_takeNumber_24 fl_X5_30 lo_X5 rfl ?_
        refine jm_iconst F dX5_takeNumber_27 kc_1 ?_
        refine jm_iadd F dX5_takeNumber_28 ?_
        refine jm_putI F dX5_takeNumber_29 fp_X5_30 lo_X5 rfl (fun M5 => ?_)
        refine jm_iinc (i := 3) (lv' := [some (.ref (jm_a E 14 0)), some (.int p1), some (.int x4), some (.int (s1.2.1 + 1))]) F dX5_takeNumber_32 kc_1 rfl (by decide) rfl rfl ?_
        refine jm_goto F dX5_takeNumber_35 ?_
        exact jm_weakD F (lv' := [some (.ref (jm_a E 14 0)), some (.int p1), some (.int x4), some (.int (s1.2.1 + 1))]) ⟨rfl, rfl, rfl, rfl, trivial⟩ (fun h => h)
    · refine jm_iload_n (i := 2) F dX5_takeNumber_38 rfl rfl ?_
      exact jm_iret F dX5_takeNumber_39 (fun h => h)
  exact G r h hz
theorem dX7_addPerson_0 : jm_d cX7_addPerson 0 (.aload_n 0) 1 1 := ⟨by decide +kernel, rfl⟩
theorem dX7_addPerson_1 : jm_d cX7_addPerson 1 (.getfield 45) 3 4 := ⟨by decide +kernel, rfl⟩
theorem dX7_addPerson_4 : jm_d cX7_addPerson 4 (.istore 4) 2 6 := ⟨by decide +kernel, rfl⟩
theorem dX7_addPerson_6 : jm_d cX7_addPerson 6 (.iload 4) 2 8 := ⟨by decide +kernel, rfl⟩
theorem dX7_addPerson_8 : jm_d cX7_addPerson 8 (.bipush 6) 2 10 := ⟨by decide +kernel, rfl⟩
theorem dX7_addPerson_10 : jm_b cX7_addPerson 10 (.if_icmp .ge) 13 47 := ⟨37, by decide +kernel, rfl, by decide⟩
theorem dX7_addPerson_47 : jm_d cX7_addPerson 47 (.iload 4) 2 49 := ⟨by decide +kernel, rfl⟩
theorem dX7_addPerson_49 : jm_d cX7_addPerson 49 (.ireturn) 1 50 := ⟨by decide +kernel, rfl⟩
theorem dX7_addPerson_13 : jm_d cX7_addPerson 13 (.aload_n 0) 1 14 := ⟨by decide +kernel, rfl⟩
theorem dX7_addPerson_14 : jm_d cX7_addPerson 14 (.getfield 9) 3 17 := ⟨by decide +kernel, rfl⟩
theorem dX7_addPerson_17 : jm_d cX7_addPerson 17 (.iload 4) 2 19 := ⟨by decide +kernel, rfl⟩
theorem dX7_addPerson_19 : jm_d cX7_addPerson 19 (.iload_n 1) 1 20 := ⟨by decide +kernel, rfl⟩
theorem dX7_addPerson_20 : jm_d cX7_addPerson 20 (.iastore) 1 21 := ⟨by decide +kernel, rfl⟩
theorem dX7_addPerson_21 : jm_d cX7_addPerson 21 (.aload_n 0) 1 22 := ⟨by decide +kernel, rfl⟩
theorem dX7_addPerson_22 : jm_d cX7_addPerson 22 (.getfield 15) 3 25 := ⟨by decide +kernel, rfl⟩
theorem dX7_addPerson_25 : jm_d cX7_addPerson 25 (.iload 4) 2 27 := ⟨by decide +kernel, rfl⟩
theorem dX7_addPerson_27 : jm_d cX7_addPerson 27 (.iload_n 2) 1 28 := ⟨by decide +kernel, rfl⟩
theorem dX7_addPerson_28 : jm_d cX7_addPerson 28 (.iastore) 1 29 := ⟨by decide +kernel, rfl⟩
theorem dX7_addPerson_29 : jm_d cX7_addPerson 29 (.aload_n 0) 1 30 := ⟨by decide +kernel, rfl⟩
theorem dX7_addPerson_30 : jm_d cX7_addPerson 30 (.getfield 18) 3 33 := ⟨by decide +kernel, rfl⟩
theorem dX7_addPerson_33 : jm_d cX7_addPerson 33 (.iload 4) 2 35 := ⟨by decide +kernel, rfl⟩
theorem dX7_addPerson_35 : jm_d cX7_addPerson 35 (.iload_n 3) 1 36 := ⟨by decide +kernel, rfl⟩
theorem dX7_addPerson_36 : jm_d cX7_addPerson 36 (.iastore) 1 37 := ⟨by decide +kernel, rfl⟩
theorem dX7_addPerson_37 : jm_d cX7_addPerson 37 (.aload_n 0) 1 38 := ⟨by decide +kernel, rfl⟩
theorem dX7_addPerson_38 : jm_d cX7_addPerson 38 (.dup) 1 39 := ⟨by decide +kernel, rfl⟩
theorem dX7_addPerson_39 : jm_d cX7_addPerson 39 (.getfield 45) 3 42 := ⟨by decide +kernel, rfl⟩
theorem dX7_addPerson_42 : jm_d cX7_addPerson 42 (.iconst 1) 1 43 := ⟨by decide +kernel, rfl⟩
theorem dX7_addPerson_43 : jm_d cX7_addPerson 43 (.iadd) 1 44 := ⟨by decide +kernel, rfl⟩
theorem dX7_addPerson_44 : jm_d cX7_addPerson 44 (.putfield 45) 3 47 := ⟨by decide +kernel, rfl⟩
set_option maxHeartbeats 4000000 in
set_option maxRecDepth 100000 in
theorem kT_addPerson (E : jm_Ev) (hE : jm_dj E jm_LC) {M : jm_M} {t : Nat} {p1 : Int32} {p2 : Int32} {p3 : Int32} (ht : jm_isT t) {r : Int32 × jm_M} (h : sT_addPerson M t p1 p2 p3 = some r) : jm_Ct E jm_LC yX7_addPerson cX7_addPerson 5 (some .int) 0 0 [.ref (jm_a E t 0), .int p1, .int p2, .int p3] M (some (.int r.1)) r.2 := by
  refine jm_enter (lv := [some (.ref (jm_a E t 0)), some (.int p1), some (.int p2), some (.int p3), none]) hE (by decide) (Nat.le_of_ble_eq_true rfl) rfl ?_
  intro z w F hz
  have G : jm_G w 0 [some (.ref (jm_a E t 0)), some (.int p1), some (.int p2), some (.int p3), none] [] M (sT_addPerson M t p1 p2 p3) (fun e => z (some (.int e.1)) e.2) := by
    unfold sT_addPerson
    refine jm_aload_n (i := 0) F dX7_addPerson_0 rfl rfl ?_
    refine jm_getI F dX7_addPerson_1 fl_X7_45 (lo_T ht) rfl ?_
    refine jm_nameI (f := fun x1 => [.int x1]) (fun x1 => ?_) rfl
    refine jm_istore (i := 4) (lv' := [some (.ref (jm_a E t 0)), some (.int p1), some (.int p2), some (.int p3), some (.int x1)]) F dX7_addPerson_4 (by decide) rfl rfl ?_
    refine jm_iload F dX7_addPerson_6 rfl ?_
    refine jm_bipush F dX7_addPerson_8 kb_6 ?_
    refine jm_icmp_ge F dX7_addPerson_10 (fun c2 => ?_) (fun c2 => ?_)
    · refine jm_iload F dX7_addPerson_47 rfl ?_
      exact jm_iret F dX7_addPerson_49 (fun h => h)
    · refine jm_aload_n (i := 0) F dX7_addPerson_13 rfl rfl ?_
      refine jm_getR F dX7_addPerson_14 fl_X7_9 (lo_T ht) rfl ?_
      refine jm_iload F dX7_addPerson_17 rfl ?_
      refine jm_iload_n (i := 1) F dX7_addPerson_19 rfl rfl ?_
      refine jm_iast F dX7_addPerson_20 (la_T_2 ht) (fun M3 => ?_)
      refine jm_aload_n (i := 0) F dX7_addPerson_21 rfl rfl ?_
      refine jm_getR F dX7_addPerson_22 fl_X7_15 (lo_T ht) rfl ?_
      refine jm_iload F dX7_addPerson_25 rfl ?_
      refine jm_iload_n (i := 2) F dX7_addPerson_27 rfl rfl ?_
      refine jm_iast F dX7_addPerson_28 (la_T_3 ht) (fun M4 => ?_)
      refine jm_aload_n (i := 0) F dX7_addPerson_29 rfl rfl ?_
      refine jm_getR F dX7_addPerson_30 fl_X7_18 (lo_T ht) rfl ?_
      refine jm_iload F dX7_addPerson_33 rfl ?_
      refine jm_iload_n (i := 3) F dX7_addPerson_35 rfl rfl ?_
      refine jm_iast F dX7_addPerson_36 (la_T_4 ht) (fun M5 => ?_)
      refine jm_aload_n (i := 0) F dX7_addPerson_37 rfl rfl ?_
      refine jm_dup F dX7_addPerson_38 rfl ?_
      refine jm_getI F dX7_addPerson_39 fl_X7_45 (lo_T ht) rfl ?_
      refine jm_iconst F dX7_addPerson_42 kc_1 ?_
      refine jm_iadd F dX7_addPerson_43 ?_
      refine jm_putI F dX7_addPerson_44 fp_X7_45 (lo_T ht) rfl (fun M6 => ?_)
      refine jm_iload F dX7_addPerson_47 rfl ?_
      exact jm_iret F dX7_addPerson_49 (fun h => h)
  exact G r h hz
theorem dX5_takePerson_0 : jm_d cX5_takePerson 0 (.aload_n 0) 1 1 := ⟨by decide +kernel, rfl⟩
theorem dX5_takePerson_1 : jm_d cX5_takePerson 1 (.iconst 2) 1 2 := ⟨by decide +kernel, rfl⟩
theorem dX5_takePerson_2 : jm_d cX5_takePerson 2 (.invokevirtual 91) 3 5 := ⟨by decide +kernel, rfl⟩
theorem dX5_takePerson_5 : jm_d cX5_takePerson 5 (.istore_n 1) 1 6 := ⟨by decide +kernel, rfl⟩
theorem dX5_takePerson_6 : jm_d cX5_takePerson 6 (.aload_n 0) 1 7 := ⟨by decide +kernel, rfl⟩
theorem dX5_takePerson_7 : jm_d cX5_takePerson 7 (.iconst 1) 1 8 := ⟨by decide +kernel, rfl⟩
theorem dX5_takePerson_8 : jm_d cX5_takePerson 8 (.invokevirtual 91) 3 11 := ⟨by decide +kernel, rfl⟩
theorem dX5_takePerson_11 : jm_d cX5_takePerson 11 (.istore_n 2) 1 12 := ⟨by decide +kernel, rfl⟩
theorem dX5_takePerson_12 : jm_d cX5_takePerson 12 (.aload_n 0) 1 13 := ⟨by decide +kernel, rfl⟩
theorem dX5_takePerson_13 : jm_d cX5_takePerson 13 (.iconst 2) 1 14 := ⟨by decide +kernel, rfl⟩
theorem dX5_takePerson_14 : jm_d cX5_takePerson 14 (.invokevirtual 91) 3 17 := ⟨by decide +kernel, rfl⟩
theorem dX5_takePerson_17 : jm_d cX5_takePerson 17 (.istore_n 3) 1 18 := ⟨by decide +kernel, rfl⟩
theorem dX5_takePerson_18 : jm_d cX5_takePerson 18 (.aload_n 0) 1 19 := ⟨by decide +kernel, rfl⟩
theorem dX5_takePerson_19 : jm_d cX5_takePerson 19 (.getfield 18) 3 22 := ⟨by decide +kernel, rfl⟩
theorem dX5_takePerson_22 : jm_d cX5_takePerson 22 (.getfield 95) 3 25 := ⟨by decide +kernel, rfl⟩
theorem dX5_takePerson_25 : jm_d cX5_takePerson 25 (.bipush 6) 2 27 := ⟨by decide +kernel, rfl⟩
theorem dX5_takePerson_27 : jm_b cX5_takePerson 27 (.if_icmp .lt) 30 32 := ⟨5, by decide +kernel, rfl, by decide⟩
theorem dX5_takePerson_32 : jm_d cX5_takePerson 32 (.aload_n 0) 1 33 := ⟨by decide +kernel, rfl⟩
theorem dX5_takePerson_33 : jm_d cX5_takePerson 33 (.getfield 18) 3 36 := ⟨by decide +kernel, rfl⟩
theorem dX5_takePerson_36 : jm_d cX5_takePerson 36 (.iload_n 1) 1 37 := ⟨by decide +kernel, rfl⟩
theorem dX5_takePerson_37 : jm_d cX5_takePerson 37 (.iload_n 2) 1 38 := ⟨by decide +kernel, rfl⟩
theorem dX5_takePerson_38 : jm_d cX5_takePerson 38 (.iload_n 3) 1 39 := ⟨by decide +kernel, rfl⟩
theorem dX5_takePerson_39 : jm_d cX5_takePerson 39 (.invokevirtual 98) 3 42 := ⟨by decide +kernel, rfl⟩
theorem dX5_takePerson_42 : jm_d cX5_takePerson 42 (.pop) 1 43 := ⟨by decide +kernel, rfl⟩
theorem dX5_takePerson_43 : jm_d cX5_takePerson 43 (.iconst 1) 1 44 := ⟨by decide +kernel, rfl⟩
theorem dX5_takePerson_44 : jm_d cX5_takePerson 44 (.ireturn) 1 45 := ⟨by decide +kernel, rfl⟩
theorem dX5_takePerson_30 : jm_d cX5_takePerson 30 (.iconst 0) 1 31 := ⟨by decide +kernel, rfl⟩
theorem dX5_takePerson_31 : jm_d cX5_takePerson 31 (.ireturn) 1 32 := ⟨by decide +kernel, rfl⟩
set_option maxHeartbeats 4000000 in
set_option maxRecDepth 100000 in
theorem kS_takePerson (E : jm_Ev) (hE : jm_dj E jm_LC) {M : jm_M}  {r : Int32 × jm_M} (h : sS_takePerson M = some r) : jm_Ct E jm_LC yX5_takePerson cX5_takePerson 4 (some .boolean) 2 43 [.ref (jm_a E 14 0)] M (some (.int r.1)) r.2 := by
  refine jm_enter (lv := [some (.ref (jm_a E 14 0)), none, none, none]) hE (by decide) (Nat.le_of_ble_eq_true rfl) rfl ?_
  intro z w F hz
  have G : jm_G w 0 [some (.ref (jm_a E 14 0)), none, none, none] [] M (sS_takePerson M) (fun e => z (some (.int e.1)) e.2) := by
    unfold sS_takePerson
    refine jm_aload_n (i := 0) F dX5_takePerson_0 rfl rfl ?_
    refine jm_iconst F dX5_takePerson_1 kc_2 ?_
    refine jm_callV (As := [.int 2]) (st := []) (rv := fun r => some (.int r.1)) (mm := fun r => r.2) F dX5_takePerson_2 qX5_91 rfl lo_X5 rfl (fun r h => kS_takeNumber E hE h) rfl (Nat.le_of_ble_eq_true rfl) ⟨Nat.le_of_ble_eq_true rfl, Nat.le_of_ble_eq_true rfl⟩ (fun r1 => ?_)
    refine jm_istore_n (i := 1) (lv' := [some (.ref (jm_a E 14 0)), some (.int r1.1), none, none]) F dX5_takePerson_5 rfl (by decide) rfl rfl ?_
    refine jm_aload_n (i := 0) F dX5_takePerson_6 rfl rfl ?_
    refine jm_iconst F dX5_takePerson_7 kc_1 ?_
    refine jm_callV (As := [.int 1]) (st := []) (rv := fun r => some (.int r.1)) (mm := fun r => r.2) F dX5_takePerson_8 qX5_91 rfl lo_X5 rfl (fun r h => kS_takeNumber E hE h) rfl (Nat.le_of_ble_eq_true rfl) ⟨Nat.le_of_ble_eq_true rfl, Nat.le_of_ble_eq_true rfl⟩ (fun r2 => ?_)
    refine jm_istore_n (i := 2) (lv' := [some (.ref (jm_a E 14 0)), some (.int r1.1), some (.int r2.1), none]) F dX5_takePerson_11 rfl (by decide) rfl rfl ?_
    refine jm_aload_n (i := 0) F dX5_takePerson_12 rfl rfl ?_
    refine jm_iconst F dX5_takePerson_13 kc_2 ?_
    refine jm_callV (As := [.int 2]) (st := []) (rv := fun r => some (.int r.1)) (mm := fun r => r.2) F dX5_takePerson_14 qX5_91 rfl lo_X5 rfl (fun r h => kS_takeNumber E hE h) rfl (Nat.le_of_ble_eq_true rfl) ⟨Nat.le_of_ble_eq_true rfl, Nat.le_of_ble_eq_true rfl⟩ (fun r3 => ?_)
    refine jm_istore_n (i := 3) (lv' := [some (.ref (jm_a E 14 0)), some (.int r1.1), some (.int r2.1), some (.int r3.1)]) F dX5_takePerson_17 rfl (by decide) rfl rfl ?_
    refine jm_aload_n (i := 0) F dX5_takePerson_18 rfl rfl ?_
    refine jm_getR F dX5_takePerson_19 fl_X5_18 lo_X5 rfl ?_
    refine jm_getI F dX5_takePerson_22 fl_X5_95 (lo_T isT_3) rfl ?_
    refine jm_bipush F dX5_takePerson_25 kb_6 ?_
    refine jm_icmp_lt F dX5_takePerson_27 (fun c4 => ?_) (fun c4 => ?_)
    · refine jm_aload_n (i := 0) F dX5_takePerson_32 rfl rfl ?_
      refine jm_getR F dX5_takePerson_33 fl_X5_18 lo_X5 rfl ?_
      refine jm_iload_n (i := 1) F dX5_takePerson_36 rfl rfl ?_
      refine jm_iload_n (i := 2) F dX5_takePerson_37 rfl rfl ?_
      refine jm_iload_n (i := 3) F dX5_takePerson_38 rfl rfl ?_
      refine jm_callV (As := [.int r1.1, .int r2.1, .int r3.1]) (st := []) (rv := fun r => some (.int r.1)) (mm := fun r => r.2) F dX5_takePerson_39 qX5_98 rfl (lo_T isT_3) rfl (fun r h => kT_addPerson E hE isT_3 h) rfl (Nat.le_of_ble_eq_true rfl) ⟨Nat.le_of_ble_eq_true rfl, Nat.le_of_ble_eq_true rfl⟩ (fun r5 => ?_)
      refine jm_pop F dX5_takePerson_42 rfl ?_
      refine jm_iconst F dX5_takePerson_43 kc_1 ?_
      exact jm_zret F dX5_takePerson_44 (Or.inr rfl) (fun h => h)
    · refine jm_iconst F dX5_takePerson_30 kc_0 ?_
      exact jm_zret F dX5_takePerson_31 (Or.inl rfl) (fun h => h)
  exact G r h hz
theorem dX6_longer_0 : jm_d cX6_longer 0 (.iload_n 2) 1 1 := ⟨by decide +kernel, rfl⟩
theorem dX6_longer_1 : jm_d cX6_longer 1 (.iconst 1) 1 2 := ⟨by decide +kernel, rfl⟩
theorem dX6_longer_2 : jm_d cX6_longer 2 (.iadd) 1 3 := ⟨by decide +kernel, rfl⟩
theorem dX6_longer_3 : jm_d cX6_longer 3 (.istore_n 3) 1 4 := ⟨by decide +kernel, rfl⟩
theorem dX6_longer_4 : jm_d cX6_longer 4 (.iload_n 1) 1 5 := ⟨by decide +kernel, rfl⟩
theorem dX6_longer_5 : jm_d cX6_longer 5 (.iconst 1) 1 6 := ⟨by decide +kernel, rfl⟩
theorem dX6_longer_6 : jm_d cX6_longer 6 (.iadd) 1 7 := ⟨by decide +kernel, rfl⟩
theorem dX6_longer_7 : jm_d cX6_longer 7 (.istore 4) 2 9 := ⟨by decide +kernel, rfl⟩
theorem dX6_longer_9 : jm_d cX6_longer 9 (.iload 4) 2 11 := ⟨by decide +kernel, rfl⟩
theorem dX6_longer_11 : jm_d cX6_longer 11 (.iconst 4) 1 12 := ⟨by decide +kernel, rfl⟩
theorem dX6_longer_12 : jm_b cX6_longer 12 (.if_icmp .ge) 15 26 := ⟨14, by decide +kernel, rfl, by decide⟩
theorem dX6_longer_15 : jm_d cX6_longer 15 (.iload_n 3) 1 16 := ⟨by decide +kernel, rfl⟩
theorem dX6_longer_16 : jm_d cX6_longer 16 (.bipush 27) 2 18 := ⟨by decide +kernel, rfl⟩
theorem dX6_longer_18 : jm_d cX6_longer 18 (.imul) 1 19 := ⟨by decide +kernel, rfl⟩
theorem dX6_longer_19 : jm_d cX6_longer 19 (.istore_n 3) 1 20 := ⟨by decide +kernel, rfl⟩
theorem dX6_longer_20 : jm_d cX6_longer 20 (.iinc 4 1) 3 23 := ⟨by decide +kernel, rfl⟩
theorem dX6_longer_23 : jm_b cX6_longer 23 .goto 26 9 := ⟨(-14), by decide +kernel, rfl, by decide⟩
theorem dX6_longer_26 : jm_d cX6_longer 26 (.iload_n 0) 1 27 := ⟨by decide +kernel, rfl⟩
theorem dX6_longer_27 : jm_d cX6_longer 27 (.iload_n 3) 1 28 := ⟨by decide +kernel, rfl⟩
theorem dX6_longer_28 : jm_d cX6_longer 28 (.iadd) 1 29 := ⟨by decide +kernel, rfl⟩
theorem dX6_longer_29 : jm_d cX6_longer 29 (.ireturn) 1 30 := ⟨by decide +kernel, rfl⟩
set_option maxHeartbeats 4000000 in
set_option maxRecDepth 100000 in
theorem kI_longer (E : jm_Ev) (hE : jm_dj E jm_LC) {p1 : Int32} {p2 : Int32} {p3 : Int32} {M : jm_M}  {r : Int32} (h : sI_longer p1 p2 p3 = some r) : jm_Ct E jm_LC yX6_longer cX6_longer 5 (some .int) 0 0 [.int p1, .int p2, .int p3] M (some (.int r)) M := by
  refine jm_enter (lv := [some (.int p1), some (.int p2), some (.int p3), none, none]) hE (by decide) (Nat.le_of_ble_eq_true rfl) rfl ?_
  intro z w F hz
  have G : jm_G w 0 [some (.int p1), some (.int p2), some (.int p3), none, none] [] M (sI_longer p1 p2 p3) (fun e => z (some (.int e)) M) := by
    unfold sI_longer
    refine jm_iload_n (i := 2) F dX6_longer_0 rfl rfl ?_
    refine jm_iconst F dX6_longer_1 kc_1 ?_
    refine jm_iadd F dX6_longer_2 ?_
    refine jm_nameI (f := fun x1 => [.int x1]) (fun x1 => ?_) rfl
    refine jm_istore_n (i := 3) (lv' := [some (.int p1), some (.int p2), some (.int p3), some (.int x1), none]) F dX6_longer_3 rfl (by decide) rfl rfl ?_
    refine jm_iload_n (i := 1) F dX6_longer_4 rfl rfl ?_
    refine jm_iconst F dX6_longer_5 kc_1 ?_
    refine jm_iadd F dX6_longer_6 ?_
    refine jm_nameI (f := fun x2 => [.int x2]) (fun x2 => ?_) rfl
    refine jm_istore (i := 4) (lv' := [some (.int p1), some (.int p2), some (.int p3), some (.int x1), some (.int x2)]) F dX6_longer_7 (by decide) rfl rfl ?_
    refine jm_bind (pcJ := 26) (lvJ := fun e6 => [some (.int p1), none, none, some (.int e6), none]) (stJ := fun _ => []) (MJ := fun e6 => M) ?_ (fun e6 => ?_)
    · refine jm_weak F (lv' := [some (.int p1), none, none, some (.int x1), some (.int x2)]) ⟨rfl, rfl, rfl, trivial⟩ ?_
      refine jm_loopR (lvH := fun s3 => [some (.int p1), none, none, some (.int s3.1), some (.int s3.2)]) (MH := fun s3 => M) (fun s3 => ?_) jm_N (x1, x2)
      unfold sI_longer_L9
      refine jm_iload F dX6_longer_9 rfl ?_
      refine jm_iconst F dX6_longer_11 kc_4 ?_
      refine jm_icmp_ge F dX6_longer_12 (fun c4 => ?_) (fun c4 => ?_)
      · exact jm_weakD F (lv' := [some (.int p1), none, none, some (.int s3.1), none]) ⟨rfl, rfl, trivial⟩ (fun h => h)
      · refine jm_iload_n (i := 3) F dX6_longer_15 rfl rfl ?_
        refine jm_bipush F dX6_longer_16 kb_27 ?_
        refine jm_imul F dX6_longer_18 ?_
        refine jm_nameI (f := fun x5 => [.int x5]) (fun x5 => ?_) rfl
        refine jm_istore_n (i := 3) (lv' := [some (.int p1), none, none, some (.int x5), some (.int s3.2)]) F dX6_longer_19 rfl (by decide) rfl rfl ?_
        refine jm_iinc (i := 4) (lv' := [some (.int p1), none, none, some (.int x5), some (.int (s3.2 + 1))]) F dX6_longer_20 kc_1 rfl (by decide) rfl rfl ?_
        refine jm_goto F dX6_longer_23 ?_
        exact jm_weakD F (lv' := [some (.int p1), none, none, some (.int x5), some (.int (s3.2 + 1))]) ⟨rfl, rfl, rfl, trivial⟩ (fun h => h)
    · refine jm_iload_n (i := 0) F dX6_longer_26 rfl rfl ?_
      refine jm_iload_n (i := 3) F dX6_longer_27 rfl rfl ?_
      refine jm_iadd F dX6_longer_28 ?_
      exact jm_iret F dX6_longer_29 (fun h => h)
  exact G r h hz
theorem dX5_takeTitle_0 : jm_d cX5_takeTitle 0 (.iconst 0) 1 1 := ⟨by decide +kernel, rfl⟩
theorem dX5_takeTitle_1 : jm_d cX5_takeTitle 1 (.istore_n 1) 1 2 := ⟨by decide +kernel, rfl⟩
theorem dX5_takeTitle_2 : jm_d cX5_takeTitle 2 (.iconst 0) 1 3 := ⟨by decide +kernel, rfl⟩
theorem dX5_takeTitle_3 : jm_d cX5_takeTitle 3 (.istore_n 2) 1 4 := ⟨by decide +kernel, rfl⟩
theorem dX5_takeTitle_4 : jm_d cX5_takeTitle 4 (.aload_n 0) 1 5 := ⟨by decide +kernel, rfl⟩
theorem dX5_takeTitle_5 : jm_d cX5_takeTitle 5 (.getfield 30) 3 8 := ⟨by decide +kernel, rfl⟩
theorem dX5_takeTitle_8 : jm_d cX5_takeTitle 8 (.aload_n 0) 1 9 := ⟨by decide +kernel, rfl⟩
theorem dX5_takeTitle_9 : jm_d cX5_takeTitle 9 (.getfield 22) 3 12 := ⟨by decide +kernel, rfl⟩
theorem dX5_takeTitle_12 : jm_b cX5_takeTitle 12 (.if_icmp .ge) 15 60 := ⟨48, by decide +kernel, rfl, by decide⟩
theorem dX5_takeTitle_15 : jm_d cX5_takeTitle 15 (.aload_n 0) 1 16 := ⟨by decide +kernel, rfl⟩
theorem dX5_takeTitle_16 : jm_d cX5_takeTitle 16 (.aload_n 0) 1 17 := ⟨by decide +kernel, rfl⟩
theorem dX5_takeTitle_17 : jm_d cX5_takeTitle 17 (.invokevirtual 37) 3 20 := ⟨by decide +kernel, rfl⟩
theorem dX5_takeTitle_20 : jm_d cX5_takeTitle 20 (.invokevirtual 66) 3 23 := ⟨by decide +kernel, rfl⟩
theorem dX5_takeTitle_23 : jm_b cX5_takeTitle 23 (.ifCond .eq) 26 60 := ⟨37, by decide +kernel, rfl, by decide⟩
theorem dX5_takeTitle_26 : jm_d cX5_takeTitle 26 (.iload_n 2) 1 27 := ⟨by decide +kernel, rfl⟩
theorem dX5_takeTitle_27 : jm_d cX5_takeTitle 27 (.iconst 4) 1 28 := ⟨by decide +kernel, rfl⟩
theorem dX5_takeTitle_28 : jm_b cX5_takeTitle 28 (.if_icmp .ge) 31 44 := ⟨16, by decide +kernel, rfl, by decide⟩
theorem dX5_takeTitle_31 : jm_d cX5_takeTitle 31 (.iload_n 1) 1 32 := ⟨by decide +kernel, rfl⟩
theorem dX5_takeTitle_32 : jm_d cX5_takeTitle 32 (.iload_n 2) 1 33 := ⟨by decide +kernel, rfl⟩
theorem dX5_takeTitle_33 : jm_d cX5_takeTitle 33 (.aload_n 0) 1 34 := ⟨by decide +kernel, rfl⟩
theorem dX5_takeTitle_34 : jm_d cX5_takeTitle 34 (.invokevirtual 37) 3 37 := ⟨by decide +kernel, rfl⟩
theorem dX5_takeTitle_37 : jm_d cX5_takeTitle 37 (.bipush 97) 2 39 := ⟨by decide +kernel, rfl⟩
theorem dX5_takeTitle_39 : jm_d cX5_takeTitle 39 (.isub) 1 40 := ⟨by decide +kernel, rfl⟩
theorem dX5_takeTitle_40 : jm_d cX5_takeTitle 40 (.invokestatic 146) 3 43 := ⟨by decide +kernel, rfl⟩
theorem dX5_takeTitle_43 : jm_d cX5_takeTitle 43 (.istore_n 1) 1 44 := ⟨by decide +kernel, rfl⟩
theorem dX5_takeTitle_44 : jm_d cX5_takeTitle 44 (.iinc 2 1) 3 47 := ⟨by decide +kernel, rfl⟩
theorem dX5_takeTitle_47 : jm_d cX5_takeTitle 47 (.aload_n 0) 1 48 := ⟨by decide +kernel, rfl⟩
theorem dX5_takeTitle_48 : jm_d cX5_takeTitle 48 (.dup) 1 49 := ⟨by decide +kernel, rfl⟩
theorem dX5_takeTitle_49 : jm_d cX5_takeTitle 49 (.getfield 30) 3 52 := ⟨by decide +kernel, rfl⟩
theorem dX5_takeTitle_52 : jm_d cX5_takeTitle 52 (.iconst 1) 1 53 := ⟨by decide +kernel, rfl⟩
theorem dX5_takeTitle_53 : jm_d cX5_takeTitle 53 (.iadd) 1 54 := ⟨by decide +kernel, rfl⟩
theorem dX5_takeTitle_54 : jm_d cX5_takeTitle 54 (.putfield 30) 3 57 := ⟨by decide +kernel, rfl⟩
theorem dX5_takeTitle_57 : jm_b cX5_takeTitle 57 .goto 60 4 := ⟨(-53), by decide +kernel, rfl, by decide⟩
theorem dX5_takeTitle_60 : jm_d cX5_takeTitle 60 (.iload_n 2) 1 61 := ⟨by decide +kernel, rfl⟩
theorem dX5_takeTitle_61 : jm_d cX5_takeTitle 61 (.iconst 4) 1 62 := ⟨by decide +kernel, rfl⟩
theorem dX5_takeTitle_62 : jm_b cX5_takeTitle 62 (.if_icmp .gt) 65 69 := ⟨7, by decide +kernel, rfl, by decide⟩
theorem dX5_takeTitle_69 : jm_d cX5_takeTitle 69 (.iconst (-1)) 1 70 := ⟨by decide +kernel, rfl⟩
theorem dX5_takeTitle_70 : jm_d cX5_takeTitle 70 (.ireturn) 1 71 := ⟨by decide +kernel, rfl⟩
theorem dX5_takeTitle_65 : jm_d cX5_takeTitle 65 (.iload_n 1) 1 66 := ⟨by decide +kernel, rfl⟩
theorem dX5_takeTitle_66 : jm_b cX5_takeTitle 66 .goto 69 70 := ⟨4, by decide +kernel, rfl, by decide⟩
set_option maxHeartbeats 4000000 in
set_option maxRecDepth 100000 in
theorem kS_takeTitle (E : jm_Ev) (hE : jm_dj E jm_LC) {M : jm_M}  {r : Int32 × jm_M} (h : sS_takeTitle M = some r) : jm_Ct E jm_LC yX5_takeTitle cX5_takeTitle 3 (some .int) 1 24 [.ref (jm_a E 14 0)] M (some (.int r.1)) r.2 := by
  refine jm_enter (lv := [some (.ref (jm_a E 14 0)), none, none]) hE (by decide) (Nat.le_of_ble_eq_true rfl) rfl ?_
  intro z w F hz
  have G : jm_G w 0 [some (.ref (jm_a E 14 0)), none, none] [] M (sS_takeTitle M) (fun e => z (some (.int e.1)) e.2) := by
    unfold sS_takeTitle
    refine jm_iconst F dX5_takeTitle_0 kc_0 ?_
    refine jm_istore_n (i := 1) (lv' := [some (.ref (jm_a E 14 0)), some (.int 0), none]) F dX5_takeTitle_1 rfl (by decide) rfl rfl ?_
    refine jm_iconst F dX5_takeTitle_2 kc_0 ?_
    refine jm_istore_n (i := 2) (lv' := [some (.ref (jm_a E 14 0)), some (.int 0), some (.int 0)]) F dX5_takeTitle_3 rfl (by decide) rfl rfl ?_
    refine jm_bind (pcJ := 60) (lvJ := fun e11 => [none, some (.int e11.1), some (.int e11.2.1)]) (stJ := fun _ => []) (MJ := fun e11 => e11.2.2) ?_ (fun e11 => ?_)
    · refine jm_weak F (lv' := [some (.ref (jm_a E 14 0)), some (.int 0), some (.int 0)]) ⟨rfl, rfl, rfl, trivial⟩ ?_
      refine jm_loopR (lvH := fun s1 => [some (.ref (jm_a E 14 0)), some (.int s1.1), some (.int s1.2.1)]) (MH := fun s1 => s1.2.2) (fun s1 => ?_) jm_N (0, 0, M)
      unfold sS_takeTitle_L4
      refine jm_aload_n (i := 0) F dX5_takeTitle_4 rfl rfl ?_
      refine jm_getI F dX5_takeTitle_5 fl_X5_30 lo_X5 rfl ?_
      refine jm_aload_n (i := 0) F dX5_takeTitle_8 rfl rfl ?_
      refine jm_getI F dX5_takeTitle_9 fl_X5_22 lo_X5 rfl ?_
      refine jm_icmp_ge F dX5_takeTitle_12 (fun c2 => ?_) (fun c2 => ?_)
      · exact jm_weakD F (lv' := [none, some (.int s1.1), some (.int s1.2.1)]) ⟨rfl, rfl, trivial⟩ (fun h => h)
      · refine jm_aload_n (i := 0) F dX5_takeTitle_15 rfl rfl ?_
        refine jm_aload_n (i := 0) F dX5_takeTitle_16 rfl rfl ?_
        refine jm_callV (As := []) (st := [.ref (jm_a E 14 0)]) (rv := fun r => some (.int r)) (mm := fun _ => s1.2.2) F dX5_takeTitle_17 qX5_37 rfl lo_X5 rfl (fun r h => kS_here E hE h) rfl (Nat.le_of_ble_eq_true rfl) ⟨Nat.le_of_ble_eq_true rfl, Nat.le_of_ble_eq_true rfl⟩ (fun r3 => ?_)
        refine jm_callV (As := [.int r3]) (st := []) (rv := fun r => some (.int r)) (mm := fun _ => s1.2.2) F dX5_takeTitle_20 qX5_66 rfl lo_X5 rfl (fun r h => kS_isTitleLetter E hE h) rfl (Nat.le_of_ble_eq_true rfl) ⟨Nat.le_of_ble_eq_true rfl, Nat.le_of_ble_eq_true rfl⟩ (fun r4 => ?_)
        refine jm_if_eq F dX5_takeTitle_23 (fun c5 => ?_) (fun c5 => ?_)
        · exact jm_weakD F (lv' := [none, some (.int s1.1), some (.int s1.2.1)]) ⟨rfl, rfl, trivial⟩ (fun h => h)
        · refine jm_iload_n (i := 2) F dX5_takeTitle_26 rfl rfl ?_
          refine jm_iconst F dX5_takeTitle_27 kc_4 ?_
          refine jm_bind (pcJ := 44) (lvJ := fun e6 => [some (.ref (jm_a E 14 0)), some (.int e6), some (.int s1.2.1)]) (stJ := fun e6 => []) (MJ := fun e6 => s1.2.2) ?_ (fun e6 => ?_)
          · refine jm_icmp_ge F dX5_takeTitle_28 (fun c7 => ?_) (fun c7 => ?_)
            · exact jm_weakD F (lv' := [some (.ref (jm_a E 14 0)), some (.int s1.1), some (.int s1.2.1)]) ⟨rfl, rfl, rfl, trivial⟩ (fun h => h)
            · refine jm_iload_n (i := 1) F dX5_takeTitle_31 rfl rfl ?_
              refine jm_iload_n (i := 2) F dX5_takeTitle_32 rfl rfl ?_
              refine jm_aload_n (i := 0) F dX5_takeTitle_33 rfl rfl ?_
              refine jm_callV (As := []) (st := [.int s1.2.1, .int s1.1]) (rv := fun r => some (.int r)) (mm := fun _ => s1.2.2) F dX5_takeTitle_34 qX5_37 rfl lo_X5 rfl (fun r h => kS_here E hE h) rfl (Nat.le_of_ble_eq_true rfl) ⟨Nat.le_of_ble_eq_true rfl, Nat.le_of_ble_eq_true rfl⟩ (fun r8 => ?_)
              refine jm_bipush F dX5_takeTitle_37 kb_97 ?_
              refine jm_isub F dX5_takeTitle_39 ?_
              refine jm_callS (As := [.int s1.1, .int s1.2.1, .int (r8 - 97)]) (st := []) (rv := fun r => some (.int r)) (mm := fun _ => s1.2.2) F dX5_takeTitle_40 qX5_146 rfl (fun r h => kI_longer E hE h) rfl (Nat.le_of_ble_eq_true rfl) ⟨Nat.le_of_ble_eq_true rfl, Nat.le_of_ble_eq_true rfl⟩ (fun r9 => ?_)
              refine jm_istore_n (i := 1) (lv' := [some (.ref (jm_a E 14 0)), some (.int r9), some (.int s1.2.1)]) F dX5_takeTitle_43 rfl (by decide) rfl rfl ?_
              exact jm_weakD F (lv' := [some (.ref (jm_a E 14 0)), some (.int r9), some (.int s1.2.1)]) ⟨rfl, rfl, rfl, trivial⟩ (fun h => h)
          · refine jm_iinc (i := 2) (lv' := [some (.ref (jm_a E 14 0)), some (.int e6), some (.int (s1.2.1 + 1))]) F dX5_takeTitle_44 kc_1 rfl (by decide) rfl rfl ?_
            refine jm_aload_n (i := 0) F dX5_takeTitle_47 rfl rfl ?_
            refine jm_dup F dX5_takeTitle_48 rfl ?_
            refine jm_getI F dX5_takeTitle_49 fl_X5_30 lo_X5 rfl ?_
            refine jm_iconst F dX5_takeTitle_52 kc_1 ?_
            refine jm_iadd F dX5_takeTitle_53 ?_
            refine jm_putI F dX5_takeTitle_54 fp_X5_30 lo_X5 rfl (fun M10 => ?_)
            refine jm_goto F dX5_takeTitle_57 ?_
            exact jm_weakD F (lv' := [some (.ref (jm_a E 14 0)), some (.int e6), some (.int (s1.2.1 + 1))]) ⟨rfl, rfl, rfl, trivial⟩ (fun h => h)
    · refine jm_iload_n (i := 2) F dX5_takeTitle_60 rfl rfl ?_
      refine jm_iconst F dX5_takeTitle_61 kc_4 ?_
      refine jm_icmp_gt F dX5_takeTitle_62 (fun c12 => ?_) (fun c12 => ?_)
      · refine jm_iconst F dX5_takeTitle_69 kc_m1 ?_
        exact jm_iret F dX5_takeTitle_70 (fun h => h)
      · refine jm_iload_n (i := 1) F dX5_takeTitle_65 rfl rfl ?_
        refine jm_goto F dX5_takeTitle_66 ?_
        exact jm_iret F dX5_takeTitle_70 (fun h => h)
  exact G r h hz
theorem dX7_hasPerson_0 : jm_d cX7_hasPerson 0 (.iload_n 1) 1 1 := ⟨by decide +kernel, rfl⟩
theorem dX7_hasPerson_1 : jm_b cX7_hasPerson 1 (.ifCond .lt) 4 16 := ⟨15, by decide +kernel, rfl, by decide⟩
theorem dX7_hasPerson_16 : jm_d cX7_hasPerson 16 (.iconst 0) 1 17 := ⟨by decide +kernel, rfl⟩
theorem dX7_hasPerson_17 : jm_d cX7_hasPerson 17 (.ireturn) 1 18 := ⟨by decide +kernel, rfl⟩
theorem dX7_hasPerson_4 : jm_d cX7_hasPerson 4 (.iload_n 1) 1 5 := ⟨by decide +kernel, rfl⟩
theorem dX7_hasPerson_5 : jm_d cX7_hasPerson 5 (.aload_n 0) 1 6 := ⟨by decide +kernel, rfl⟩
theorem dX7_hasPerson_6 : jm_d cX7_hasPerson 6 (.getfield 45) 3 9 := ⟨by decide +kernel, rfl⟩
theorem dX7_hasPerson_9 : jm_b cX7_hasPerson 9 (.if_icmp .ge) 12 16 := ⟨7, by decide +kernel, rfl, by decide⟩
theorem dX7_hasPerson_12 : jm_d cX7_hasPerson 12 (.iconst 1) 1 13 := ⟨by decide +kernel, rfl⟩
theorem dX7_hasPerson_13 : jm_b cX7_hasPerson 13 .goto 16 17 := ⟨4, by decide +kernel, rfl, by decide⟩
set_option maxHeartbeats 4000000 in
set_option maxRecDepth 100000 in
theorem kT_hasPerson (E : jm_Ev) (hE : jm_dj E jm_LC) {M : jm_M} {t : Nat} {p1 : Int32} (ht : jm_isT t) {r : Int32} (h : sT_hasPerson M t p1 = some r) : jm_Ct E jm_LC yX7_hasPerson cX7_hasPerson 2 (some .boolean) 0 0 [.ref (jm_a E t 0), .int p1] M (some (.int r)) M := by
  refine jm_enter (lv := [some (.ref (jm_a E t 0)), some (.int p1)]) hE (by decide) (Nat.le_of_ble_eq_true rfl) rfl ?_
  intro z w F hz
  have G : jm_G w 0 [some (.ref (jm_a E t 0)), some (.int p1)] [] M (sT_hasPerson M t p1) (fun e => z (some (.int e)) M) := by
    unfold sT_hasPerson
    refine jm_iload_n (i := 1) F dX7_hasPerson_0 rfl rfl ?_
    refine jm_if_lt F dX7_hasPerson_1 (fun c1 => ?_) (fun c1 => ?_)
    · refine jm_iconst F dX7_hasPerson_16 kc_0 ?_
      exact jm_zret F dX7_hasPerson_17 (Or.inl rfl) (fun h => h)
    · refine jm_iload_n (i := 1) F dX7_hasPerson_4 rfl rfl ?_
      refine jm_aload_n (i := 0) F dX7_hasPerson_5 rfl rfl ?_
      refine jm_getI F dX7_hasPerson_6 fl_X7_45 (lo_T ht) rfl ?_
      refine jm_icmp_ge F dX7_hasPerson_9 (fun c2 => ?_) (fun c2 => ?_)
      · refine jm_iconst F dX7_hasPerson_16 kc_0 ?_
        exact jm_zret F dX7_hasPerson_17 (Or.inl rfl) (fun h => h)
      · refine jm_iconst F dX7_hasPerson_12 kc_1 ?_
        refine jm_goto F dX7_hasPerson_13 ?_
        exact jm_zret F dX7_hasPerson_17 (Or.inr rfl) (fun h => h)
  exact G r h hz
theorem dX7_hasKeeper_0 : jm_d cX7_hasKeeper 0 (.iload_n 1) 1 1 := ⟨by decide +kernel, rfl⟩
theorem dX7_hasKeeper_1 : jm_d cX7_hasKeeper 1 (.bipush 9) 2 3 := ⟨by decide +kernel, rfl⟩
theorem dX7_hasKeeper_3 : jm_b cX7_hasKeeper 3 (.if_icmp .eq) 6 14 := ⟨11, by decide +kernel, rfl, by decide⟩
theorem dX7_hasKeeper_14 : jm_d cX7_hasKeeper 14 (.iconst 1) 1 15 := ⟨by decide +kernel, rfl⟩
theorem dX7_hasKeeper_15 : jm_b cX7_hasKeeper 15 .goto 18 19 := ⟨4, by decide +kernel, rfl, by decide⟩
theorem dX7_hasKeeper_19 : jm_d cX7_hasKeeper 19 (.ireturn) 1 20 := ⟨by decide +kernel, rfl⟩
theorem dX7_hasKeeper_6 : jm_d cX7_hasKeeper 6 (.aload_n 0) 1 7 := ⟨by decide +kernel, rfl⟩
theorem dX7_hasKeeper_7 : jm_d cX7_hasKeeper 7 (.iload_n 1) 1 8 := ⟨by decide +kernel, rfl⟩
theorem dX7_hasKeeper_8 : jm_d cX7_hasKeeper 8 (.invokevirtual 64) 3 11 := ⟨by decide +kernel, rfl⟩
theorem dX7_hasKeeper_11 : jm_b cX7_hasKeeper 11 (.ifCond .eq) 14 18 := ⟨7, by decide +kernel, rfl, by decide⟩
theorem dX7_hasKeeper_18 : jm_d cX7_hasKeeper 18 (.iconst 0) 1 19 := ⟨by decide +kernel, rfl⟩
set_option maxHeartbeats 4000000 in
set_option maxRecDepth 100000 in
theorem kT_hasKeeper (E : jm_Ev) (hE : jm_dj E jm_LC) {M : jm_M} {t : Nat} {p1 : Int32} (ht : jm_isT t) {r : Int32} (h : sT_hasKeeper M t p1 = some r) : jm_Ct E jm_LC yX7_hasKeeper cX7_hasKeeper 2 (some .boolean) 1 21 [.ref (jm_a E t 0), .int p1] M (some (.int r)) M := by
  refine jm_enter (lv := [some (.ref (jm_a E t 0)), some (.int p1)]) hE (by decide) (Nat.le_of_ble_eq_true rfl) rfl ?_
  intro z w F hz
  have G : jm_G w 0 [some (.ref (jm_a E t 0)), some (.int p1)] [] M (sT_hasKeeper M t p1) (fun e => z (some (.int e)) M) := by
    unfold sT_hasKeeper
    refine jm_iload_n (i := 1) F dX7_hasKeeper_0 rfl rfl ?_
    refine jm_bipush F dX7_hasKeeper_1 kb_9 ?_
    refine jm_icmp_eq F dX7_hasKeeper_3 (fun c1 => ?_) (fun c1 => ?_)
    · refine jm_iconst F dX7_hasKeeper_14 kc_1 ?_
      refine jm_goto F dX7_hasKeeper_15 ?_
      exact jm_zret F dX7_hasKeeper_19 (Or.inr rfl) (fun h => h)
    · refine jm_aload_n (i := 0) F dX7_hasKeeper_6 rfl rfl ?_
      refine jm_iload_n (i := 1) F dX7_hasKeeper_7 rfl rfl ?_
      refine jm_callV (As := [.int p1]) (st := []) (rv := fun r => some (.int r)) (mm := fun _ => M) F dX7_hasKeeper_8 qX7_64 rfl (lo_T ht) rfl (fun r h => kT_hasPerson E hE ht h) rfl (Nat.le_of_ble_eq_true rfl) ⟨Nat.le_of_ble_eq_true rfl, Nat.le_of_ble_eq_true rfl⟩ (fun r2 => ?_)
      refine jm_if_eq F dX7_hasKeeper_11 (fun c3 => ?_) (fun c3 => ?_)
      · refine jm_iconst F dX7_hasKeeper_18 kc_0 ?_
        exact jm_zret F dX7_hasKeeper_19 (Or.inl rfl) (fun h => h)
      · refine jm_iconst F dX7_hasKeeper_14 kc_1 ?_
        refine jm_goto F dX7_hasKeeper_15 ?_
        exact jm_zret F dX7_hasKeeper_19 (Or.inr rfl) (fun h => h)
  exact G r h hz
theorem dX7_bookWithTitle_0 : jm_d cX7_bookWithTitle 0 (.iconst 0) 1 1 := ⟨by decide +kernel, rfl⟩
theorem dX7_bookWithTitle_1 : jm_d cX7_bookWithTitle 1 (.istore_n 2) 1 2 := ⟨by decide +kernel, rfl⟩
theorem dX7_bookWithTitle_2 : jm_d cX7_bookWithTitle 2 (.iload_n 2) 1 3 := ⟨by decide +kernel, rfl⟩
theorem dX7_bookWithTitle_3 : jm_d cX7_bookWithTitle 3 (.aload_n 0) 1 4 := ⟨by decide +kernel, rfl⟩
theorem dX7_bookWithTitle_4 : jm_d cX7_bookWithTitle 4 (.getfield 55) 3 7 := ⟨by decide +kernel, rfl⟩
theorem dX7_bookWithTitle_7 : jm_b cX7_bookWithTitle 7 (.if_icmp .ge) 10 28 := ⟨21, by decide +kernel, rfl, by decide⟩
theorem dX7_bookWithTitle_10 : jm_d cX7_bookWithTitle 10 (.aload_n 0) 1 11 := ⟨by decide +kernel, rfl⟩
theorem dX7_bookWithTitle_11 : jm_d cX7_bookWithTitle 11 (.getfield 36) 3 14 := ⟨by decide +kernel, rfl⟩
theorem dX7_bookWithTitle_14 : jm_d cX7_bookWithTitle 14 (.iload_n 2) 1 15 := ⟨by decide +kernel, rfl⟩
theorem dX7_bookWithTitle_15 : jm_d cX7_bookWithTitle 15 (.iaload) 1 16 := ⟨by decide +kernel, rfl⟩
theorem dX7_bookWithTitle_16 : jm_d cX7_bookWithTitle 16 (.iload_n 1) 1 17 := ⟨by decide +kernel, rfl⟩
theorem dX7_bookWithTitle_17 : jm_b cX7_bookWithTitle 17 (.if_icmp .ne) 20 22 := ⟨5, by decide +kernel, rfl, by decide⟩
theorem dX7_bookWithTitle_20 : jm_d cX7_bookWithTitle 20 (.iload_n 2) 1 21 := ⟨by decide +kernel, rfl⟩
theorem dX7_bookWithTitle_21 : jm_d cX7_bookWithTitle 21 (.ireturn) 1 22 := ⟨by decide +kernel, rfl⟩
theorem dX7_bookWithTitle_22 : jm_d cX7_bookWithTitle 22 (.iinc 2 1) 3 25 := ⟨by decide +kernel, rfl⟩
theorem dX7_bookWithTitle_25 : jm_b cX7_bookWithTitle 25 .goto 28 2 := ⟨(-23), by decide +kernel, rfl, by decide⟩
theorem dX7_bookWithTitle_28 : jm_d cX7_bookWithTitle 28 (.bipush (-9)) 2 30 := ⟨by decide +kernel, rfl⟩
theorem dX7_bookWithTitle_30 : jm_d cX7_bookWithTitle 30 (.ireturn) 1 31 := ⟨by decide +kernel, rfl⟩
set_option maxHeartbeats 4000000 in
set_option maxRecDepth 100000 in
theorem kT_bookWithTitle (E : jm_Ev) (hE : jm_dj E jm_LC) {M : jm_M} {t : Nat} {p1 : Int32} (ht : jm_isT t) {r : Int32} (h : sT_bookWithTitle M t p1 = some r) : jm_Ct E jm_LC yX7_bookWithTitle cX7_bookWithTitle 3 (some .int) 0 0 [.ref (jm_a E t 0), .int p1] M (some (.int r)) M := by
  refine jm_enter (lv := [some (.ref (jm_a E t 0)), some (.int p1), none]) hE (by decide) (Nat.le_of_ble_eq_true rfl) rfl ?_
  intro z w F hz
  have G : jm_G w 0 [some (.ref (jm_a E t 0)), some (.int p1), none] [] M (sT_bookWithTitle M t p1) (fun e => z (some (.int e)) M) := by
    unfold sT_bookWithTitle
    refine jm_iconst F dX7_bookWithTitle_0 kc_0 ?_
    refine jm_istore_n (i := 2) (lv' := [some (.ref (jm_a E t 0)), some (.int p1), some (.int 0)]) F dX7_bookWithTitle_1 rfl (by decide) rfl rfl ?_
    refine jm_bindS (pcJ := 28) (lvJ := fun e5 => [none, none, none]) (stJ := fun _ => []) (MJ := fun e5 => M) ?_ (fun e5 => ?_)
    · refine jm_weak F (lv' := [some (.ref (jm_a E t 0)), some (.int p1), some (.int 0)]) ⟨rfl, rfl, rfl, trivial⟩ ?_
      refine jm_loopR (lvH := fun s1 => [some (.ref (jm_a E t 0)), some (.int p1), some (.int s1)]) (MH := fun s1 => M) (fun s1 => ?_) jm_N 0
      unfold sT_bookWithTitle_L2
      refine jm_iload_n (i := 2) F dX7_bookWithTitle_2 rfl rfl ?_
      refine jm_aload_n (i := 0) F dX7_bookWithTitle_3 rfl rfl ?_
      refine jm_getI F dX7_bookWithTitle_4 fl_X7_55 (lo_T ht) rfl ?_
      refine jm_icmp_ge F dX7_bookWithTitle_7 (fun c2 => ?_) (fun c2 => ?_)
      · exact jm_weakD F (lv' := [none, none, none]) trivial (fun h => h)
      · refine jm_aload_n (i := 0) F dX7_bookWithTitle_10 rfl rfl ?_
        refine jm_getR F dX7_bookWithTitle_11 fl_X7_36 (lo_T ht) rfl ?_
        refine jm_iload_n (i := 2) F dX7_bookWithTitle_14 rfl rfl ?_
        refine jm_iald F dX7_bookWithTitle_15 (la_T_11 ht) (fun v3 => ?_)
        refine jm_iload_n (i := 1) F dX7_bookWithTitle_16 rfl rfl ?_
        refine jm_icmp_ne F dX7_bookWithTitle_17 (fun c4 => ?_) (fun c4 => ?_)
        · refine jm_iload_n (i := 2) F dX7_bookWithTitle_20 rfl rfl ?_
          exact jm_iret F dX7_bookWithTitle_21 (fun h => h)
        · refine jm_iinc (i := 2) (lv' := [some (.ref (jm_a E t 0)), some (.int p1), some (.int (s1 + 1))]) F dX7_bookWithTitle_22 kc_1 rfl (by decide) rfl rfl ?_
          refine jm_goto F dX7_bookWithTitle_25 ?_
          exact jm_weakD F (lv' := [some (.ref (jm_a E t 0)), some (.int p1), some (.int (s1 + 1))]) ⟨rfl, rfl, rfl, trivial⟩ (fun h => h)
    · refine jm_bipush F dX7_bookWithTitle_28 kb_m9 ?_
      exact jm_iret F dX7_bookWithTitle_30 (fun h => h)
  exact G r h hz
theorem dX7_addBook_0 : jm_d cX7_addBook 0 (.aload_n 0) 1 1 := ⟨by decide +kernel, rfl⟩
theorem dX7_addBook_1 : jm_d cX7_addBook 1 (.getfield 55) 3 4 := ⟨by decide +kernel, rfl⟩
theorem dX7_addBook_4 : jm_d cX7_addBook 4 (.istore 5) 2 6 := ⟨by decide +kernel, rfl⟩
theorem dX7_addBook_6 : jm_d cX7_addBook 6 (.iload 5) 2 8 := ⟨by decide +kernel, rfl⟩
theorem dX7_addBook_8 : jm_d cX7_addBook 8 (.bipush 10) 2 10 := ⟨by decide +kernel, rfl⟩
theorem dX7_addBook_10 : jm_b cX7_addBook 10 (.if_icmp .ge) 13 72 := ⟨62, by decide +kernel, rfl, by decide⟩
theorem dX7_addBook_72 : jm_d cX7_addBook 72 (.iload 5) 2 74 := ⟨by decide +kernel, rfl⟩
theorem dX7_addBook_74 : jm_d cX7_addBook 74 (.ireturn) 1 75 := ⟨by decide +kernel, rfl⟩
theorem dX7_addBook_13 : jm_d cX7_addBook 13 (.aload_n 0) 1 14 := ⟨by decide +kernel, rfl⟩
theorem dX7_addBook_14 : jm_d cX7_addBook 14 (.getfield 21) 3 17 := ⟨by decide +kernel, rfl⟩
theorem dX7_addBook_17 : jm_d cX7_addBook 17 (.iload 5) 2 19 := ⟨by decide +kernel, rfl⟩
theorem dX7_addBook_19 : jm_d cX7_addBook 19 (.iload_n 1) 1 20 := ⟨by decide +kernel, rfl⟩
theorem dX7_addBook_20 : jm_d cX7_addBook 20 (.iastore) 1 21 := ⟨by decide +kernel, rfl⟩
theorem dX7_addBook_21 : jm_d cX7_addBook 21 (.aload_n 0) 1 22 := ⟨by decide +kernel, rfl⟩
theorem dX7_addBook_22 : jm_d cX7_addBook 22 (.getfield 24) 3 25 := ⟨by decide +kernel, rfl⟩
theorem dX7_addBook_25 : jm_d cX7_addBook 25 (.iload 5) 2 27 := ⟨by decide +kernel, rfl⟩
theorem dX7_addBook_27 : jm_d cX7_addBook 27 (.iload_n 2) 1 28 := ⟨by decide +kernel, rfl⟩
theorem dX7_addBook_28 : jm_d cX7_addBook 28 (.iastore) 1 29 := ⟨by decide +kernel, rfl⟩
theorem dX7_addBook_29 : jm_d cX7_addBook 29 (.aload_n 0) 1 30 := ⟨by decide +kernel, rfl⟩
theorem dX7_addBook_30 : jm_d cX7_addBook 30 (.getfield 27) 3 33 := ⟨by decide +kernel, rfl⟩
theorem dX7_addBook_33 : jm_d cX7_addBook 33 (.iload 5) 2 35 := ⟨by decide +kernel, rfl⟩
theorem dX7_addBook_35 : jm_d cX7_addBook 35 (.iload_n 3) 1 36 := ⟨by decide +kernel, rfl⟩
theorem dX7_addBook_36 : jm_d cX7_addBook 36 (.iastore) 1 37 := ⟨by decide +kernel, rfl⟩
theorem dX7_addBook_37 : jm_d cX7_addBook 37 (.aload_n 0) 1 38 := ⟨by decide +kernel, rfl⟩
theorem dX7_addBook_38 : jm_d cX7_addBook 38 (.getfield 30) 3 41 := ⟨by decide +kernel, rfl⟩
theorem dX7_addBook_41 : jm_d cX7_addBook 41 (.iload 5) 2 43 := ⟨by decide +kernel, rfl⟩
theorem dX7_addBook_43 : jm_d cX7_addBook 43 (.iload_n 3) 1 44 := ⟨by decide +kernel, rfl⟩
theorem dX7_addBook_44 : jm_d cX7_addBook 44 (.iastore) 1 45 := ⟨by decide +kernel, rfl⟩
theorem dX7_addBook_45 : jm_d cX7_addBook 45 (.aload_n 0) 1 46 := ⟨by decide +kernel, rfl⟩
theorem dX7_addBook_46 : jm_d cX7_addBook 46 (.getfield 33) 3 49 := ⟨by decide +kernel, rfl⟩
theorem dX7_addBook_49 : jm_d cX7_addBook 49 (.iload 5) 2 51 := ⟨by decide +kernel, rfl⟩
theorem dX7_addBook_51 : jm_d cX7_addBook 51 (.iconst 0) 1 52 := ⟨by decide +kernel, rfl⟩
theorem dX7_addBook_52 : jm_d cX7_addBook 52 (.iastore) 1 53 := ⟨by decide +kernel, rfl⟩
theorem dX7_addBook_53 : jm_d cX7_addBook 53 (.aload_n 0) 1 54 := ⟨by decide +kernel, rfl⟩
theorem dX7_addBook_54 : jm_d cX7_addBook 54 (.getfield 36) 3 57 := ⟨by decide +kernel, rfl⟩
theorem dX7_addBook_57 : jm_d cX7_addBook 57 (.iload 5) 2 59 := ⟨by decide +kernel, rfl⟩
theorem dX7_addBook_59 : jm_d cX7_addBook 59 (.iload 4) 2 61 := ⟨by decide +kernel, rfl⟩
theorem dX7_addBook_61 : jm_d cX7_addBook 61 (.iastore) 1 62 := ⟨by decide +kernel, rfl⟩
theorem dX7_addBook_62 : jm_d cX7_addBook 62 (.aload_n 0) 1 63 := ⟨by decide +kernel, rfl⟩
theorem dX7_addBook_63 : jm_d cX7_addBook 63 (.dup) 1 64 := ⟨by decide +kernel, rfl⟩
theorem dX7_addBook_64 : jm_d cX7_addBook 64 (.getfield 55) 3 67 := ⟨by decide +kernel, rfl⟩
theorem dX7_addBook_67 : jm_d cX7_addBook 67 (.iconst 1) 1 68 := ⟨by decide +kernel, rfl⟩
theorem dX7_addBook_68 : jm_d cX7_addBook 68 (.iadd) 1 69 := ⟨by decide +kernel, rfl⟩
theorem dX7_addBook_69 : jm_d cX7_addBook 69 (.putfield 55) 3 72 := ⟨by decide +kernel, rfl⟩
set_option maxHeartbeats 4000000 in
set_option maxRecDepth 100000 in
theorem kT_addBook (E : jm_Ev) (hE : jm_dj E jm_LC) {M : jm_M} {t : Nat} {p1 : Int32} {p2 : Int32} {p3 : Int32} {p4 : Int32} (ht : jm_isT t) {r : Int32 × jm_M} (h : sT_addBook M t p1 p2 p3 p4 = some r) : jm_Ct E jm_LC yX7_addBook cX7_addBook 6 (some .int) 0 0 [.ref (jm_a E t 0), .int p1, .int p2, .int p3, .int p4] M (some (.int r.1)) r.2 := by
  refine jm_enter (lv := [some (.ref (jm_a E t 0)), some (.int p1), some (.int p2), some (.int p3), some (.int p4), none]) hE (by decide) (Nat.le_of_ble_eq_true rfl) rfl ?_
  intro z w F hz
  have G : jm_G w 0 [some (.ref (jm_a E t 0)), some (.int p1), some (.int p2), some (.int p3), some (.int p4), none] [] M (sT_addBook M t p1 p2 p3 p4) (fun e => z (some (.int e.1)) e.2) := by
    unfold sT_addBook
    refine jm_aload_n (i := 0) F dX7_addBook_0 rfl rfl ?_
    refine jm_getI F dX7_addBook_1 fl_X7_55 (lo_T ht) rfl ?_
    refine jm_nameI (f := fun x1 => [.int x1]) (fun x1 => ?_) rfl
    refine jm_istore (i := 5) (lv' := [some (.ref (jm_a E t 0)), some (.int p1), some (.int p2), some (.int p3), some (.int p4), some (.int x1)]) F dX7_addBook_4 (by decide) rfl rfl ?_
    refine jm_iload F dX7_addBook_6 rfl ?_
    refine jm_bipush F dX7_addBook_8 kb_10 ?_
    refine jm_icmp_ge F dX7_addBook_10 (fun c2 => ?_) (fun c2 => ?_)
    · refine jm_iload F dX7_addBook_72 rfl ?_
      exact jm_iret F dX7_addBook_74 (fun h => h)
    · refine jm_aload_n (i := 0) F dX7_addBook_13 rfl rfl ?_
      refine jm_getR F dX7_addBook_14 fl_X7_21 (lo_T ht) rfl ?_
      refine jm_iload F dX7_addBook_17 rfl ?_
      refine jm_iload_n (i := 1) F dX7_addBook_19 rfl rfl ?_
      refine jm_iast F dX7_addBook_20 (la_T_6 ht) (fun M3 => ?_)
      refine jm_aload_n (i := 0) F dX7_addBook_21 rfl rfl ?_
      refine jm_getR F dX7_addBook_22 fl_X7_24 (lo_T ht) rfl ?_
      refine jm_iload F dX7_addBook_25 rfl ?_
      refine jm_iload_n (i := 2) F dX7_addBook_27 rfl rfl ?_
      refine jm_iast F dX7_addBook_28 (la_T_7 ht) (fun M4 => ?_)
      refine jm_aload_n (i := 0) F dX7_addBook_29 rfl rfl ?_
      refine jm_getR F dX7_addBook_30 fl_X7_27 (lo_T ht) rfl ?_
      refine jm_iload F dX7_addBook_33 rfl ?_
      refine jm_iload_n (i := 3) F dX7_addBook_35 rfl rfl ?_
      refine jm_iast F dX7_addBook_36 (la_T_8 ht) (fun M5 => ?_)
      refine jm_aload_n (i := 0) F dX7_addBook_37 rfl rfl ?_
      refine jm_getR F dX7_addBook_38 fl_X7_30 (lo_T ht) rfl ?_
      refine jm_iload F dX7_addBook_41 rfl ?_
      refine jm_iload_n (i := 3) F dX7_addBook_43 rfl rfl ?_
      refine jm_iast F dX7_addBook_44 (la_T_9 ht) (fun M6 => ?_)
      refine jm_aload_n (i := 0) F dX7_addBook_45 rfl rfl ?_
      refine jm_getR F dX7_addBook_46 fl_X7_33 (lo_T ht) rfl ?_
      refine jm_iload F dX7_addBook_49 rfl ?_
      refine jm_iconst F dX7_addBook_51 kc_0 ?_
      refine jm_iast F dX7_addBook_52 (la_T_10 ht) (fun M7 => ?_)
      refine jm_aload_n (i := 0) F dX7_addBook_53 rfl rfl ?_
      refine jm_getR F dX7_addBook_54 fl_X7_36 (lo_T ht) rfl ?_
      refine jm_iload F dX7_addBook_57 rfl ?_
      refine jm_iload F dX7_addBook_59 rfl ?_
      refine jm_iast F dX7_addBook_61 (la_T_11 ht) (fun M8 => ?_)
      refine jm_aload_n (i := 0) F dX7_addBook_62 rfl rfl ?_
      refine jm_dup F dX7_addBook_63 rfl ?_
      refine jm_getI F dX7_addBook_64 fl_X7_55 (lo_T ht) rfl ?_
      refine jm_iconst F dX7_addBook_67 kc_1 ?_
      refine jm_iadd F dX7_addBook_68 ?_
      refine jm_putI F dX7_addBook_69 fp_X7_55 (lo_T ht) rfl (fun M9 => ?_)
      refine jm_iload F dX7_addBook_72 rfl ?_
      exact jm_iret F dX7_addBook_74 (fun h => h)
  exact G r h hz
theorem dX5_takeBook_0 : jm_d cX5_takeBook 0 (.aload_n 0) 1 1 := ⟨by decide +kernel, rfl⟩
theorem dX5_takeBook_1 : jm_d cX5_takeBook 1 (.iconst 1) 1 2 := ⟨by decide +kernel, rfl⟩
theorem dX5_takeBook_2 : jm_d cX5_takeBook 2 (.invokevirtual 91) 3 5 := ⟨by decide +kernel, rfl⟩
theorem dX5_takeBook_5 : jm_d cX5_takeBook 5 (.istore_n 1) 1 6 := ⟨by decide +kernel, rfl⟩
theorem dX5_takeBook_6 : jm_d cX5_takeBook 6 (.aload_n 0) 1 7 := ⟨by decide +kernel, rfl⟩
theorem dX5_takeBook_7 : jm_d cX5_takeBook 7 (.iconst 1) 1 8 := ⟨by decide +kernel, rfl⟩
theorem dX5_takeBook_8 : jm_d cX5_takeBook 8 (.invokevirtual 91) 3 11 := ⟨by decide +kernel, rfl⟩
theorem dX5_takeBook_11 : jm_d cX5_takeBook 11 (.istore_n 2) 1 12 := ⟨by decide +kernel, rfl⟩
theorem dX5_takeBook_12 : jm_d cX5_takeBook 12 (.aload_n 0) 1 13 := ⟨by decide +kernel, rfl⟩
theorem dX5_takeBook_13 : jm_d cX5_takeBook 13 (.iconst 1) 1 14 := ⟨by decide +kernel, rfl⟩
theorem dX5_takeBook_14 : jm_d cX5_takeBook 14 (.invokevirtual 91) 3 17 := ⟨by decide +kernel, rfl⟩
theorem dX5_takeBook_17 : jm_d cX5_takeBook 17 (.istore_n 3) 1 18 := ⟨by decide +kernel, rfl⟩
theorem dX5_takeBook_18 : jm_d cX5_takeBook 18 (.aload_n 0) 1 19 := ⟨by decide +kernel, rfl⟩
theorem dX5_takeBook_19 : jm_d cX5_takeBook 19 (.invokevirtual 102) 3 22 := ⟨by decide +kernel, rfl⟩
theorem dX5_takeBook_22 : jm_d cX5_takeBook 22 (.istore 4) 2 24 := ⟨by decide +kernel, rfl⟩
theorem dX5_takeBook_24 : jm_d cX5_takeBook 24 (.iload_n 1) 1 25 := ⟨by decide +kernel, rfl⟩
theorem dX5_takeBook_25 : jm_d cX5_takeBook 25 (.bipush 8) 2 27 := ⟨by decide +kernel, rfl⟩
theorem dX5_takeBook_27 : jm_b cX5_takeBook 27 (.if_icmp .ge) 30 73 := ⟨46, by decide +kernel, rfl, by decide⟩
theorem dX5_takeBook_73 : jm_d cX5_takeBook 73 (.iconst 0) 1 74 := ⟨by decide +kernel, rfl⟩
theorem dX5_takeBook_74 : jm_d cX5_takeBook 74 (.ireturn) 1 75 := ⟨by decide +kernel, rfl⟩
theorem dX5_takeBook_30 : jm_d cX5_takeBook 30 (.aload_n 0) 1 31 := ⟨by decide +kernel, rfl⟩
theorem dX5_takeBook_31 : jm_d cX5_takeBook 31 (.getfield 18) 3 34 := ⟨by decide +kernel, rfl⟩
theorem dX5_takeBook_34 : jm_d cX5_takeBook 34 (.iload_n 3) 1 35 := ⟨by decide +kernel, rfl⟩
theorem dX5_takeBook_35 : jm_d cX5_takeBook 35 (.invokevirtual 105) 3 38 := ⟨by decide +kernel, rfl⟩
theorem dX5_takeBook_38 : jm_b cX5_takeBook 38 (.ifCond .eq) 41 73 := ⟨35, by decide +kernel, rfl, by decide⟩
theorem dX5_takeBook_41 : jm_d cX5_takeBook 41 (.aload_n 0) 1 42 := ⟨by decide +kernel, rfl⟩
theorem dX5_takeBook_42 : jm_d cX5_takeBook 42 (.getfield 18) 3 45 := ⟨by decide +kernel, rfl⟩
theorem dX5_takeBook_45 : jm_d cX5_takeBook 45 (.getfield 108) 3 48 := ⟨by decide +kernel, rfl⟩
theorem dX5_takeBook_48 : jm_d cX5_takeBook 48 (.bipush 10) 2 50 := ⟨by decide +kernel, rfl⟩
theorem dX5_takeBook_50 : jm_b cX5_takeBook 50 (.if_icmp .ge) 53 73 := ⟨23, by decide +kernel, rfl, by decide⟩
theorem dX5_takeBook_53 : jm_d cX5_takeBook 53 (.iload 4) 2 55 := ⟨by decide +kernel, rfl⟩
theorem dX5_takeBook_55 : jm_d cX5_takeBook 55 (.iconst (-1)) 1 56 := ⟨by decide +kernel, rfl⟩
theorem dX5_takeBook_56 : jm_b cX5_takeBook 56 (.if_icmp .eq) 59 73 := ⟨17, by decide +kernel, rfl, by decide⟩
theorem dX5_takeBook_59 : jm_d cX5_takeBook 59 (.aload_n 0) 1 60 := ⟨by decide +kernel, rfl⟩
theorem dX5_takeBook_60 : jm_d cX5_takeBook 60 (.getfield 18) 3 63 := ⟨by decide +kernel, rfl⟩
theorem dX5_takeBook_63 : jm_d cX5_takeBook 63 (.iload 4) 2 65 := ⟨by decide +kernel, rfl⟩
theorem dX5_takeBook_65 : jm_d cX5_takeBook 65 (.invokevirtual 113) 3 68 := ⟨by decide +kernel, rfl⟩
theorem dX5_takeBook_68 : jm_d cX5_takeBook 68 (.bipush (-9)) 2 70 := ⟨by decide +kernel, rfl⟩
theorem dX5_takeBook_70 : jm_b cX5_takeBook 70 (.if_icmp .eq) 73 75 := ⟨5, by decide +kernel, rfl, by decide⟩
theorem dX5_takeBook_75 : jm_d cX5_takeBook 75 (.aload_n 0) 1 76 := ⟨by decide +kernel, rfl⟩
theorem dX5_takeBook_76 : jm_d cX5_takeBook 76 (.getfield 18) 3 79 := ⟨by decide +kernel, rfl⟩
theorem dX5_takeBook_79 : jm_d cX5_takeBook 79 (.iload_n 1) 1 80 := ⟨by decide +kernel, rfl⟩
theorem dX5_takeBook_80 : jm_d cX5_takeBook 80 (.iload_n 2) 1 81 := ⟨by decide +kernel, rfl⟩
theorem dX5_takeBook_81 : jm_d cX5_takeBook 81 (.iload_n 3) 1 82 := ⟨by decide +kernel, rfl⟩
theorem dX5_takeBook_82 : jm_d cX5_takeBook 82 (.iload 4) 2 84 := ⟨by decide +kernel, rfl⟩
theorem dX5_takeBook_84 : jm_d cX5_takeBook 84 (.invokevirtual 116) 3 87 := ⟨by decide +kernel, rfl⟩
theorem dX5_takeBook_87 : jm_d cX5_takeBook 87 (.pop) 1 88 := ⟨by decide +kernel, rfl⟩
theorem dX5_takeBook_88 : jm_d cX5_takeBook 88 (.iconst 1) 1 89 := ⟨by decide +kernel, rfl⟩
theorem dX5_takeBook_89 : jm_d cX5_takeBook 89 (.ireturn) 1 90 := ⟨by decide +kernel, rfl⟩
set_option maxHeartbeats 4000000 in
set_option maxRecDepth 100000 in
theorem kS_takeBook (E : jm_Ev) (hE : jm_dj E jm_LC) {M : jm_M}  {r : Int32 × jm_M} (h : sS_takeBook M = some r) : jm_Ct E jm_LC yX5_takeBook cX5_takeBook 5 (some .boolean) 2 46 [.ref (jm_a E 14 0)] M (some (.int r.1)) r.2 := by
  refine jm_enter (lv := [some (.ref (jm_a E 14 0)), none, none, none, none]) hE (by decide) (Nat.le_of_ble_eq_true rfl) rfl ?_
  intro z w F hz
  have G : jm_G w 0 [some (.ref (jm_a E 14 0)), none, none, none, none] [] M (sS_takeBook M) (fun e => z (some (.int e.1)) e.2) := by
    unfold sS_takeBook
    refine jm_aload_n (i := 0) F dX5_takeBook_0 rfl rfl ?_
    refine jm_iconst F dX5_takeBook_1 kc_1 ?_
    refine jm_callV (As := [.int 1]) (st := []) (rv := fun r => some (.int r.1)) (mm := fun r => r.2) F dX5_takeBook_2 qX5_91 rfl lo_X5 rfl (fun r h => kS_takeNumber E hE h) rfl (Nat.le_of_ble_eq_true rfl) ⟨Nat.le_of_ble_eq_true rfl, Nat.le_of_ble_eq_true rfl⟩ (fun r1 => ?_)
    refine jm_istore_n (i := 1) (lv' := [some (.ref (jm_a E 14 0)), some (.int r1.1), none, none, none]) F dX5_takeBook_5 rfl (by decide) rfl rfl ?_
    refine jm_aload_n (i := 0) F dX5_takeBook_6 rfl rfl ?_
    refine jm_iconst F dX5_takeBook_7 kc_1 ?_
    refine jm_callV (As := [.int 1]) (st := []) (rv := fun r => some (.int r.1)) (mm := fun r => r.2) F dX5_takeBook_8 qX5_91 rfl lo_X5 rfl (fun r h => kS_takeNumber E hE h) rfl (Nat.le_of_ble_eq_true rfl) ⟨Nat.le_of_ble_eq_true rfl, Nat.le_of_ble_eq_true rfl⟩ (fun r2 => ?_)
    refine jm_istore_n (i := 2) (lv' := [some (.ref (jm_a E 14 0)), some (.int r1.1), some (.int r2.1), none, none]) F dX5_takeBook_11 rfl (by decide) rfl rfl ?_
    refine jm_aload_n (i := 0) F dX5_takeBook_12 rfl rfl ?_
    refine jm_iconst F dX5_takeBook_13 kc_1 ?_
    refine jm_callV (As := [.int 1]) (st := []) (rv := fun r => some (.int r.1)) (mm := fun r => r.2) F dX5_takeBook_14 qX5_91 rfl lo_X5 rfl (fun r h => kS_takeNumber E hE h) rfl (Nat.le_of_ble_eq_true rfl) ⟨Nat.le_of_ble_eq_true rfl, Nat.le_of_ble_eq_true rfl⟩ (fun r3 => ?_)
    refine jm_istore_n (i := 3) (lv' := [some (.ref (jm_a E 14 0)), some (.int r1.1), some (.int r2.1), some (.int r3.1), none]) F dX5_takeBook_17 rfl (by decide) rfl rfl ?_
    refine jm_aload_n (i := 0) F dX5_takeBook_18 rfl rfl ?_
    refine jm_callV (As := []) (st := []) (rv := fun r => some (.int r.1)) (mm := fun r => r.2) F dX5_takeBook_19 qX5_102 rfl lo_X5 rfl (fun r h => kS_takeTitle E hE h) rfl (Nat.le_of_ble_eq_true rfl) ⟨Nat.le_of_ble_eq_true rfl, Nat.le_of_ble_eq_true rfl⟩ (fun r4 => ?_)
    refine jm_istore (i := 4) (lv' := [some (.ref (jm_a E 14 0)), some (.int r1.1), some (.int r2.1), some (.int r3.1), some (.int r4.1)]) F dX5_takeBook_22 (by decide) rfl rfl ?_
    refine jm_iload_n (i := 1) F dX5_takeBook_24 rfl rfl ?_
    refine jm_bipush F dX5_takeBook_25 kb_8 ?_
    refine jm_icmp_ge F dX5_takeBook_27 (fun c5 => ?_) (fun c5 => ?_)
    · refine jm_iconst F dX5_takeBook_73 kc_0 ?_
      exact jm_zret F dX5_takeBook_74 (Or.inl rfl) (fun h => h)
    · refine jm_aload_n (i := 0) F dX5_takeBook_30 rfl rfl ?_
      refine jm_getR F dX5_takeBook_31 fl_X5_18 lo_X5 rfl ?_
      refine jm_iload_n (i := 3) F dX5_takeBook_34 rfl rfl ?_
      refine jm_callV (As := [.int r3.1]) (st := []) (rv := fun r => some (.int r)) (mm := fun _ => r4.2) F dX5_takeBook_35 qX5_105 rfl (lo_T isT_3) rfl (fun r h => kT_hasKeeper E hE isT_3 h) rfl (Nat.le_of_ble_eq_true rfl) ⟨Nat.le_of_ble_eq_true rfl, Nat.le_of_ble_eq_true rfl⟩ (fun r6 => ?_)
      refine jm_if_eq F dX5_takeBook_38 (fun c7 => ?_) (fun c7 => ?_)
      · refine jm_iconst F dX5_takeBook_73 kc_0 ?_
        exact jm_zret F dX5_takeBook_74 (Or.inl rfl) (fun h => h)
      · refine jm_aload_n (i := 0) F dX5_takeBook_41 rfl rfl ?_
        refine jm_getR F dX5_takeBook_42 fl_X5_18 lo_X5 rfl ?_
        refine jm_getI F dX5_takeBook_45 fl_X5_108 (lo_T isT_3) rfl ?_
        refine jm_bipush F dX5_takeBook_48 kb_10 ?_
        refine jm_icmp_ge F dX5_takeBook_50 (fun c8 => ?_) (fun c8 => ?_)
        · refine jm_iconst F dX5_takeBook_73 kc_0 ?_
          exact jm_zret F dX5_takeBook_74 (Or.inl rfl) (fun h => h)
        · refine jm_iload F dX5_takeBook_53 rfl ?_
          refine jm_iconst F dX5_takeBook_55 kc_m1 ?_
          refine jm_icmp_eq F dX5_takeBook_56 (fun c9 => ?_) (fun c9 => ?_)
          · refine jm_iconst F dX5_takeBook_73 kc_0 ?_
            exact jm_zret F dX5_takeBook_74 (Or.inl rfl) (fun h => h)
          · refine jm_aload_n (i := 0) F dX5_takeBook_59 rfl rfl ?_
            refine jm_getR F dX5_takeBook_60 fl_X5_18 lo_X5 rfl ?_
            refine jm_iload F dX5_takeBook_63 rfl ?_
            refine jm_callV (As := [.int r4.1]) (st := []) (rv := fun r => some (.int r)) (mm := fun _ => r4.2) F dX5_takeBook_65 qX5_113 rfl (lo_T isT_3) rfl (fun r h => kT_bookWithTitle E hE isT_3 h) rfl (Nat.le_of_ble_eq_true rfl) ⟨Nat.le_of_ble_eq_true rfl, Nat.le_of_ble_eq_true rfl⟩ (fun r10 => ?_)
            refine jm_bipush F dX5_takeBook_68 kb_m9 ?_
            refine jm_icmp_eq F dX5_takeBook_70 (fun c11 => ?_) (fun c11 => ?_)
            · refine jm_aload_n (i := 0) F dX5_takeBook_75 rfl rfl ?_
              refine jm_getR F dX5_takeBook_76 fl_X5_18 lo_X5 rfl ?_
              refine jm_iload_n (i := 1) F dX5_takeBook_79 rfl rfl ?_
              refine jm_iload_n (i := 2) F dX5_takeBook_80 rfl rfl ?_
              refine jm_iload_n (i := 3) F dX5_takeBook_81 rfl rfl ?_
              refine jm_iload F dX5_takeBook_82 rfl ?_
              refine jm_callV (As := [.int r1.1, .int r2.1, .int r3.1, .int r4.1]) (st := []) (rv := fun r => some (.int r.1)) (mm := fun r => r.2) F dX5_takeBook_84 qX5_116 rfl (lo_T isT_3) rfl (fun r h => kT_addBook E hE isT_3 h) rfl (Nat.le_of_ble_eq_true rfl) ⟨Nat.le_of_ble_eq_true rfl, Nat.le_of_ble_eq_true rfl⟩ (fun r12 => ?_)
              refine jm_pop F dX5_takeBook_87 rfl ?_
              refine jm_iconst F dX5_takeBook_88 kc_1 ?_
              exact jm_zret F dX5_takeBook_89 (Or.inr rfl) (fun h => h)
            · refine jm_iconst F dX5_takeBook_73 kc_0 ?_
              exact jm_zret F dX5_takeBook_74 (Or.inl rfl) (fun h => h)
  exact G r h hz
theorem dX7_hasBook_0 : jm_d cX7_hasBook 0 (.iload_n 1) 1 1 := ⟨by decide +kernel, rfl⟩
theorem dX7_hasBook_1 : jm_b cX7_hasBook 1 (.ifCond .lt) 4 16 := ⟨15, by decide +kernel, rfl, by decide⟩
theorem dX7_hasBook_16 : jm_d cX7_hasBook 16 (.iconst 0) 1 17 := ⟨by decide +kernel, rfl⟩
theorem dX7_hasBook_17 : jm_d cX7_hasBook 17 (.ireturn) 1 18 := ⟨by decide +kernel, rfl⟩
theorem dX7_hasBook_4 : jm_d cX7_hasBook 4 (.iload_n 1) 1 5 := ⟨by decide +kernel, rfl⟩
theorem dX7_hasBook_5 : jm_d cX7_hasBook 5 (.aload_n 0) 1 6 := ⟨by decide +kernel, rfl⟩
theorem dX7_hasBook_6 : jm_d cX7_hasBook 6 (.getfield 55) 3 9 := ⟨by decide +kernel, rfl⟩
theorem dX7_hasBook_9 : jm_b cX7_hasBook 9 (.if_icmp .ge) 12 16 := ⟨7, by decide +kernel, rfl, by decide⟩
theorem dX7_hasBook_12 : jm_d cX7_hasBook 12 (.iconst 1) 1 13 := ⟨by decide +kernel, rfl⟩
theorem dX7_hasBook_13 : jm_b cX7_hasBook 13 .goto 16 17 := ⟨4, by decide +kernel, rfl, by decide⟩
set_option maxHeartbeats 4000000 in
set_option maxRecDepth 100000 in
theorem kT_hasBook (E : jm_Ev) (hE : jm_dj E jm_LC) {M : jm_M} {t : Nat} {p1 : Int32} (ht : jm_isT t) {r : Int32} (h : sT_hasBook M t p1 = some r) : jm_Ct E jm_LC yX7_hasBook cX7_hasBook 2 (some .boolean) 0 0 [.ref (jm_a E t 0), .int p1] M (some (.int r)) M := by
  refine jm_enter (lv := [some (.ref (jm_a E t 0)), some (.int p1)]) hE (by decide) (Nat.le_of_ble_eq_true rfl) rfl ?_
  intro z w F hz
  have G : jm_G w 0 [some (.ref (jm_a E t 0)), some (.int p1)] [] M (sT_hasBook M t p1) (fun e => z (some (.int e)) M) := by
    unfold sT_hasBook
    refine jm_iload_n (i := 1) F dX7_hasBook_0 rfl rfl ?_
    refine jm_if_lt F dX7_hasBook_1 (fun c1 => ?_) (fun c1 => ?_)
    · refine jm_iconst F dX7_hasBook_16 kc_0 ?_
      exact jm_zret F dX7_hasBook_17 (Or.inl rfl) (fun h => h)
    · refine jm_iload_n (i := 1) F dX7_hasBook_4 rfl rfl ?_
      refine jm_aload_n (i := 0) F dX7_hasBook_5 rfl rfl ?_
      refine jm_getI F dX7_hasBook_6 fl_X7_55 (lo_T ht) rfl ?_
      refine jm_icmp_ge F dX7_hasBook_9 (fun c2 => ?_) (fun c2 => ?_)
      · refine jm_iconst F dX7_hasBook_16 kc_0 ?_
        exact jm_zret F dX7_hasBook_17 (Or.inl rfl) (fun h => h)
      · refine jm_iconst F dX7_hasBook_12 kc_1 ?_
        refine jm_goto F dX7_hasBook_13 ?_
        exact jm_zret F dX7_hasBook_17 (Or.inr rfl) (fun h => h)
  exact G r h hz
theorem dX5_takeReading_0 : jm_d cX5_takeReading 0 (.aload_n 0) 1 1 := ⟨by decide +kernel, rfl⟩
theorem dX5_takeReading_1 : jm_d cX5_takeReading 1 (.iconst 1) 1 2 := ⟨by decide +kernel, rfl⟩
theorem dX5_takeReading_2 : jm_d cX5_takeReading 2 (.invokevirtual 91) 3 5 := ⟨by decide +kernel, rfl⟩
theorem dX5_takeReading_5 : jm_d cX5_takeReading 5 (.istore_n 1) 1 6 := ⟨by decide +kernel, rfl⟩
theorem dX5_takeReading_6 : jm_d cX5_takeReading 6 (.aload_n 0) 1 7 := ⟨by decide +kernel, rfl⟩
theorem dX5_takeReading_7 : jm_d cX5_takeReading 7 (.getfield 18) 3 10 := ⟨by decide +kernel, rfl⟩
theorem dX5_takeReading_10 : jm_d cX5_takeReading 10 (.aload_n 0) 1 11 := ⟨by decide +kernel, rfl⟩
theorem dX5_takeReading_11 : jm_d cX5_takeReading 11 (.invokevirtual 102) 3 14 := ⟨by decide +kernel, rfl⟩
theorem dX5_takeReading_14 : jm_d cX5_takeReading 14 (.invokevirtual 113) 3 17 := ⟨by decide +kernel, rfl⟩
theorem dX5_takeReading_17 : jm_d cX5_takeReading 17 (.istore_n 2) 1 18 := ⟨by decide +kernel, rfl⟩
theorem dX5_takeReading_18 : jm_d cX5_takeReading 18 (.aload_n 0) 1 19 := ⟨by decide +kernel, rfl⟩
theorem dX5_takeReading_19 : jm_d cX5_takeReading 19 (.getfield 18) 3 22 := ⟨by decide +kernel, rfl⟩
theorem dX5_takeReading_22 : jm_d cX5_takeReading 22 (.iload_n 1) 1 23 := ⟨by decide +kernel, rfl⟩
theorem dX5_takeReading_23 : jm_d cX5_takeReading 23 (.invokevirtual 120) 3 26 := ⟨by decide +kernel, rfl⟩
theorem dX5_takeReading_26 : jm_b cX5_takeReading 26 (.ifCond .eq) 29 40 := ⟨14, by decide +kernel, rfl, by decide⟩
theorem dX5_takeReading_40 : jm_d cX5_takeReading 40 (.iconst 0) 1 41 := ⟨by decide +kernel, rfl⟩
theorem dX5_takeReading_41 : jm_d cX5_takeReading 41 (.ireturn) 1 42 := ⟨by decide +kernel, rfl⟩
theorem dX5_takeReading_29 : jm_d cX5_takeReading 29 (.aload_n 0) 1 30 := ⟨by decide +kernel, rfl⟩
theorem dX5_takeReading_30 : jm_d cX5_takeReading 30 (.getfield 18) 3 33 := ⟨by decide +kernel, rfl⟩
theorem dX5_takeReading_33 : jm_d cX5_takeReading 33 (.iload_n 2) 1 34 := ⟨by decide +kernel, rfl⟩
theorem dX5_takeReading_34 : jm_d cX5_takeReading 34 (.invokevirtual 123) 3 37 := ⟨by decide +kernel, rfl⟩
theorem dX5_takeReading_37 : jm_b cX5_takeReading 37 (.ifCond .ne) 40 42 := ⟨5, by decide +kernel, rfl, by decide⟩
theorem dX5_takeReading_42 : jm_d cX5_takeReading 42 (.aload_n 0) 1 43 := ⟨by decide +kernel, rfl⟩
theorem dX5_takeReading_43 : jm_d cX5_takeReading 43 (.getfield 18) 3 46 := ⟨by decide +kernel, rfl⟩
theorem dX5_takeReading_46 : jm_d cX5_takeReading 46 (.getfield 126) 3 49 := ⟨by decide +kernel, rfl⟩
theorem dX5_takeReading_49 : jm_d cX5_takeReading 49 (.iload_n 2) 1 50 := ⟨by decide +kernel, rfl⟩
theorem dX5_takeReading_50 : jm_d cX5_takeReading 50 (.dup2) 1 51 := ⟨by decide +kernel, rfl⟩
theorem dX5_takeReading_51 : jm_d cX5_takeReading 51 (.iaload) 1 52 := ⟨by decide +kernel, rfl⟩
theorem dX5_takeReading_52 : jm_d cX5_takeReading 52 (.iconst 1) 1 53 := ⟨by decide +kernel, rfl⟩
theorem dX5_takeReading_53 : jm_d cX5_takeReading 53 (.iload_n 1) 1 54 := ⟨by decide +kernel, rfl⟩
theorem dX5_takeReading_54 : jm_d cX5_takeReading 54 (.ishl) 1 55 := ⟨by decide +kernel, rfl⟩
theorem dX5_takeReading_55 : jm_d cX5_takeReading 55 (.ior) 1 56 := ⟨by decide +kernel, rfl⟩
theorem dX5_takeReading_56 : jm_d cX5_takeReading 56 (.iastore) 1 57 := ⟨by decide +kernel, rfl⟩
theorem dX5_takeReading_57 : jm_d cX5_takeReading 57 (.iconst 1) 1 58 := ⟨by decide +kernel, rfl⟩
theorem dX5_takeReading_58 : jm_d cX5_takeReading 58 (.ireturn) 1 59 := ⟨by decide +kernel, rfl⟩
set_option maxHeartbeats 4000000 in
set_option maxRecDepth 100000 in
theorem kS_takeReading (E : jm_Ev) (hE : jm_dj E jm_LC) {M : jm_M}  {r : Int32 × jm_M} (h : sS_takeReading M = some r) : jm_Ct E jm_LC yX5_takeReading cX5_takeReading 3 (some .boolean) 2 46 [.ref (jm_a E 14 0)] M (some (.int r.1)) r.2 := by
  refine jm_enter (lv := [some (.ref (jm_a E 14 0)), none, none]) hE (by decide) (Nat.le_of_ble_eq_true rfl) rfl ?_
  intro z w F hz
  have G : jm_G w 0 [some (.ref (jm_a E 14 0)), none, none] [] M (sS_takeReading M) (fun e => z (some (.int e.1)) e.2) := by
    unfold sS_takeReading
    refine jm_aload_n (i := 0) F dX5_takeReading_0 rfl rfl ?_
    refine jm_iconst F dX5_takeReading_1 kc_1 ?_
    refine jm_callV (As := [.int 1]) (st := []) (rv := fun r => some (.int r.1)) (mm := fun r => r.2) F dX5_takeReading_2 qX5_91 rfl lo_X5 rfl (fun r h => kS_takeNumber E hE h) rfl (Nat.le_of_ble_eq_true rfl) ⟨Nat.le_of_ble_eq_true rfl, Nat.le_of_ble_eq_true rfl⟩ (fun r1 => ?_)
    refine jm_istore_n (i := 1) (lv' := [some (.ref (jm_a E 14 0)), some (.int r1.1), none]) F dX5_takeReading_5 rfl (by decide) rfl rfl ?_
    refine jm_aload_n (i := 0) F dX5_takeReading_6 rfl rfl ?_
    refine jm_getR F dX5_takeReading_7 fl_X5_18 lo_X5 rfl ?_
    refine jm_aload_n (i := 0) F dX5_takeReading_10 rfl rfl ?_
    refine jm_callV (As := []) (st := [.ref (jm_a E 3 0)]) (rv := fun r => some (.int r.1)) (mm := fun r => r.2) F dX5_takeReading_11 qX5_102 rfl lo_X5 rfl (fun r h => kS_takeTitle E hE h) rfl (Nat.le_of_ble_eq_true rfl) ⟨Nat.le_of_ble_eq_true rfl, Nat.le_of_ble_eq_true rfl⟩ (fun r2 => ?_)
    refine jm_callV (As := [.int r2.1]) (st := []) (rv := fun r => some (.int r)) (mm := fun _ => r2.2) F dX5_takeReading_14 qX5_113 rfl (lo_T isT_3) rfl (fun r h => kT_bookWithTitle E hE isT_3 h) rfl (Nat.le_of_ble_eq_true rfl) ⟨Nat.le_of_ble_eq_true rfl, Nat.le_of_ble_eq_true rfl⟩ (fun r3 => ?_)
    refine jm_istore_n (i := 2) (lv' := [some (.ref (jm_a E 14 0)), some (.int r1.1), some (.int r3)]) F dX5_takeReading_17 rfl (by decide) rfl rfl ?_
    refine jm_aload_n (i := 0) F dX5_takeReading_18 rfl rfl ?_
    refine jm_getR F dX5_takeReading_19 fl_X5_18 lo_X5 rfl ?_
    refine jm_iload_n (i := 1) F dX5_takeReading_22 rfl rfl ?_
    refine jm_callV (As := [.int r1.1]) (st := []) (rv := fun r => some (.int r)) (mm := fun _ => r2.2) F dX5_takeReading_23 qX5_120 rfl (lo_T isT_3) rfl (fun r h => kT_hasPerson E hE isT_3 h) rfl (Nat.le_of_ble_eq_true rfl) ⟨Nat.le_of_ble_eq_true rfl, Nat.le_of_ble_eq_true rfl⟩ (fun r4 => ?_)
    refine jm_if_eq F dX5_takeReading_26 (fun c5 => ?_) (fun c5 => ?_)
    · refine jm_iconst F dX5_takeReading_40 kc_0 ?_
      exact jm_zret F dX5_takeReading_41 (Or.inl rfl) (fun h => h)
    · refine jm_aload_n (i := 0) F dX5_takeReading_29 rfl rfl ?_
      refine jm_getR F dX5_takeReading_30 fl_X5_18 lo_X5 rfl ?_
      refine jm_iload_n (i := 2) F dX5_takeReading_33 rfl rfl ?_
      refine jm_callV (As := [.int r3]) (st := []) (rv := fun r => some (.int r)) (mm := fun _ => r2.2) F dX5_takeReading_34 qX5_123 rfl (lo_T isT_3) rfl (fun r h => kT_hasBook E hE isT_3 h) rfl (Nat.le_of_ble_eq_true rfl) ⟨Nat.le_of_ble_eq_true rfl, Nat.le_of_ble_eq_true rfl⟩ (fun r6 => ?_)
      refine jm_if_ne F dX5_takeReading_37 (fun c7 => ?_) (fun c7 => ?_)
      · refine jm_iconst F dX5_takeReading_40 kc_0 ?_
        exact jm_zret F dX5_takeReading_41 (Or.inl rfl) (fun h => h)
      · refine jm_aload_n (i := 0) F dX5_takeReading_42 rfl rfl ?_
        refine jm_getR F dX5_takeReading_43 fl_X5_18 lo_X5 rfl ?_
        refine jm_getR F dX5_takeReading_46 fl_X5_126 (lo_T isT_3) rfl ?_
        refine jm_iload_n (i := 2) F dX5_takeReading_49 rfl rfl ?_
        refine jm_dup2 F dX5_takeReading_50 rfl rfl ?_
        refine jm_iald F dX5_takeReading_51 (la_T_10 isT_3) (fun v8 => ?_)
        refine jm_iconst F dX5_takeReading_52 kc_1 ?_
        refine jm_iload_n (i := 1) F dX5_takeReading_53 rfl rfl ?_
        refine jm_ishl F dX5_takeReading_54 ?_
        refine jm_ior F dX5_takeReading_55 ?_
        refine jm_iast F dX5_takeReading_56 (la_T_10 isT_3) (fun M9 => ?_)
        refine jm_iconst F dX5_takeReading_57 kc_1 ?_
        exact jm_zret F dX5_takeReading_58 (Or.inr rfl) (fun h => h)
  exact G r h hz
theorem dX5_takeHolder_0 : jm_d cX5_takeHolder 0 (.aload_n 0) 1 1 := ⟨by decide +kernel, rfl⟩
theorem dX5_takeHolder_1 : jm_d cX5_takeHolder 1 (.iconst 1) 1 2 := ⟨by decide +kernel, rfl⟩
theorem dX5_takeHolder_2 : jm_d cX5_takeHolder 2 (.invokevirtual 91) 3 5 := ⟨by decide +kernel, rfl⟩
theorem dX5_takeHolder_5 : jm_d cX5_takeHolder 5 (.istore_n 1) 1 6 := ⟨by decide +kernel, rfl⟩
theorem dX5_takeHolder_6 : jm_d cX5_takeHolder 6 (.aload_n 0) 1 7 := ⟨by decide +kernel, rfl⟩
theorem dX5_takeHolder_7 : jm_d cX5_takeHolder 7 (.getfield 18) 3 10 := ⟨by decide +kernel, rfl⟩
theorem dX5_takeHolder_10 : jm_d cX5_takeHolder 10 (.aload_n 0) 1 11 := ⟨by decide +kernel, rfl⟩
theorem dX5_takeHolder_11 : jm_d cX5_takeHolder 11 (.invokevirtual 102) 3 14 := ⟨by decide +kernel, rfl⟩
theorem dX5_takeHolder_14 : jm_d cX5_takeHolder 14 (.invokevirtual 113) 3 17 := ⟨by decide +kernel, rfl⟩
theorem dX5_takeHolder_17 : jm_d cX5_takeHolder 17 (.istore_n 2) 1 18 := ⟨by decide +kernel, rfl⟩
theorem dX5_takeHolder_18 : jm_d cX5_takeHolder 18 (.aload_n 0) 1 19 := ⟨by decide +kernel, rfl⟩
theorem dX5_takeHolder_19 : jm_d cX5_takeHolder 19 (.getfield 18) 3 22 := ⟨by decide +kernel, rfl⟩
theorem dX5_takeHolder_22 : jm_d cX5_takeHolder 22 (.iload_n 1) 1 23 := ⟨by decide +kernel, rfl⟩
theorem dX5_takeHolder_23 : jm_d cX5_takeHolder 23 (.invokevirtual 105) 3 26 := ⟨by decide +kernel, rfl⟩
theorem dX5_takeHolder_26 : jm_b cX5_takeHolder 26 (.ifCond .eq) 29 40 := ⟨14, by decide +kernel, rfl, by decide⟩
theorem dX5_takeHolder_40 : jm_d cX5_takeHolder 40 (.iconst 0) 1 41 := ⟨by decide +kernel, rfl⟩
theorem dX5_takeHolder_41 : jm_d cX5_takeHolder 41 (.ireturn) 1 42 := ⟨by decide +kernel, rfl⟩
theorem dX5_takeHolder_29 : jm_d cX5_takeHolder 29 (.aload_n 0) 1 30 := ⟨by decide +kernel, rfl⟩
theorem dX5_takeHolder_30 : jm_d cX5_takeHolder 30 (.getfield 18) 3 33 := ⟨by decide +kernel, rfl⟩
theorem dX5_takeHolder_33 : jm_d cX5_takeHolder 33 (.iload_n 2) 1 34 := ⟨by decide +kernel, rfl⟩
theorem dX5_takeHolder_34 : jm_d cX5_takeHolder 34 (.invokevirtual 123) 3 37 := ⟨by decide +kernel, rfl⟩
theorem dX5_takeHolder_37 : jm_b cX5_takeHolder 37 (.ifCond .ne) 40 42 := ⟨5, by decide +kernel, rfl, by decide⟩
theorem dX5_takeHolder_42 : jm_d cX5_takeHolder 42 (.aload_n 0) 1 43 := ⟨by decide +kernel, rfl⟩
theorem dX5_takeHolder_43 : jm_d cX5_takeHolder 43 (.getfield 18) 3 46 := ⟨by decide +kernel, rfl⟩
theorem dX5_takeHolder_46 : jm_d cX5_takeHolder 46 (.getfield 129) 3 49 := ⟨by decide +kernel, rfl⟩
theorem dX5_takeHolder_49 : jm_d cX5_takeHolder 49 (.iload_n 2) 1 50 := ⟨by decide +kernel, rfl⟩
theorem dX5_takeHolder_50 : jm_d cX5_takeHolder 50 (.iload_n 1) 1 51 := ⟨by decide +kernel, rfl⟩
theorem dX5_takeHolder_51 : jm_d cX5_takeHolder 51 (.iastore) 1 52 := ⟨by decide +kernel, rfl⟩
theorem dX5_takeHolder_52 : jm_d cX5_takeHolder 52 (.iconst 1) 1 53 := ⟨by decide +kernel, rfl⟩
theorem dX5_takeHolder_53 : jm_d cX5_takeHolder 53 (.ireturn) 1 54 := ⟨by decide +kernel, rfl⟩
set_option maxHeartbeats 4000000 in
set_option maxRecDepth 100000 in
theorem kS_takeHolder (E : jm_Ev) (hE : jm_dj E jm_LC) {M : jm_M}  {r : Int32 × jm_M} (h : sS_takeHolder M = some r) : jm_Ct E jm_LC yX5_takeHolder cX5_takeHolder 3 (some .boolean) 2 46 [.ref (jm_a E 14 0)] M (some (.int r.1)) r.2 := by
  refine jm_enter (lv := [some (.ref (jm_a E 14 0)), none, none]) hE (by decide) (Nat.le_of_ble_eq_true rfl) rfl ?_
  intro z w F hz
  have G : jm_G w 0 [some (.ref (jm_a E 14 0)), none, none] [] M (sS_takeHolder M) (fun e => z (some (.int e.1)) e.2) := by
    unfold sS_takeHolder
    refine jm_aload_n (i := 0) F dX5_takeHolder_0 rfl rfl ?_
    refine jm_iconst F dX5_takeHolder_1 kc_1 ?_
    refine jm_callV (As := [.int 1]) (st := []) (rv := fun r => some (.int r.1)) (mm := fun r => r.2) F dX5_takeHolder_2 qX5_91 rfl lo_X5 rfl (fun r h => kS_takeNumber E hE h) rfl (Nat.le_of_ble_eq_true rfl) ⟨Nat.le_of_ble_eq_true rfl, Nat.le_of_ble_eq_true rfl⟩ (fun r1 => ?_)
    refine jm_istore_n (i := 1) (lv' := [some (.ref (jm_a E 14 0)), some (.int r1.1), none]) F dX5_takeHolder_5 rfl (by decide) rfl rfl ?_
    refine jm_aload_n (i := 0) F dX5_takeHolder_6 rfl rfl ?_
    refine jm_getR F dX5_takeHolder_7 fl_X5_18 lo_X5 rfl ?_
    refine jm_aload_n (i := 0) F dX5_takeHolder_10 rfl rfl ?_
    refine jm_callV (As := []) (st := [.ref (jm_a E 3 0)]) (rv := fun r => some (.int r.1)) (mm := fun r => r.2) F dX5_takeHolder_11 qX5_102 rfl lo_X5 rfl (fun r h => kS_takeTitle E hE h) rfl (Nat.le_of_ble_eq_true rfl) ⟨Nat.le_of_ble_eq_true rfl, Nat.le_of_ble_eq_true rfl⟩ (fun r2 => ?_)
    refine jm_callV (As := [.int r2.1]) (st := []) (rv := fun r => some (.int r)) (mm := fun _ => r2.2) F dX5_takeHolder_14 qX5_113 rfl (lo_T isT_3) rfl (fun r h => kT_bookWithTitle E hE isT_3 h) rfl (Nat.le_of_ble_eq_true rfl) ⟨Nat.le_of_ble_eq_true rfl, Nat.le_of_ble_eq_true rfl⟩ (fun r3 => ?_)
    refine jm_istore_n (i := 2) (lv' := [some (.ref (jm_a E 14 0)), some (.int r1.1), some (.int r3)]) F dX5_takeHolder_17 rfl (by decide) rfl rfl ?_
    refine jm_aload_n (i := 0) F dX5_takeHolder_18 rfl rfl ?_
    refine jm_getR F dX5_takeHolder_19 fl_X5_18 lo_X5 rfl ?_
    refine jm_iload_n (i := 1) F dX5_takeHolder_22 rfl rfl ?_
    refine jm_callV (As := [.int r1.1]) (st := []) (rv := fun r => some (.int r)) (mm := fun _ => r2.2) F dX5_takeHolder_23 qX5_105 rfl (lo_T isT_3) rfl (fun r h => kT_hasKeeper E hE isT_3 h) rfl (Nat.le_of_ble_eq_true rfl) ⟨Nat.le_of_ble_eq_true rfl, Nat.le_of_ble_eq_true rfl⟩ (fun r4 => ?_)
    refine jm_if_eq F dX5_takeHolder_26 (fun c5 => ?_) (fun c5 => ?_)
    · refine jm_iconst F dX5_takeHolder_40 kc_0 ?_
      exact jm_zret F dX5_takeHolder_41 (Or.inl rfl) (fun h => h)
    · refine jm_aload_n (i := 0) F dX5_takeHolder_29 rfl rfl ?_
      refine jm_getR F dX5_takeHolder_30 fl_X5_18 lo_X5 rfl ?_
      refine jm_iload_n (i := 2) F dX5_takeHolder_33 rfl rfl ?_
      refine jm_callV (As := [.int r3]) (st := []) (rv := fun r => some (.int r)) (mm := fun _ => r2.2) F dX5_takeHolder_34 qX5_123 rfl (lo_T isT_3) rfl (fun r h => kT_hasBook E hE isT_3 h) rfl (Nat.le_of_ble_eq_true rfl) ⟨Nat.le_of_ble_eq_true rfl, Nat.le_of_ble_eq_true rfl⟩ (fun r6 => ?_)
      refine jm_if_ne F dX5_takeHolder_37 (fun c7 => ?_) (fun c7 => ?_)
      · refine jm_iconst F dX5_takeHolder_40 kc_0 ?_
        exact jm_zret F dX5_takeHolder_41 (Or.inl rfl) (fun h => h)
      · refine jm_aload_n (i := 0) F dX5_takeHolder_42 rfl rfl ?_
        refine jm_getR F dX5_takeHolder_43 fl_X5_18 lo_X5 rfl ?_
        refine jm_getR F dX5_takeHolder_46 fl_X5_129 (lo_T isT_3) rfl ?_
        refine jm_iload_n (i := 2) F dX5_takeHolder_49 rfl rfl ?_
        refine jm_iload_n (i := 1) F dX5_takeHolder_50 rfl rfl ?_
        refine jm_iast F dX5_takeHolder_51 (la_T_9 isT_3) (fun M8 => ?_)
        refine jm_iconst F dX5_takeHolder_52 kc_1 ?_
        exact jm_zret F dX5_takeHolder_53 (Or.inr rfl) (fun h => h)
  exact G r h hz
theorem dX7_addStep_0 : jm_d cX7_addStep 0 (.aload_n 0) 1 1 := ⟨by decide +kernel, rfl⟩
theorem dX7_addStep_1 : jm_d cX7_addStep 1 (.getfield 61) 3 4 := ⟨by decide +kernel, rfl⟩
theorem dX7_addStep_4 : jm_d cX7_addStep 4 (.bipush 6) 2 6 := ⟨by decide +kernel, rfl⟩
theorem dX7_addStep_6 : jm_b cX7_addStep 6 (.if_icmp .ge) 9 39 := ⟨33, by decide +kernel, rfl, by decide⟩
theorem dX7_addStep_39 : jm_d cX7_addStep 39 (.return_) 1 40 := ⟨by decide +kernel, rfl⟩
theorem dX7_addStep_9 : jm_d cX7_addStep 9 (.aload_n 0) 1 10 := ⟨by decide +kernel, rfl⟩
theorem dX7_addStep_10 : jm_d cX7_addStep 10 (.getfield 39) 3 13 := ⟨by decide +kernel, rfl⟩
theorem dX7_addStep_13 : jm_d cX7_addStep 13 (.aload_n 0) 1 14 := ⟨by decide +kernel, rfl⟩
theorem dX7_addStep_14 : jm_d cX7_addStep 14 (.getfield 61) 3 17 := ⟨by decide +kernel, rfl⟩
theorem dX7_addStep_17 : jm_d cX7_addStep 17 (.iload_n 1) 1 18 := ⟨by decide +kernel, rfl⟩
theorem dX7_addStep_18 : jm_d cX7_addStep 18 (.iastore) 1 19 := ⟨by decide +kernel, rfl⟩
theorem dX7_addStep_19 : jm_d cX7_addStep 19 (.aload_n 0) 1 20 := ⟨by decide +kernel, rfl⟩
theorem dX7_addStep_20 : jm_d cX7_addStep 20 (.getfield 42) 3 23 := ⟨by decide +kernel, rfl⟩
theorem dX7_addStep_23 : jm_d cX7_addStep 23 (.aload_n 0) 1 24 := ⟨by decide +kernel, rfl⟩
theorem dX7_addStep_24 : jm_d cX7_addStep 24 (.getfield 61) 3 27 := ⟨by decide +kernel, rfl⟩
theorem dX7_addStep_27 : jm_d cX7_addStep 27 (.iload_n 2) 1 28 := ⟨by decide +kernel, rfl⟩
theorem dX7_addStep_28 : jm_d cX7_addStep 28 (.iastore) 1 29 := ⟨by decide +kernel, rfl⟩
theorem dX7_addStep_29 : jm_d cX7_addStep 29 (.aload_n 0) 1 30 := ⟨by decide +kernel, rfl⟩
theorem dX7_addStep_30 : jm_d cX7_addStep 30 (.dup) 1 31 := ⟨by decide +kernel, rfl⟩
theorem dX7_addStep_31 : jm_d cX7_addStep 31 (.getfield 61) 3 34 := ⟨by decide +kernel, rfl⟩
theorem dX7_addStep_34 : jm_d cX7_addStep 34 (.iconst 1) 1 35 := ⟨by decide +kernel, rfl⟩
theorem dX7_addStep_35 : jm_d cX7_addStep 35 (.iadd) 1 36 := ⟨by decide +kernel, rfl⟩
theorem dX7_addStep_36 : jm_d cX7_addStep 36 (.putfield 61) 3 39 := ⟨by decide +kernel, rfl⟩
set_option maxHeartbeats 4000000 in
set_option maxRecDepth 100000 in
theorem kT_addStep (E : jm_Ev) (hE : jm_dj E jm_LC) {M : jm_M} {t : Nat} {p1 : Int32} {p2 : Int32} (ht : jm_isT t) {r : jm_M} (h : sT_addStep M t p1 p2 = some r) : jm_Ct E jm_LC yX7_addStep cX7_addStep 3 none 0 0 [.ref (jm_a E t 0), .int p1, .int p2] M none r := by
  refine jm_enter (lv := [some (.ref (jm_a E t 0)), some (.int p1), some (.int p2)]) hE (by decide) (Nat.le_of_ble_eq_true rfl) rfl ?_
  intro z w F hz
  have G : jm_G w 0 [some (.ref (jm_a E t 0)), some (.int p1), some (.int p2)] [] M (sT_addStep M t p1 p2) (fun e => z none e) := by
    unfold sT_addStep
    refine jm_aload_n (i := 0) F dX7_addStep_0 rfl rfl ?_
    refine jm_getI F dX7_addStep_1 fl_X7_61 (lo_T ht) rfl ?_
    refine jm_bipush F dX7_addStep_4 kb_6 ?_
    refine jm_icmp_ge F dX7_addStep_6 (fun c1 => ?_) (fun c1 => ?_)
    · exact jm_vret F dX7_addStep_39 (fun h => h)
    · refine jm_aload_n (i := 0) F dX7_addStep_9 rfl rfl ?_
      refine jm_getR F dX7_addStep_10 fl_X7_39 (lo_T ht) rfl ?_
      refine jm_aload_n (i := 0) F dX7_addStep_13 rfl rfl ?_
      refine jm_getI F dX7_addStep_14 fl_X7_61 (lo_T ht) rfl ?_
      refine jm_iload_n (i := 1) F dX7_addStep_17 rfl rfl ?_
      refine jm_iast F dX7_addStep_18 (la_T_14 ht) (fun M2 => ?_)
      refine jm_aload_n (i := 0) F dX7_addStep_19 rfl rfl ?_
      refine jm_getR F dX7_addStep_20 fl_X7_42 (lo_T ht) rfl ?_
      refine jm_aload_n (i := 0) F dX7_addStep_23 rfl rfl ?_
      refine jm_getI F dX7_addStep_24 fl_X7_61 (lo_T ht) rfl ?_
      refine jm_iload_n (i := 2) F dX7_addStep_27 rfl rfl ?_
      refine jm_iast F dX7_addStep_28 (la_T_15 ht) (fun M3 => ?_)
      refine jm_aload_n (i := 0) F dX7_addStep_29 rfl rfl ?_
      refine jm_dup F dX7_addStep_30 rfl ?_
      refine jm_getI F dX7_addStep_31 fl_X7_61 (lo_T ht) rfl ?_
      refine jm_iconst F dX7_addStep_34 kc_1 ?_
      refine jm_iadd F dX7_addStep_35 ?_
      refine jm_putI F dX7_addStep_36 fp_X7_61 (lo_T ht) rfl (fun M4 => ?_)
      exact jm_vret F dX7_addStep_39 (fun h => h)
  exact G r h hz
theorem dX5_takeLaw_0 : jm_d cX5_takeLaw 0 (.aload_n 0) 1 1 := ⟨by decide +kernel, rfl⟩
theorem dX5_takeLaw_1 : jm_d cX5_takeLaw 1 (.getfield 18) 3 4 := ⟨by decide +kernel, rfl⟩
theorem dX5_takeLaw_4 : jm_d cX5_takeLaw 4 (.iconst 0) 1 5 := ⟨by decide +kernel, rfl⟩
theorem dX5_takeLaw_5 : jm_d cX5_takeLaw 5 (.putfield 132) 3 8 := ⟨by decide +kernel, rfl⟩
theorem dX5_takeLaw_8 : jm_d cX5_takeLaw 8 (.iconst 0) 1 9 := ⟨by decide +kernel, rfl⟩
theorem dX5_takeLaw_9 : jm_d cX5_takeLaw 9 (.istore_n 1) 1 10 := ⟨by decide +kernel, rfl⟩
theorem dX5_takeLaw_10 : jm_d cX5_takeLaw 10 (.iconst 0) 1 11 := ⟨by decide +kernel, rfl⟩
theorem dX5_takeLaw_11 : jm_d cX5_takeLaw 11 (.istore_n 2) 1 12 := ⟨by decide +kernel, rfl⟩
theorem dX5_takeLaw_12 : jm_d cX5_takeLaw 12 (.iload_n 2) 1 13 := ⟨by decide +kernel, rfl⟩
theorem dX5_takeLaw_13 : jm_d cX5_takeLaw 13 (.bipush 96) 2 15 := ⟨by decide +kernel, rfl⟩
theorem dX5_takeLaw_15 : jm_b cX5_takeLaw 15 (.if_icmp .ge) 18 77 := ⟨62, by decide +kernel, rfl, by decide⟩
theorem dX5_takeLaw_18 : jm_d cX5_takeLaw 18 (.aload_n 0) 1 19 := ⟨by decide +kernel, rfl⟩
theorem dX5_takeLaw_19 : jm_d cX5_takeLaw 19 (.invokevirtual 37) 3 22 := ⟨by decide +kernel, rfl⟩
theorem dX5_takeLaw_22 : jm_d cX5_takeLaw 22 (.bipush 59) 2 24 := ⟨by decide +kernel, rfl⟩
theorem dX5_takeLaw_24 : jm_b cX5_takeLaw 24 (.if_icmp .eq) 27 77 := ⟨53, by decide +kernel, rfl, by decide⟩
theorem dX5_takeLaw_27 : jm_d cX5_takeLaw 27 (.aload_n 0) 1 28 := ⟨by decide +kernel, rfl⟩
theorem dX5_takeLaw_28 : jm_d cX5_takeLaw 28 (.invokevirtual 63) 3 31 := ⟨by decide +kernel, rfl⟩
theorem dX5_takeLaw_31 : jm_d cX5_takeLaw 31 (.istore_n 3) 1 32 := ⟨by decide +kernel, rfl⟩
theorem dX5_takeLaw_32 : jm_d cX5_takeLaw 32 (.aload_n 0) 1 33 := ⟨by decide +kernel, rfl⟩
theorem dX5_takeLaw_33 : jm_d cX5_takeLaw 33 (.dup) 1 34 := ⟨by decide +kernel, rfl⟩
theorem dX5_takeLaw_34 : jm_d cX5_takeLaw 34 (.getfield 30) 3 37 := ⟨by decide +kernel, rfl⟩
theorem dX5_takeLaw_37 : jm_d cX5_takeLaw 37 (.iconst 1) 1 38 := ⟨by decide +kernel, rfl⟩
theorem dX5_takeLaw_38 : jm_d cX5_takeLaw 38 (.iadd) 1 39 := ⟨by decide +kernel, rfl⟩
theorem dX5_takeLaw_39 : jm_d cX5_takeLaw 39 (.putfield 30) 3 42 := ⟨by decide +kernel, rfl⟩
theorem dX5_takeLaw_42 : jm_d cX5_takeLaw 42 (.iload_n 3) 1 43 := ⟨by decide +kernel, rfl⟩
theorem dX5_takeLaw_43 : jm_d cX5_takeLaw 43 (.iconst 4) 1 44 := ⟨by decide +kernel, rfl⟩
theorem dX5_takeLaw_44 : jm_b cX5_takeLaw 44 (.if_icmp .ge) 47 55 := ⟨11, by decide +kernel, rfl, by decide⟩
theorem dX5_takeLaw_55 : jm_d cX5_takeLaw 55 (.iconst 0) 1 56 := ⟨by decide +kernel, rfl⟩
theorem dX5_takeLaw_47 : jm_d cX5_takeLaw 47 (.aload_n 0) 1 48 := ⟨by decide +kernel, rfl⟩
theorem dX5_takeLaw_48 : jm_d cX5_takeLaw 48 (.iconst 2) 1 49 := ⟨by decide +kernel, rfl⟩
theorem dX5_takeLaw_49 : jm_d cX5_takeLaw 49 (.invokevirtual 91) 3 52 := ⟨by decide +kernel, rfl⟩
theorem dX5_takeLaw_52 : jm_b cX5_takeLaw 52 .goto 55 56 := ⟨4, by decide +kernel, rfl, by decide⟩
theorem dX5_takeLaw_56 : jm_d cX5_takeLaw 56 (.istore 4) 2 58 := ⟨by decide +kernel, rfl⟩
theorem dX5_takeLaw_58 : jm_d cX5_takeLaw 58 (.aload_n 0) 1 59 := ⟨by decide +kernel, rfl⟩
theorem dX5_takeLaw_59 : jm_d cX5_takeLaw 59 (.getfield 18) 3 62 := ⟨by decide +kernel, rfl⟩
theorem dX5_takeLaw_62 : jm_d cX5_takeLaw 62 (.iload_n 3) 1 63 := ⟨by decide +kernel, rfl⟩
theorem dX5_takeLaw_63 : jm_d cX5_takeLaw 63 (.iload 4) 2 65 := ⟨by decide +kernel, rfl⟩
theorem dX5_takeLaw_65 : jm_d cX5_takeLaw 65 (.invokevirtual 135) 3 68 := ⟨by decide +kernel, rfl⟩
theorem dX5_takeLaw_68 : jm_d cX5_takeLaw 68 (.iinc 1 1) 3 71 := ⟨by decide +kernel, rfl⟩
theorem dX5_takeLaw_71 : jm_d cX5_takeLaw 71 (.iinc 2 1) 3 74 := ⟨by decide +kernel, rfl⟩
theorem dX5_takeLaw_74 : jm_b cX5_takeLaw 74 .goto 77 12 := ⟨(-62), by decide +kernel, rfl, by decide⟩
theorem dX5_takeLaw_77 : jm_d cX5_takeLaw 77 (.iload_n 1) 1 78 := ⟨by decide +kernel, rfl⟩
theorem dX5_takeLaw_78 : jm_d cX5_takeLaw 78 (.bipush 6) 2 80 := ⟨by decide +kernel, rfl⟩
theorem dX5_takeLaw_80 : jm_b cX5_takeLaw 80 (.if_icmp .gt) 83 87 := ⟨7, by decide +kernel, rfl, by decide⟩
theorem dX5_takeLaw_87 : jm_d cX5_takeLaw 87 (.iconst 0) 1 88 := ⟨by decide +kernel, rfl⟩
theorem dX5_takeLaw_88 : jm_d cX5_takeLaw 88 (.ireturn) 1 89 := ⟨by decide +kernel, rfl⟩
theorem dX5_takeLaw_83 : jm_d cX5_takeLaw 83 (.iconst 1) 1 84 := ⟨by decide +kernel, rfl⟩
theorem dX5_takeLaw_84 : jm_b cX5_takeLaw 84 .goto 87 88 := ⟨4, by decide +kernel, rfl, by decide⟩
set_option maxHeartbeats 4000000 in
set_option maxRecDepth 100000 in
theorem kS_takeLaw (E : jm_Ev) (hE : jm_dj E jm_LC) {M : jm_M}  {r : Int32 × jm_M} (h : sS_takeLaw M = some r) : jm_Ct E jm_LC yX5_takeLaw cX5_takeLaw 5 (some .boolean) 2 43 [.ref (jm_a E 14 0)] M (some (.int r.1)) r.2 := by
  refine jm_enter (lv := [some (.ref (jm_a E 14 0)), none, none, none, none]) hE (by decide) (Nat.le_of_ble_eq_true rfl) rfl ?_
  intro z w F hz
  have G : jm_G w 0 [some (.ref (jm_a E 14 0)), none, none, none, none] [] M (sS_takeLaw M) (fun e => z (some (.int e.1)) e.2) := by
    unfold sS_takeLaw
    refine jm_aload_n (i := 0) F dX5_takeLaw_0 rfl rfl ?_
    refine jm_getR F dX5_takeLaw_1 fl_X5_18 lo_X5 rfl ?_
    refine jm_iconst F dX5_takeLaw_4 kc_0 ?_
    refine jm_putI F dX5_takeLaw_5 fp_X5_132 (lo_T isT_3) rfl (fun M1 => ?_)
    refine jm_iconst F dX5_takeLaw_8 kc_0 ?_
    refine jm_istore_n (i := 1) (lv' := [some (.ref (jm_a E 14 0)), some (.int 0), none, none, none]) F dX5_takeLaw_9 rfl (by decide) rfl rfl ?_
    refine jm_iconst F dX5_takeLaw_10 kc_0 ?_
    refine jm_istore_n (i := 2) (lv' := [some (.ref (jm_a E 14 0)), some (.int 0), some (.int 0), none, none]) F dX5_takeLaw_11 rfl (by decide) rfl rfl ?_
    refine jm_bind (pcJ := 77) (lvJ := fun e12 => [none, some (.int e12.1), none, none, none]) (stJ := fun _ => []) (MJ := fun e12 => e12.2) ?_ (fun e12 => ?_)
    · refine jm_weak F (lv' := [some (.ref (jm_a E 14 0)), some (.int 0), some (.int 0), none, none]) ⟨rfl, rfl, rfl, trivial⟩ ?_
      refine jm_loopR (lvH := fun s2 => [some (.ref (jm_a E 14 0)), some (.int s2.1), some (.int s2.2.1), none, none]) (MH := fun s2 => s2.2.2) (fun s2 => ?_) jm_N (0, 0, M1)
      unfold sS_takeLaw_L12
      refine jm_iload_n (i := 2) F dX5_takeLaw_12 rfl rfl ?_
      refine jm_bipush F dX5_takeLaw_13 kb_96 ?_
      refine jm_icmp_ge F dX5_takeLaw_15 (fun c3 => ?_) (fun c3 => ?_)
      · exact jm_weakD F (lv' := [none, some (.int s2.1), none, none, none]) ⟨rfl, trivial⟩ (fun h => h)
      · refine jm_aload_n (i := 0) F dX5_takeLaw_18 rfl rfl ?_
        refine jm_callV (As := []) (st := []) (rv := fun r => some (.int r)) (mm := fun _ => s2.2.2) F dX5_takeLaw_19 qX5_37 rfl lo_X5 rfl (fun r h => kS_here E hE h) rfl (Nat.le_of_ble_eq_true rfl) ⟨Nat.le_of_ble_eq_true rfl, Nat.le_of_ble_eq_true rfl⟩ (fun r4 => ?_)
        refine jm_bipush F dX5_takeLaw_22 kb_59 ?_
        refine jm_icmp_eq F dX5_takeLaw_24 (fun c5 => ?_) (fun c5 => ?_)
        · exact jm_weakD F (lv' := [none, some (.int s2.1), none, none, none]) ⟨rfl, trivial⟩ (fun h => h)
        · refine jm_aload_n (i := 0) F dX5_takeLaw_27 rfl rfl ?_
          refine jm_callV (As := []) (st := []) (rv := fun r => some (.int r)) (mm := fun _ => s2.2.2) F dX5_takeLaw_28 qX5_63 rfl lo_X5 rfl (fun r h => kS_stepHere E hE h) rfl (Nat.le_of_ble_eq_true rfl) ⟨Nat.le_of_ble_eq_true rfl, Nat.le_of_ble_eq_true rfl⟩ (fun r6 => ?_)
          refine jm_istore_n (i := 3) (lv' := [some (.ref (jm_a E 14 0)), some (.int s2.1), some (.int s2.2.1), some (.int r6), none]) F dX5_takeLaw_31 rfl (by decide) rfl rfl ?_
          refine jm_aload_n (i := 0) F dX5_takeLaw_32 rfl rfl ?_
          refine jm_dup F dX5_takeLaw_33 rfl ?_
          refine jm_getI F dX5_takeLaw_34 fl_X5_30 lo_X5 rfl ?_
          refine jm_iconst F dX5_takeLaw_37 kc_1 ?_
          refine jm_iadd F dX5_takeLaw_38 ?_
          refine jm_putI F dX5_takeLaw_39 fp_X5_30 lo_X5 rfl (fun M7 => ?_)
          refine jm_iload_n (i := 3) F dX5_takeLaw_42 rfl rfl ?_
          refine jm_iconst F dX5_takeLaw_43 kc_4 ?_
          refine jm_bind (pcJ := 56) (lvJ := fun e8 => [some (.ref (jm_a E 14 0)), some (.int s2.1), some (.int s2.2.1), some (.int r6), none]) (stJ := fun e8 => [.int e8.1]) (MJ := fun e8 => e8.2) ?_ (fun e8 => ?_)
          · refine jm_icmp_ge F dX5_takeLaw_44 (fun c9 => ?_) (fun c9 => ?_)
            · refine jm_iconst F dX5_takeLaw_55 kc_0 ?_
              exact jm_weakD F (lv' := [some (.ref (jm_a E 14 0)), some (.int s2.1), some (.int s2.2.1), some (.int r6), none]) ⟨rfl, rfl, rfl, rfl, trivial⟩ (fun h => h)
            · refine jm_aload_n (i := 0) F dX5_takeLaw_47 rfl rfl ?_
              refine jm_iconst F dX5_takeLaw_48 kc_2 ?_
              refine jm_callV (As := [.int 2]) (st := []) (rv := fun r => some (.int r.1)) (mm := fun r => r.2) F dX5_takeLaw_49 qX5_91 rfl lo_X5 rfl (fun r h => kS_takeNumber E hE h) rfl (Nat.le_of_ble_eq_true rfl) ⟨Nat.le_of_ble_eq_true rfl, Nat.le_of_ble_eq_true rfl⟩ (fun r10 => ?_)
              refine jm_goto F dX5_takeLaw_52 ?_
              exact jm_weakD F (lv' := [some (.ref (jm_a E 14 0)), some (.int s2.1), some (.int s2.2.1), some (.int r6), none]) ⟨rfl, rfl, rfl, rfl, trivial⟩ (fun h => h)
          · refine jm_istore (i := 4) (lv' := [some (.ref (jm_a E 14 0)), some (.int s2.1), some (.int s2.2.1), some (.int r6), some (.int e8.1)]) F dX5_takeLaw_56 (by decide) rfl rfl ?_
            refine jm_aload_n (i := 0) F dX5_takeLaw_58 rfl rfl ?_
            refine jm_getR F dX5_takeLaw_59 fl_X5_18 lo_X5 rfl ?_
            refine jm_iload_n (i := 3) F dX5_takeLaw_62 rfl rfl ?_
            refine jm_iload F dX5_takeLaw_63 rfl ?_
            refine jm_callV (As := [.int r6, .int e8.1]) (st := []) (rv := fun _ => none) (mm := fun r => r) F dX5_takeLaw_65 qX5_135 rfl (lo_T isT_3) rfl (fun r h => kT_addStep E hE isT_3 h) rfl (Nat.le_of_ble_eq_true rfl) ⟨Nat.le_of_ble_eq_true rfl, Nat.le_of_ble_eq_true rfl⟩ (fun r11 => ?_)
            refine jm_iinc (i := 1) (lv' := [some (.ref (jm_a E 14 0)), some (.int (s2.1 + 1)), some (.int s2.2.1), some (.int r6), some (.int e8.1)]) F dX5_takeLaw_68 kc_1 rfl (by decide) rfl rfl ?_
            refine jm_iinc (i := 2) (lv' := [some (.ref (jm_a E 14 0)), some (.int (s2.1 + 1)), some (.int (s2.2.1 + 1)), some (.int r6), some (.int e8.1)]) F dX5_takeLaw_71 kc_1 rfl (by decide) rfl rfl ?_
            refine jm_goto F dX5_takeLaw_74 ?_
            exact jm_weakD F (lv' := [some (.ref (jm_a E 14 0)), some (.int (s2.1 + 1)), some (.int (s2.2.1 + 1)), none, none]) ⟨rfl, rfl, rfl, trivial⟩ (fun h => h)
    · refine jm_iload_n (i := 1) F dX5_takeLaw_77 rfl rfl ?_
      refine jm_bipush F dX5_takeLaw_78 kb_6 ?_
      refine jm_icmp_gt F dX5_takeLaw_80 (fun c13 => ?_) (fun c13 => ?_)
      · refine jm_iconst F dX5_takeLaw_87 kc_0 ?_
        exact jm_zret F dX5_takeLaw_88 (Or.inl rfl) (fun h => h)
      · refine jm_iconst F dX5_takeLaw_83 kc_1 ?_
        refine jm_goto F dX5_takeLaw_84 ?_
        exact jm_zret F dX5_takeLaw_88 (Or.inr rfl) (fun h => h)
  exact G r h hz
theorem dX7_hasRead_0 : jm_d cX7_hasRead 0 (.aload_n 0) 1 1 := ⟨by decide +kernel, rfl⟩
theorem dX7_hasRead_1 : jm_d cX7_hasRead 1 (.getfield 33) 3 4 := ⟨by decide +kernel, rfl⟩
theorem dX7_hasRead_4 : jm_d cX7_hasRead 4 (.iload_n 2) 1 5 := ⟨by decide +kernel, rfl⟩
theorem dX7_hasRead_5 : jm_d cX7_hasRead 5 (.iaload) 1 6 := ⟨by decide +kernel, rfl⟩
theorem dX7_hasRead_6 : jm_d cX7_hasRead 6 (.iload_n 1) 1 7 := ⟨by decide +kernel, rfl⟩
theorem dX7_hasRead_7 : jm_d cX7_hasRead 7 (.ishr) 1 8 := ⟨by decide +kernel, rfl⟩
theorem dX7_hasRead_8 : jm_d cX7_hasRead 8 (.iconst 1) 1 9 := ⟨by decide +kernel, rfl⟩
theorem dX7_hasRead_9 : jm_d cX7_hasRead 9 (.iand) 1 10 := ⟨by decide +kernel, rfl⟩
theorem dX7_hasRead_10 : jm_d cX7_hasRead 10 (.ireturn) 1 11 := ⟨by decide +kernel, rfl⟩
set_option maxHeartbeats 4000000 in
set_option maxRecDepth 100000 in
theorem kT_hasRead (E : jm_Ev) (hE : jm_dj E jm_LC) {M : jm_M} {t : Nat} {p1 : Int32} {p2 : Int32} (ht : jm_isT t) {r : Int32} (h : sT_hasRead M t p1 p2 = some r) : jm_Ct E jm_LC yX7_hasRead cX7_hasRead 3 (some .int) 0 0 [.ref (jm_a E t 0), .int p1, .int p2] M (some (.int r)) M := by
  refine jm_enter (lv := [some (.ref (jm_a E t 0)), some (.int p1), some (.int p2)]) hE (by decide) (Nat.le_of_ble_eq_true rfl) rfl ?_
  intro z w F hz
  have G : jm_G w 0 [some (.ref (jm_a E t 0)), some (.int p1), some (.int p2)] [] M (sT_hasRead M t p1 p2) (fun e => z (some (.int e)) M) := by
    unfold sT_hasRead
    refine jm_aload_n (i := 0) F dX7_hasRead_0 rfl rfl ?_
    refine jm_getR F dX7_hasRead_1 fl_X7_33 (lo_T ht) rfl ?_
    refine jm_iload_n (i := 2) F dX7_hasRead_4 rfl rfl ?_
    refine jm_iald F dX7_hasRead_5 (la_T_10 ht) (fun v1 => ?_)
    refine jm_iload_n (i := 1) F dX7_hasRead_6 rfl rfl ?_
    refine jm_ishr F dX7_hasRead_7 ?_
    refine jm_iconst F dX7_hasRead_8 kc_1 ?_
    refine jm_iand F dX7_hasRead_9 ?_
    exact jm_iret F dX7_hasRead_10 (fun h => h)
  exact G r h hz
theorem dX7_readNext_0 : jm_d cX7_readNext 0 (.bipush (-9)) 2 2 := ⟨by decide +kernel, rfl⟩
theorem dX7_readNext_2 : jm_d cX7_readNext 2 (.istore_n 2) 1 3 := ⟨by decide +kernel, rfl⟩
theorem dX7_readNext_3 : jm_d cX7_readNext 3 (.iconst 0) 1 4 := ⟨by decide +kernel, rfl⟩
theorem dX7_readNext_4 : jm_d cX7_readNext 4 (.istore_n 3) 1 5 := ⟨by decide +kernel, rfl⟩
theorem dX7_readNext_5 : jm_d cX7_readNext 5 (.iload_n 3) 1 6 := ⟨by decide +kernel, rfl⟩
theorem dX7_readNext_6 : jm_d cX7_readNext 6 (.aload_n 0) 1 7 := ⟨by decide +kernel, rfl⟩
theorem dX7_readNext_7 : jm_d cX7_readNext 7 (.getfield 55) 3 10 := ⟨by decide +kernel, rfl⟩
theorem dX7_readNext_10 : jm_b cX7_readNext 10 (.if_icmp .ge) 13 61 := ⟨51, by decide +kernel, rfl, by decide⟩
theorem dX7_readNext_13 : jm_d cX7_readNext 13 (.aload_n 0) 1 14 := ⟨by decide +kernel, rfl⟩
theorem dX7_readNext_14 : jm_d cX7_readNext 14 (.getfield 30) 3 17 := ⟨by decide +kernel, rfl⟩
theorem dX7_readNext_17 : jm_d cX7_readNext 17 (.iload_n 3) 1 18 := ⟨by decide +kernel, rfl⟩
theorem dX7_readNext_18 : jm_d cX7_readNext 18 (.iaload) 1 19 := ⟨by decide +kernel, rfl⟩
theorem dX7_readNext_19 : jm_d cX7_readNext 19 (.iload_n 1) 1 20 := ⟨by decide +kernel, rfl⟩
theorem dX7_readNext_20 : jm_b cX7_readNext 20 (.if_icmp .ne) 23 55 := ⟨35, by decide +kernel, rfl, by decide⟩
theorem dX7_readNext_23 : jm_d cX7_readNext 23 (.aload_n 0) 1 24 := ⟨by decide +kernel, rfl⟩
theorem dX7_readNext_24 : jm_d cX7_readNext 24 (.iload_n 1) 1 25 := ⟨by decide +kernel, rfl⟩
theorem dX7_readNext_25 : jm_d cX7_readNext 25 (.iload_n 3) 1 26 := ⟨by decide +kernel, rfl⟩
theorem dX7_readNext_26 : jm_d cX7_readNext 26 (.invokevirtual 85) 3 29 := ⟨by decide +kernel, rfl⟩
theorem dX7_readNext_29 : jm_b cX7_readNext 29 (.ifCond .ne) 32 55 := ⟨26, by decide +kernel, rfl, by decide⟩
theorem dX7_readNext_32 : jm_d cX7_readNext 32 (.iload_n 2) 1 33 := ⟨by decide +kernel, rfl⟩
theorem dX7_readNext_33 : jm_d cX7_readNext 33 (.bipush (-9)) 2 35 := ⟨by decide +kernel, rfl⟩
theorem dX7_readNext_35 : jm_b cX7_readNext 35 (.if_icmp .eq) 38 53 := ⟨18, by decide +kernel, rfl, by decide⟩
theorem dX7_readNext_53 : jm_d cX7_readNext 53 (.iload_n 3) 1 54 := ⟨by decide +kernel, rfl⟩
theorem dX7_readNext_54 : jm_d cX7_readNext 54 (.istore_n 2) 1 55 := ⟨by decide +kernel, rfl⟩
theorem dX7_readNext_55 : jm_d cX7_readNext 55 (.iinc 3 1) 3 58 := ⟨by decide +kernel, rfl⟩
theorem dX7_readNext_58 : jm_b cX7_readNext 58 .goto 61 5 := ⟨(-53), by decide +kernel, rfl, by decide⟩
theorem dX7_readNext_38 : jm_d cX7_readNext 38 (.aload_n 0) 1 39 := ⟨by decide +kernel, rfl⟩
theorem dX7_readNext_39 : jm_d cX7_readNext 39 (.getfield 36) 3 42 := ⟨by decide +kernel, rfl⟩
theorem dX7_readNext_42 : jm_d cX7_readNext 42 (.iload_n 3) 1 43 := ⟨by decide +kernel, rfl⟩
theorem dX7_readNext_43 : jm_d cX7_readNext 43 (.iaload) 1 44 := ⟨by decide +kernel, rfl⟩
theorem dX7_readNext_44 : jm_d cX7_readNext 44 (.aload_n 0) 1 45 := ⟨by decide +kernel, rfl⟩
theorem dX7_readNext_45 : jm_d cX7_readNext 45 (.getfield 36) 3 48 := ⟨by decide +kernel, rfl⟩
theorem dX7_readNext_48 : jm_d cX7_readNext 48 (.iload_n 2) 1 49 := ⟨by decide +kernel, rfl⟩
theorem dX7_readNext_49 : jm_d cX7_readNext 49 (.iaload) 1 50 := ⟨by decide +kernel, rfl⟩
theorem dX7_readNext_50 : jm_b cX7_readNext 50 (.if_icmp .ge) 53 55 := ⟨5, by decide +kernel, rfl, by decide⟩
theorem dX7_readNext_61 : jm_d cX7_readNext 61 (.iload_n 2) 1 62 := ⟨by decide +kernel, rfl⟩
theorem dX7_readNext_62 : jm_d cX7_readNext 62 (.bipush (-9)) 2 64 := ⟨by decide +kernel, rfl⟩
theorem dX7_readNext_64 : jm_b cX7_readNext 64 (.if_icmp .eq) 67 91 := ⟨27, by decide +kernel, rfl, by decide⟩
theorem dX7_readNext_91 : jm_d cX7_readNext 91 (.return_) 1 92 := ⟨by decide +kernel, rfl⟩
theorem dX7_readNext_67 : jm_d cX7_readNext 67 (.aload_n 0) 1 68 := ⟨by decide +kernel, rfl⟩
theorem dX7_readNext_68 : jm_d cX7_readNext 68 (.getfield 33) 3 71 := ⟨by decide +kernel, rfl⟩
theorem dX7_readNext_71 : jm_d cX7_readNext 71 (.iload_n 2) 1 72 := ⟨by decide +kernel, rfl⟩
theorem dX7_readNext_72 : jm_d cX7_readNext 72 (.dup2) 1 73 := ⟨by decide +kernel, rfl⟩
theorem dX7_readNext_73 : jm_d cX7_readNext 73 (.iaload) 1 74 := ⟨by decide +kernel, rfl⟩
theorem dX7_readNext_74 : jm_d cX7_readNext 74 (.iconst 1) 1 75 := ⟨by decide +kernel, rfl⟩
theorem dX7_readNext_75 : jm_d cX7_readNext 75 (.iload_n 1) 1 76 := ⟨by decide +kernel, rfl⟩
theorem dX7_readNext_76 : jm_d cX7_readNext 76 (.ishl) 1 77 := ⟨by decide +kernel, rfl⟩
theorem dX7_readNext_77 : jm_d cX7_readNext 77 (.ior) 1 78 := ⟨by decide +kernel, rfl⟩
theorem dX7_readNext_78 : jm_d cX7_readNext 78 (.iastore) 1 79 := ⟨by decide +kernel, rfl⟩
theorem dX7_readNext_79 : jm_d cX7_readNext 79 (.aload_n 0) 1 80 := ⟨by decide +kernel, rfl⟩
theorem dX7_readNext_80 : jm_d cX7_readNext 80 (.getfield 30) 3 83 := ⟨by decide +kernel, rfl⟩
theorem dX7_readNext_83 : jm_d cX7_readNext 83 (.iload_n 2) 1 84 := ⟨by decide +kernel, rfl⟩
theorem dX7_readNext_84 : jm_d cX7_readNext 84 (.aload_n 0) 1 85 := ⟨by decide +kernel, rfl⟩
theorem dX7_readNext_85 : jm_d cX7_readNext 85 (.getfield 27) 3 88 := ⟨by decide +kernel, rfl⟩
theorem dX7_readNext_88 : jm_d cX7_readNext 88 (.iload_n 2) 1 89 := ⟨by decide +kernel, rfl⟩
theorem dX7_readNext_89 : jm_d cX7_readNext 89 (.iaload) 1 90 := ⟨by decide +kernel, rfl⟩
theorem dX7_readNext_90 : jm_d cX7_readNext 90 (.iastore) 1 91 := ⟨by decide +kernel, rfl⟩
set_option maxHeartbeats 4000000 in
set_option maxRecDepth 100000 in
theorem kT_readNext (E : jm_Ev) (hE : jm_dj E jm_LC) {M : jm_M} {t : Nat} {p1 : Int32} (ht : jm_isT t) {r : jm_M} (h : sT_readNext M t p1 = some r) : jm_Ct E jm_LC yX7_readNext cX7_readNext 4 none 1 22 [.ref (jm_a E t 0), .int p1] M none r := by
  refine jm_enter (lv := [some (.ref (jm_a E t 0)), some (.int p1), none, none]) hE (by decide) (Nat.le_of_ble_eq_true rfl) rfl ?_
  intro z w F hz
  have G : jm_G w 0 [some (.ref (jm_a E t 0)), some (.int p1), none, none] [] M (sT_readNext M t p1) (fun e => z none e) := by
    unfold sT_readNext
    refine jm_bipush F dX7_readNext_0 kb_m9 ?_
    refine jm_istore_n (i := 2) (lv' := [some (.ref (jm_a E t 0)), some (.int p1), some (.int (-9)), none]) F dX7_readNext_2 rfl (by decide) rfl rfl ?_
    refine jm_iconst F dX7_readNext_3 kc_0 ?_
    refine jm_istore_n (i := 3) (lv' := [some (.ref (jm_a E t 0)), some (.int p1), some (.int (-9)), some (.int 0)]) F dX7_readNext_4 rfl (by decide) rfl rfl ?_
    refine jm_bind (pcJ := 61) (lvJ := fun e11 => [some (.ref (jm_a E t 0)), some (.int p1), some (.int e11), none]) (stJ := fun _ => []) (MJ := fun e11 => M) ?_ (fun e11 => ?_)
    · refine jm_weak F (lv' := [some (.ref (jm_a E t 0)), some (.int p1), some (.int (-9)), some (.int 0)]) ⟨rfl, rfl, rfl, rfl, trivial⟩ ?_
      refine jm_loopR (lvH := fun s1 => [some (.ref (jm_a E t 0)), some (.int p1), some (.int s1.1), some (.int s1.2)]) (MH := fun s1 => M) (fun s1 => ?_) jm_N ((-9), 0)
      unfold sT_readNext_L5
      refine jm_iload_n (i := 3) F dX7_readNext_5 rfl rfl ?_
      refine jm_aload_n (i := 0) F dX7_readNext_6 rfl rfl ?_
      refine jm_getI F dX7_readNext_7 fl_X7_55 (lo_T ht) rfl ?_
      refine jm_icmp_ge F dX7_readNext_10 (fun c2 => ?_) (fun c2 => ?_)
      · exact jm_weakD F (lv' := [some (.ref (jm_a E t 0)), some (.int p1), some (.int s1.1), none]) ⟨rfl, rfl, rfl, trivial⟩ (fun h => h)
      · refine jm_aload_n (i := 0) F dX7_readNext_13 rfl rfl ?_
        refine jm_getR F dX7_readNext_14 fl_X7_30 (lo_T ht) rfl ?_
        refine jm_iload_n (i := 3) F dX7_readNext_17 rfl rfl ?_
        refine jm_iald F dX7_readNext_18 (la_T_9 ht) (fun v3 => ?_)
        refine jm_iload_n (i := 1) F dX7_readNext_19 rfl rfl ?_
        refine jm_icmp_ne F dX7_readNext_20 (fun c4 => ?_) (fun c4 => ?_)
        · refine jm_aload_n (i := 0) F dX7_readNext_23 rfl rfl ?_
          refine jm_iload_n (i := 1) F dX7_readNext_24 rfl rfl ?_
          refine jm_iload_n (i := 3) F dX7_readNext_25 rfl rfl ?_
          refine jm_callV (As := [.int p1, .int s1.2]) (st := []) (rv := fun r => some (.int r)) (mm := fun _ => M) F dX7_readNext_26 qX7_85 rfl (lo_T ht) rfl (fun r h => kT_hasRead E hE ht h) rfl (Nat.le_of_ble_eq_true rfl) ⟨Nat.le_of_ble_eq_true rfl, Nat.le_of_ble_eq_true rfl⟩ (fun r5 => ?_)
          refine jm_if_ne F dX7_readNext_29 (fun c6 => ?_) (fun c6 => ?_)
          · refine jm_iload_n (i := 2) F dX7_readNext_32 rfl rfl ?_
            refine jm_bipush F dX7_readNext_33 kb_m9 ?_
            refine jm_icmp_eq F dX7_readNext_35 (fun c7 => ?_) (fun c7 => ?_)
            · refine jm_iload_n (i := 3) F dX7_readNext_53 rfl rfl ?_
              refine jm_istore_n (i := 2) (lv' := [some (.ref (jm_a E t 0)), some (.int p1), some (.int s1.2), some (.int s1.2)]) F dX7_readNext_54 rfl (by decide) rfl rfl ?_
              refine jm_iinc (i := 3) (lv' := [some (.ref (jm_a E t 0)), some (.int p1), some (.int s1.2), some (.int (s1.2 + 1))]) F dX7_readNext_55 kc_1 rfl (by decide) rfl rfl ?_
              refine jm_goto F dX7_readNext_58 ?_
              exact jm_weakD F (lv' := [some (.ref (jm_a E t 0)), some (.int p1), some (.int s1.2), some (.int (s1.2 + 1))]) ⟨rfl, rfl, rfl, rfl, trivial⟩ (fun h => h)
            · refine jm_aload_n (i := 0) F dX7_readNext_38 rfl rfl ?_
              refine jm_getR F dX7_readNext_39 fl_X7_36 (lo_T ht) rfl ?_
              refine jm_iload_n (i := 3) F dX7_readNext_42 rfl rfl ?_
              refine jm_iald F dX7_readNext_43 (la_T_11 ht) (fun v8 => ?_)
              refine jm_aload_n (i := 0) F dX7_readNext_44 rfl rfl ?_
              refine jm_getR F dX7_readNext_45 fl_X7_36 (lo_T ht) rfl ?_
              refine jm_iload_n (i := 2) F dX7_readNext_48 rfl rfl ?_
              refine jm_iald F dX7_readNext_49 (la_T_11 ht) (fun v9 => ?_)
              refine jm_icmp_ge F dX7_readNext_50 (fun c10 => ?_) (fun c10 => ?_)
              · refine jm_iinc (i := 3) (lv' := [some (.ref (jm_a E t 0)), some (.int p1), some (.int s1.1), some (.int (s1.2 + 1))]) F dX7_readNext_55 kc_1 rfl (by decide) rfl rfl ?_
                refine jm_goto F dX7_readNext_58 ?_
                exact jm_weakD F (lv' := [some (.ref (jm_a E t 0)), some (.int p1), some (.int s1.1), some (.int (s1.2 + 1))]) ⟨rfl, rfl, rfl, rfl, trivial⟩ (fun h => h)
              · refine jm_iload_n (i := 3) F dX7_readNext_53 rfl rfl ?_
                refine jm_istore_n (i := 2) (lv' := [some (.ref (jm_a E t 0)), some (.int p1), some (.int s1.2), some (.int s1.2)]) F dX7_readNext_54 rfl (by decide) rfl rfl ?_
                refine jm_iinc (i := 3) (lv' := [some (.ref (jm_a E t 0)), some (.int p1), some (.int s1.2), some (.int (s1.2 + 1))]) F dX7_readNext_55 kc_1 rfl (by decide) rfl rfl ?_
                refine jm_goto F dX7_readNext_58 ?_
                exact jm_weakD F (lv' := [some (.ref (jm_a E t 0)), some (.int p1), some (.int s1.2), some (.int (s1.2 + 1))]) ⟨rfl, rfl, rfl, rfl, trivial⟩ (fun h => h)
          · refine jm_iinc (i := 3) (lv' := [some (.ref (jm_a E t 0)), some (.int p1), some (.int s1.1), some (.int (s1.2 + 1))]) F dX7_readNext_55 kc_1 rfl (by decide) rfl rfl ?_
            refine jm_goto F dX7_readNext_58 ?_
            exact jm_weakD F (lv' := [some (.ref (jm_a E t 0)), some (.int p1), some (.int s1.1), some (.int (s1.2 + 1))]) ⟨rfl, rfl, rfl, rfl, trivial⟩ (fun h => h)
        · refine jm_iinc (i := 3) (lv' := [some (.ref (jm_a E t 0)), some (.int p1), some (.int s1.1), some (.int (s1.2 + 1))]) F dX7_readNext_55 kc_1 rfl (by decide) rfl rfl ?_
          refine jm_goto F dX7_readNext_58 ?_
          exact jm_weakD F (lv' := [some (.ref (jm_a E t 0)), some (.int p1), some (.int s1.1), some (.int (s1.2 + 1))]) ⟨rfl, rfl, rfl, rfl, trivial⟩ (fun h => h)
    · refine jm_iload_n (i := 2) F dX7_readNext_61 rfl rfl ?_
      refine jm_bipush F dX7_readNext_62 kb_m9 ?_
      refine jm_icmp_eq F dX7_readNext_64 (fun c12 => ?_) (fun c12 => ?_)
      · exact jm_vret F dX7_readNext_91 (fun h => h)
      · refine jm_aload_n (i := 0) F dX7_readNext_67 rfl rfl ?_
        refine jm_getR F dX7_readNext_68 fl_X7_33 (lo_T ht) rfl ?_
        refine jm_iload_n (i := 2) F dX7_readNext_71 rfl rfl ?_
        refine jm_dup2 F dX7_readNext_72 rfl rfl ?_
        refine jm_iald F dX7_readNext_73 (la_T_10 ht) (fun v13 => ?_)
        refine jm_iconst F dX7_readNext_74 kc_1 ?_
        refine jm_iload_n (i := 1) F dX7_readNext_75 rfl rfl ?_
        refine jm_ishl F dX7_readNext_76 ?_
        refine jm_ior F dX7_readNext_77 ?_
        refine jm_iast F dX7_readNext_78 (la_T_10 ht) (fun M14 => ?_)
        refine jm_aload_n (i := 0) F dX7_readNext_79 rfl rfl ?_
        refine jm_getR F dX7_readNext_80 fl_X7_30 (lo_T ht) rfl ?_
        refine jm_iload_n (i := 2) F dX7_readNext_83 rfl rfl ?_
        refine jm_aload_n (i := 0) F dX7_readNext_84 rfl rfl ?_
        refine jm_getR F dX7_readNext_85 fl_X7_27 (lo_T ht) rfl ?_
        refine jm_iload_n (i := 2) F dX7_readNext_88 rfl rfl ?_
        refine jm_iald F dX7_readNext_89 (la_T_8 ht) (fun v15 => ?_)
        refine jm_iast F dX7_readNext_90 (la_T_9 ht) (fun M16 => ?_)
        exact jm_vret F dX7_readNext_91 (fun h => h)
  exact G r h hz
theorem dX7_weekPasses_0 : jm_d cX7_weekPasses 0 (.aload_n 0) 1 1 := ⟨by decide +kernel, rfl⟩
theorem dX7_weekPasses_1 : jm_d cX7_weekPasses 1 (.dup) 1 2 := ⟨by decide +kernel, rfl⟩
theorem dX7_weekPasses_2 : jm_d cX7_weekPasses 2 (.getfield 58) 3 5 := ⟨by decide +kernel, rfl⟩
theorem dX7_weekPasses_5 : jm_d cX7_weekPasses 5 (.iconst 1) 1 6 := ⟨by decide +kernel, rfl⟩
theorem dX7_weekPasses_6 : jm_d cX7_weekPasses 6 (.iadd) 1 7 := ⟨by decide +kernel, rfl⟩
theorem dX7_weekPasses_7 : jm_d cX7_weekPasses 7 (.putfield 58) 3 10 := ⟨by decide +kernel, rfl⟩
theorem dX7_weekPasses_10 : jm_d cX7_weekPasses 10 (.iconst 0) 1 11 := ⟨by decide +kernel, rfl⟩
theorem dX7_weekPasses_11 : jm_d cX7_weekPasses 11 (.istore_n 2) 1 12 := ⟨by decide +kernel, rfl⟩
theorem dX7_weekPasses_12 : jm_d cX7_weekPasses 12 (.iload_n 2) 1 13 := ⟨by decide +kernel, rfl⟩
theorem dX7_weekPasses_13 : jm_d cX7_weekPasses 13 (.aload_n 0) 1 14 := ⟨by decide +kernel, rfl⟩
theorem dX7_weekPasses_14 : jm_d cX7_weekPasses 14 (.getfield 45) 3 17 := ⟨by decide +kernel, rfl⟩
theorem dX7_weekPasses_17 : jm_b cX7_weekPasses 17 (.if_icmp .ge) 20 76 := ⟨59, by decide +kernel, rfl, by decide⟩
theorem dX7_weekPasses_20 : jm_d cX7_weekPasses 20 (.aload_n 0) 1 21 := ⟨by decide +kernel, rfl⟩
theorem dX7_weekPasses_21 : jm_d cX7_weekPasses 21 (.getfield 15) 3 24 := ⟨by decide +kernel, rfl⟩
theorem dX7_weekPasses_24 : jm_d cX7_weekPasses 24 (.iload_n 2) 1 25 := ⟨by decide +kernel, rfl⟩
theorem dX7_weekPasses_25 : jm_d cX7_weekPasses 25 (.iaload) 1 26 := ⟨by decide +kernel, rfl⟩
theorem dX7_weekPasses_26 : jm_d cX7_weekPasses 26 (.iconst 2) 1 27 := ⟨by decide +kernel, rfl⟩
theorem dX7_weekPasses_27 : jm_d cX7_weekPasses 27 (.iadd) 1 28 := ⟨by decide +kernel, rfl⟩
theorem dX7_weekPasses_28 : jm_d cX7_weekPasses 28 (.istore_n 3) 1 29 := ⟨by decide +kernel, rfl⟩
theorem dX7_weekPasses_29 : jm_d cX7_weekPasses 29 (.iload_n 3) 1 30 := ⟨by decide +kernel, rfl⟩
theorem dX7_weekPasses_30 : jm_b cX7_weekPasses 30 (.ifCond .le) 33 61 := ⟨31, by decide +kernel, rfl, by decide⟩
theorem dX7_weekPasses_33 : jm_d cX7_weekPasses 33 (.aload_n 0) 1 34 := ⟨by decide +kernel, rfl⟩
theorem dX7_weekPasses_34 : jm_d cX7_weekPasses 34 (.getfield 58) 3 37 := ⟨by decide +kernel, rfl⟩
theorem dX7_weekPasses_37 : jm_d cX7_weekPasses 37 (.iload_n 3) 1 38 := ⟨by decide +kernel, rfl⟩
theorem dX7_weekPasses_38 : jm_d cX7_weekPasses 38 (.irem) 1 39 := ⟨by decide +kernel, rfl⟩
theorem dX7_weekPasses_39 : jm_b cX7_weekPasses 39 (.ifCond .ne) 42 61 := ⟨22, by decide +kernel, rfl, by decide⟩
theorem dX7_weekPasses_42 : jm_d cX7_weekPasses 42 (.aload_n 0) 1 43 := ⟨by decide +kernel, rfl⟩
theorem dX7_weekPasses_43 : jm_d cX7_weekPasses 43 (.getfield 9) 3 46 := ⟨by decide +kernel, rfl⟩
theorem dX7_weekPasses_46 : jm_d cX7_weekPasses 46 (.iload_n 2) 1 47 := ⟨by decide +kernel, rfl⟩
theorem dX7_weekPasses_47 : jm_d cX7_weekPasses 47 (.bipush 99) 2 49 := ⟨by decide +kernel, rfl⟩
theorem dX7_weekPasses_49 : jm_d cX7_weekPasses 49 (.aload_n 0) 1 50 := ⟨by decide +kernel, rfl⟩
theorem dX7_weekPasses_50 : jm_d cX7_weekPasses 50 (.getfield 9) 3 53 := ⟨by decide +kernel, rfl⟩
theorem dX7_weekPasses_53 : jm_d cX7_weekPasses 53 (.iload_n 2) 1 54 := ⟨by decide +kernel, rfl⟩
theorem dX7_weekPasses_54 : jm_d cX7_weekPasses 54 (.iaload) 1 55 := ⟨by decide +kernel, rfl⟩
theorem dX7_weekPasses_55 : jm_d cX7_weekPasses 55 (.iconst 1) 1 56 := ⟨by decide +kernel, rfl⟩
theorem dX7_weekPasses_56 : jm_d cX7_weekPasses 56 (.iadd) 1 57 := ⟨by decide +kernel, rfl⟩
theorem dX7_weekPasses_57 : jm_d cX7_weekPasses 57 (.invokestatic 95) 3 60 := ⟨by decide +kernel, rfl⟩
theorem dX7_weekPasses_60 : jm_d cX7_weekPasses 60 (.iastore) 1 61 := ⟨by decide +kernel, rfl⟩
theorem dX7_weekPasses_61 : jm_d cX7_weekPasses 61 (.iload_n 1) 1 62 := ⟨by decide +kernel, rfl⟩
theorem dX7_weekPasses_62 : jm_b cX7_weekPasses 62 (.ifCond .eq) 65 70 := ⟨8, by decide +kernel, rfl, by decide⟩
theorem dX7_weekPasses_70 : jm_d cX7_weekPasses 70 (.iinc 2 1) 3 73 := ⟨by decide +kernel, rfl⟩
theorem dX7_weekPasses_73 : jm_b cX7_weekPasses 73 .goto 76 12 := ⟨(-61), by decide +kernel, rfl, by decide⟩
theorem dX7_weekPasses_65 : jm_d cX7_weekPasses 65 (.aload_n 0) 1 66 := ⟨by decide +kernel, rfl⟩
theorem dX7_weekPasses_66 : jm_d cX7_weekPasses 66 (.iload_n 2) 1 67 := ⟨by decide +kernel, rfl⟩
theorem dX7_weekPasses_67 : jm_d cX7_weekPasses 67 (.invokevirtual 119) 3 70 := ⟨by decide +kernel, rfl⟩
theorem dX7_weekPasses_76 : jm_d cX7_weekPasses 76 (.return_) 1 77 := ⟨by decide +kernel, rfl⟩
set_option maxHeartbeats 4000000 in
set_option maxRecDepth 100000 in
theorem kT_weekPasses (E : jm_Ev) (hE : jm_dj E jm_LC) {M : jm_M} {t : Nat} {p1 : Int32} (ht : jm_isT t) {r : jm_M} (h : sT_weekPasses M t p1 = some r) : jm_Ct E jm_LC yX7_weekPasses cX7_weekPasses 4 none 2 45 [.ref (jm_a E t 0), .int p1] M none r := by
  refine jm_enter (lv := [some (.ref (jm_a E t 0)), some (.int p1), none, none]) hE (by decide) (Nat.le_of_ble_eq_true rfl) rfl ?_
  intro z w F hz
  have G : jm_G w 0 [some (.ref (jm_a E t 0)), some (.int p1), none, none] [] M (sT_weekPasses M t p1) (fun e => z none e) := by
    unfold sT_weekPasses
    refine jm_aload_n (i := 0) F dX7_weekPasses_0 rfl rfl ?_
    refine jm_dup F dX7_weekPasses_1 rfl ?_
    refine jm_getI F dX7_weekPasses_2 fl_X7_58 (lo_T ht) rfl ?_
    refine jm_iconst F dX7_weekPasses_5 kc_1 ?_
    refine jm_iadd F dX7_weekPasses_6 ?_
    refine jm_putI F dX7_weekPasses_7 fp_X7_58 (lo_T ht) rfl (fun M1 => ?_)
    refine jm_iconst F dX7_weekPasses_10 kc_0 ?_
    refine jm_istore_n (i := 2) (lv' := [some (.ref (jm_a E t 0)), some (.int p1), some (.int 0), none]) F dX7_weekPasses_11 rfl (by decide) rfl rfl ?_
    refine jm_bind (pcJ := 76) (lvJ := fun e14 => [none, none, none, none]) (stJ := fun _ => []) (MJ := fun e14 => e14) ?_ (fun e14 => ?_)
    · refine jm_weak F (lv' := [some (.ref (jm_a E t 0)), some (.int p1), some (.int 0), none]) ⟨rfl, rfl, rfl, trivial⟩ ?_
      refine jm_loopR (lvH := fun s2 => [some (.ref (jm_a E t 0)), some (.int p1), some (.int s2.1), none]) (MH := fun s2 => s2.2) (fun s2 => ?_) jm_N (0, M1)
      unfold sT_weekPasses_L12
      refine jm_iload_n (i := 2) F dX7_weekPasses_12 rfl rfl ?_
      refine jm_aload_n (i := 0) F dX7_weekPasses_13 rfl rfl ?_
      refine jm_getI F dX7_weekPasses_14 fl_X7_45 (lo_T ht) rfl ?_
      refine jm_icmp_ge F dX7_weekPasses_17 (fun c3 => ?_) (fun c3 => ?_)
      · exact jm_weakD F (lv' := [none, none, none, none]) trivial (fun h => h)
      · refine jm_aload_n (i := 0) F dX7_weekPasses_20 rfl rfl ?_
        refine jm_getR F dX7_weekPasses_21 fl_X7_15 (lo_T ht) rfl ?_
        refine jm_iload_n (i := 2) F dX7_weekPasses_24 rfl rfl ?_
        refine jm_iald F dX7_weekPasses_25 (la_T_3 ht) (fun v4 => ?_)
        refine jm_iconst F dX7_weekPasses_26 kc_2 ?_
        refine jm_iadd F dX7_weekPasses_27 ?_
        refine jm_nameI (f := fun x5 => [.int x5]) (fun x5 => ?_) rfl
        refine jm_istore_n (i := 3) (lv' := [some (.ref (jm_a E t 0)), some (.int p1), some (.int s2.1), some (.int x5)]) F dX7_weekPasses_28 rfl (by decide) rfl rfl ?_
        refine jm_iload_n (i := 3) F dX7_weekPasses_29 rfl rfl ?_
        refine jm_bind (pcJ := 61) (lvJ := fun e6 => [some (.ref (jm_a E t 0)), some (.int p1), some (.int s2.1), none]) (stJ := fun e6 => []) (MJ := fun e6 => e6) ?_ (fun e6 => ?_)
        · refine jm_if_le F dX7_weekPasses_30 (fun c7 => ?_) (fun c7 => ?_)
          · exact jm_weakD F (lv' := [some (.ref (jm_a E t 0)), some (.int p1), some (.int s2.1), none]) ⟨rfl, rfl, rfl, trivial⟩ (fun h => h)
          · refine jm_aload_n (i := 0) F dX7_weekPasses_33 rfl rfl ?_
            refine jm_getI F dX7_weekPasses_34 fl_X7_58 (lo_T ht) rfl ?_
            refine jm_iload_n (i := 3) F dX7_weekPasses_37 rfl rfl ?_
            refine jm_irem F dX7_weekPasses_38 (fun v8 => ?_)
            refine jm_if_ne F dX7_weekPasses_39 (fun c9 => ?_) (fun c9 => ?_)
            · refine jm_aload_n (i := 0) F dX7_weekPasses_42 rfl rfl ?_
              refine jm_getR F dX7_weekPasses_43 fl_X7_9 (lo_T ht) rfl ?_
              refine jm_iload_n (i := 2) F dX7_weekPasses_46 rfl rfl ?_
              refine jm_bipush F dX7_weekPasses_47 kb_99 ?_
              refine jm_aload_n (i := 0) F dX7_weekPasses_49 rfl rfl ?_
              refine jm_getR F dX7_weekPasses_50 fl_X7_9 (lo_T ht) rfl ?_
              refine jm_iload_n (i := 2) F dX7_weekPasses_53 rfl rfl ?_
              refine jm_iald F dX7_weekPasses_54 (la_T_2 ht) (fun v10 => ?_)
              refine jm_iconst F dX7_weekPasses_55 kc_1 ?_
              refine jm_iadd F dX7_weekPasses_56 ?_
              refine jm_mmin F dX7_weekPasses_57 tw_484 tw_485 tw_92 tw_486 ⟨Nat.le_of_ble_eq_true rfl, Nat.le_of_ble_eq_true rfl⟩ ?_
              refine jm_iast F dX7_weekPasses_60 (la_T_2 ht) (fun M11 => ?_)
              exact jm_weakD F (lv' := [some (.ref (jm_a E t 0)), some (.int p1), some (.int s2.1), none]) ⟨rfl, rfl, rfl, trivial⟩ (fun h => h)
            · exact jm_weakD F (lv' := [some (.ref (jm_a E t 0)), some (.int p1), some (.int s2.1), none]) ⟨rfl, rfl, rfl, trivial⟩ (fun h => h)
        · refine jm_iload_n (i := 1) F dX7_weekPasses_61 rfl rfl ?_
          refine jm_if_eq F dX7_weekPasses_62 (fun c12 => ?_) (fun c12 => ?_)
          · refine jm_iinc (i := 2) (lv' := [some (.ref (jm_a E t 0)), some (.int p1), some (.int (s2.1 + 1)), none]) F dX7_weekPasses_70 kc_1 rfl (by decide) rfl rfl ?_
            refine jm_goto F dX7_weekPasses_73 ?_
            exact jm_weakD F (lv' := [some (.ref (jm_a E t 0)), some (.int p1), some (.int (s2.1 + 1)), none]) ⟨rfl, rfl, rfl, trivial⟩ (fun h => h)
          · refine jm_aload_n (i := 0) F dX7_weekPasses_65 rfl rfl ?_
            refine jm_iload_n (i := 2) F dX7_weekPasses_66 rfl rfl ?_
            refine jm_callV (As := [.int s2.1]) (st := []) (rv := fun _ => none) (mm := fun r => r) F dX7_weekPasses_67 qX7_119 rfl (lo_T ht) rfl (fun r h => kT_readNext E hE ht h) rfl (Nat.le_of_ble_eq_true rfl) ⟨Nat.le_of_ble_eq_true rfl, Nat.le_of_ble_eq_true rfl⟩ (fun r13 => ?_)
            refine jm_iinc (i := 2) (lv' := [some (.ref (jm_a E t 0)), some (.int p1), some (.int (s2.1 + 1)), none]) F dX7_weekPasses_70 kc_1 rfl (by decide) rfl rfl ?_
            refine jm_goto F dX7_weekPasses_73 ?_
            exact jm_weakD F (lv' := [some (.ref (jm_a E t 0)), some (.int p1), some (.int (s2.1 + 1)), none]) ⟨rfl, rfl, rfl, trivial⟩ (fun h => h)
    · exact jm_vret F dX7_weekPasses_76 (fun h => h)
  exact G r h hz
theorem dX7_weeksPass_0 : jm_d cX7_weeksPass 0 (.iconst 0) 1 1 := ⟨by decide +kernel, rfl⟩
theorem dX7_weeksPass_1 : jm_d cX7_weeksPass 1 (.istore_n 2) 1 2 := ⟨by decide +kernel, rfl⟩
theorem dX7_weeksPass_2 : jm_d cX7_weeksPass 2 (.iload_n 2) 1 3 := ⟨by decide +kernel, rfl⟩
theorem dX7_weeksPass_3 : jm_d cX7_weeksPass 3 (.iload_n 1) 1 4 := ⟨by decide +kernel, rfl⟩
theorem dX7_weeksPass_4 : jm_b cX7_weeksPass 4 (.if_icmp .ge) 7 18 := ⟨14, by decide +kernel, rfl, by decide⟩
theorem dX7_weeksPass_7 : jm_d cX7_weeksPass 7 (.aload_n 0) 1 8 := ⟨by decide +kernel, rfl⟩
theorem dX7_weeksPass_8 : jm_d cX7_weeksPass 8 (.iconst 1) 1 9 := ⟨by decide +kernel, rfl⟩
theorem dX7_weeksPass_9 : jm_d cX7_weeksPass 9 (.invokevirtual 115) 3 12 := ⟨by decide +kernel, rfl⟩
theorem dX7_weeksPass_12 : jm_d cX7_weeksPass 12 (.iinc 2 1) 3 15 := ⟨by decide +kernel, rfl⟩
theorem dX7_weeksPass_15 : jm_b cX7_weeksPass 15 .goto 18 2 := ⟨(-13), by decide +kernel, rfl, by decide⟩
theorem dX7_weeksPass_18 : jm_d cX7_weeksPass 18 (.return_) 1 19 := ⟨by decide +kernel, rfl⟩
set_option maxHeartbeats 4000000 in
set_option maxRecDepth 100000 in
theorem kT_weeksPass (E : jm_Ev) (hE : jm_dj E jm_LC) {M : jm_M} {t : Nat} {p1 : Int32} (ht : jm_isT t) {r : jm_M} (h : sT_weeksPass M t p1 = some r) : jm_Ct E jm_LC yX7_weeksPass cX7_weeksPass 3 none 3 68 [.ref (jm_a E t 0), .int p1] M none r := by
  refine jm_enter (lv := [some (.ref (jm_a E t 0)), some (.int p1), none]) hE (by decide) (Nat.le_of_ble_eq_true rfl) rfl ?_
  intro z w F hz
  have G : jm_G w 0 [some (.ref (jm_a E t 0)), some (.int p1), none] [] M (sT_weeksPass M t p1) (fun e => z none e) := by
    unfold sT_weeksPass
    refine jm_iconst F dX7_weeksPass_0 kc_0 ?_
    refine jm_istore_n (i := 2) (lv' := [some (.ref (jm_a E t 0)), some (.int p1), some (.int 0)]) F dX7_weeksPass_1 rfl (by decide) rfl rfl ?_
    refine jm_bind (pcJ := 18) (lvJ := fun e4 => [none, none, none]) (stJ := fun _ => []) (MJ := fun e4 => e4) ?_ (fun e4 => ?_)
    · refine jm_weak F (lv' := [some (.ref (jm_a E t 0)), some (.int p1), some (.int 0)]) ⟨rfl, rfl, rfl, trivial⟩ ?_
      refine jm_loopR (lvH := fun s1 => [some (.ref (jm_a E t 0)), some (.int p1), some (.int s1.1)]) (MH := fun s1 => s1.2) (fun s1 => ?_) jm_N (0, M)
      unfold sT_weeksPass_L2
      refine jm_iload_n (i := 2) F dX7_weeksPass_2 rfl rfl ?_
      refine jm_iload_n (i := 1) F dX7_weeksPass_3 rfl rfl ?_
      refine jm_icmp_ge F dX7_weeksPass_4 (fun c2 => ?_) (fun c2 => ?_)
      · exact jm_weakD F (lv' := [none, none, none]) trivial (fun h => h)
      · refine jm_aload_n (i := 0) F dX7_weeksPass_7 rfl rfl ?_
        refine jm_iconst F dX7_weeksPass_8 kc_1 ?_
        refine jm_callV (As := [.int 1]) (st := []) (rv := fun _ => none) (mm := fun r => r) F dX7_weeksPass_9 qX7_115 rfl (lo_T ht) rfl (fun r h => kT_weekPasses E hE ht h) rfl (Nat.le_of_ble_eq_true rfl) ⟨Nat.le_of_ble_eq_true rfl, Nat.le_of_ble_eq_true rfl⟩ (fun r3 => ?_)
        refine jm_iinc (i := 2) (lv' := [some (.ref (jm_a E t 0)), some (.int p1), some (.int (s1.1 + 1))]) F dX7_weeksPass_12 kc_1 rfl (by decide) rfl rfl ?_
        refine jm_goto F dX7_weeksPass_15 ?_
        exact jm_weakD F (lv' := [some (.ref (jm_a E t 0)), some (.int p1), some (.int (s1.1 + 1))]) ⟨rfl, rfl, rfl, trivial⟩ (fun h => h)
    · exact jm_vret F dX7_weeksPass_18 (fun h => h)
  exact G r h hz
theorem dX5_takeWeeks_0 : jm_d cX5_takeWeeks 0 (.aload_n 0) 1 1 := ⟨by decide +kernel, rfl⟩
theorem dX5_takeWeeks_1 : jm_d cX5_takeWeeks 1 (.iconst 2) 1 2 := ⟨by decide +kernel, rfl⟩
theorem dX5_takeWeeks_2 : jm_d cX5_takeWeeks 2 (.invokevirtual 91) 3 5 := ⟨by decide +kernel, rfl⟩
theorem dX5_takeWeeks_5 : jm_d cX5_takeWeeks 5 (.istore_n 1) 1 6 := ⟨by decide +kernel, rfl⟩
theorem dX5_takeWeeks_6 : jm_d cX5_takeWeeks 6 (.iload_n 1) 1 7 := ⟨by decide +kernel, rfl⟩
theorem dX5_takeWeeks_7 : jm_d cX5_takeWeeks 7 (.iconst 1) 1 8 := ⟨by decide +kernel, rfl⟩
theorem dX5_takeWeeks_8 : jm_b cX5_takeWeeks 8 (.if_icmp .lt) 11 32 := ⟨24, by decide +kernel, rfl, by decide⟩
theorem dX5_takeWeeks_32 : jm_d cX5_takeWeeks 32 (.iconst 0) 1 33 := ⟨by decide +kernel, rfl⟩
theorem dX5_takeWeeks_33 : jm_d cX5_takeWeeks 33 (.ireturn) 1 34 := ⟨by decide +kernel, rfl⟩
theorem dX5_takeWeeks_11 : jm_d cX5_takeWeeks 11 (.iload_n 1) 1 12 := ⟨by decide +kernel, rfl⟩
theorem dX5_takeWeeks_12 : jm_d cX5_takeWeeks 12 (.bipush 60) 2 14 := ⟨by decide +kernel, rfl⟩
theorem dX5_takeWeeks_14 : jm_b cX5_takeWeeks 14 (.if_icmp .gt) 17 32 := ⟨18, by decide +kernel, rfl, by decide⟩
theorem dX5_takeWeeks_17 : jm_d cX5_takeWeeks 17 (.aload_n 0) 1 18 := ⟨by decide +kernel, rfl⟩
theorem dX5_takeWeeks_18 : jm_d cX5_takeWeeks 18 (.getfield 18) 3 21 := ⟨by decide +kernel, rfl⟩
theorem dX5_takeWeeks_21 : jm_d cX5_takeWeeks 21 (.getfield 139) 3 24 := ⟨by decide +kernel, rfl⟩
theorem dX5_takeWeeks_24 : jm_d cX5_takeWeeks 24 (.iload_n 1) 1 25 := ⟨by decide +kernel, rfl⟩
theorem dX5_takeWeeks_25 : jm_d cX5_takeWeeks 25 (.iadd) 1 26 := ⟨by decide +kernel, rfl⟩
theorem dX5_takeWeeks_26 : jm_d cX5_takeWeeks 26 (.sipush 999) 3 29 := ⟨by decide +kernel, rfl⟩
theorem dX5_takeWeeks_29 : jm_b cX5_takeWeeks 29 (.if_icmp .le) 32 34 := ⟨5, by decide +kernel, rfl, by decide⟩
theorem dX5_takeWeeks_34 : jm_d cX5_takeWeeks 34 (.aload_n 0) 1 35 := ⟨by decide +kernel, rfl⟩
theorem dX5_takeWeeks_35 : jm_d cX5_takeWeeks 35 (.getfield 18) 3 38 := ⟨by decide +kernel, rfl⟩
theorem dX5_takeWeeks_38 : jm_d cX5_takeWeeks 38 (.iload_n 1) 1 39 := ⟨by decide +kernel, rfl⟩
theorem dX5_takeWeeks_39 : jm_d cX5_takeWeeks 39 (.invokevirtual 142) 3 42 := ⟨by decide +kernel, rfl⟩
theorem dX5_takeWeeks_42 : jm_d cX5_takeWeeks 42 (.iconst 1) 1 43 := ⟨by decide +kernel, rfl⟩
theorem dX5_takeWeeks_43 : jm_d cX5_takeWeeks 43 (.ireturn) 1 44 := ⟨by decide +kernel, rfl⟩
set_option maxHeartbeats 4000000 in
set_option maxRecDepth 100000 in
theorem kS_takeWeeks (E : jm_Ev) (hE : jm_dj E jm_LC) {M : jm_M}  {r : Int32 × jm_M} (h : sS_takeWeeks M = some r) : jm_Ct E jm_LC yX5_takeWeeks cX5_takeWeeks 2 (some .boolean) 4 90 [.ref (jm_a E 14 0)] M (some (.int r.1)) r.2 := by
  refine jm_enter (lv := [some (.ref (jm_a E 14 0)), none]) hE (by decide) (Nat.le_of_ble_eq_true rfl) rfl ?_
  intro z w F hz
  have G : jm_G w 0 [some (.ref (jm_a E 14 0)), none] [] M (sS_takeWeeks M) (fun e => z (some (.int e.1)) e.2) := by
    unfold sS_takeWeeks
    refine jm_aload_n (i := 0) F dX5_takeWeeks_0 rfl rfl ?_
    refine jm_iconst F dX5_takeWeeks_1 kc_2 ?_
    refine jm_callV (As := [.int 2]) (st := []) (rv := fun r => some (.int r.1)) (mm := fun r => r.2) F dX5_takeWeeks_2 qX5_91 rfl lo_X5 rfl (fun r h => kS_takeNumber E hE h) rfl (Nat.le_of_ble_eq_true rfl) ⟨Nat.le_of_ble_eq_true rfl, Nat.le_of_ble_eq_true rfl⟩ (fun r1 => ?_)
    refine jm_istore_n (i := 1) (lv' := [some (.ref (jm_a E 14 0)), some (.int r1.1)]) F dX5_takeWeeks_5 rfl (by decide) rfl rfl ?_
    refine jm_iload_n (i := 1) F dX5_takeWeeks_6 rfl rfl ?_
    refine jm_iconst F dX5_takeWeeks_7 kc_1 ?_
    refine jm_icmp_lt F dX5_takeWeeks_8 (fun c2 => ?_) (fun c2 => ?_)
    · refine jm_iconst F dX5_takeWeeks_32 kc_0 ?_
      exact jm_zret F dX5_takeWeeks_33 (Or.inl rfl) (fun h => h)
    · refine jm_iload_n (i := 1) F dX5_takeWeeks_11 rfl rfl ?_
      refine jm_bipush F dX5_takeWeeks_12 kb_60 ?_
      refine jm_icmp_gt F dX5_takeWeeks_14 (fun c3 => ?_) (fun c3 => ?_)
      · refine jm_iconst F dX5_takeWeeks_32 kc_0 ?_
        exact jm_zret F dX5_takeWeeks_33 (Or.inl rfl) (fun h => h)
      · refine jm_aload_n (i := 0) F dX5_takeWeeks_17 rfl rfl ?_
        refine jm_getR F dX5_takeWeeks_18 fl_X5_18 lo_X5 rfl ?_
        refine jm_getI F dX5_takeWeeks_21 fl_X5_139 (lo_T isT_3) rfl ?_
        refine jm_iload_n (i := 1) F dX5_takeWeeks_24 rfl rfl ?_
        refine jm_iadd F dX5_takeWeeks_25 ?_
        refine jm_sipush F dX5_takeWeeks_26 ks_999 ?_
        refine jm_icmp_le F dX5_takeWeeks_29 (fun c4 => ?_) (fun c4 => ?_)
        · refine jm_aload_n (i := 0) F dX5_takeWeeks_34 rfl rfl ?_
          refine jm_getR F dX5_takeWeeks_35 fl_X5_18 lo_X5 rfl ?_
          refine jm_iload_n (i := 1) F dX5_takeWeeks_38 rfl rfl ?_
          refine jm_callV (As := [.int r1.1]) (st := []) (rv := fun _ => none) (mm := fun r => r) F dX5_takeWeeks_39 qX5_142 rfl (lo_T isT_3) rfl (fun r h => kT_weeksPass E hE isT_3 h) rfl (Nat.le_of_ble_eq_true rfl) ⟨Nat.le_of_ble_eq_true rfl, Nat.le_of_ble_eq_true rfl⟩ (fun r5 => ?_)
          refine jm_iconst F dX5_takeWeeks_42 kc_1 ?_
          exact jm_zret F dX5_takeWeeks_43 (Or.inr rfl) (fun h => h)
        · refine jm_iconst F dX5_takeWeeks_32 kc_0 ?_
          exact jm_zret F dX5_takeWeeks_33 (Or.inl rfl) (fun h => h)
  exact G r h hz
end
