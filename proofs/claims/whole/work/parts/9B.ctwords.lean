def jn_zX0 : List Value := [.null, .null, .int 0, .int 0]
def jn_zX1 : List Value := [.null, .null, .null, .int 0]
def jn_zX2 : List Value := [.null, .null, .null, .int 0, .int 0, .int 0, .int 0]
def jn_zX4 : List Value := [.null, .int 0, .int 0]
def jn_zX5 : List Value := [.null, .int 0, .int 0, .null]
def jn_zX7 : List Value := [.int 0, .null, .null, .null, .int 0, .null, .null, .null, .null, .null, .null, .int 0, .int 0, .null, .null]
def jn_zX8 : List Value := [.null, .null, .null, .int 0, .null, .null, .null, .null, .null, .null, .int 0, .null]
def jn_zX9 : List Value := [.null, .null, .null, .null, .null, .null, .null, .null, .null, .null, .null, .null, .null, .int 0, .int 0, .int 0, .int 0, .int 0, .null, .null, .null, .null, .null, .null, .null, .null, .int 0, .int 0, .int 0, .int 0, .int 0, .null, .int 0, .int 0, .int 0, .int 0, .int 0, .null, .null, .null, .null, .int 0, .null, .int 0]
def jn_LT (t : Nat) : jm_Lay := [((t, 0), .inr (.inl (5, jm_townF t))), ((t, 2), .inl 6), ((t, 3), .inl 6), ((t, 4), .inl 6), ((t, 6), .inl 10), ((t, 7), .inl 10), ((t, 8), .inl 10), ((t, 9), .inl 10), ((t, 10), .inl 10), ((t, 11), .inl 10), ((t, 14), .inl 6), ((t, 15), .inl 6)]
def jn_LP (n : Nat) : jm_Lay := (List.range n).flatMap (fun i => jn_LT (5 + i))
def jn_LP8 : jm_Lay := ((13, 0), .inr (.inl (3, jm_fsX4))) :: ((13, 1), .inr (.inr [(5, 0), (6, 0), (7, 0), (8, 0), (9, 0), (10, 0), (11, 0), (12, 0)])) :: jn_LP 8
def jn_LS : jm_Lay := ((14, 0), .inr (.inl (4, jm_fsX5))) :: ([((14, 1), .inl 96)] ++ jn_LT 3)
def jn_LF : jm_Lay := ((15, 0), .inr (.inl (2, jm_fsX2))) :: (jn_LT 4 ++ [((15, 2), .inl 4), ((15, 3), .inl 4)])
def jn_LB : jm_Lay := [((16, 0), .inr (.inl (0, jm_fsX0))), ((16, 1), .inl 10), ((16, 2), .inl 10)]
def jn_LK : jm_Lay := [((17, 0), .inr (.inl (1, jm_fsX1))), ((17, 1), .inl 6), ((17, 2), .inl 64), ((17, 3), .inl 6)]
def jn_LW : jm_Lay := ((0, 0), .inr (.inl (6, jm_fsX8))) :: (jn_LT 1 ++ jn_LP8 ++ jn_LT 2 ++ jn_LS ++ jn_LF ++ jn_LB ++ jn_LK ++ [((0, 9), .inl 10)] ++ [((0, 10), .inl 12)] ++ [((0, 12), .inl 7)])
def jn_Z : jm_M := fun _ _ _ => 0
def jn_M0 : jm_M := fun t j k => if t = 13 ∧ j = 0 ∧ k = 1 then 7 else 0
theorem tw_183 : Cond.arrayClass .int ∈ jm_tb := List.mem_filter.mpr ⟨List.mem_of_getElem? (i := 183) (by decide +kernel), by decide +kernel⟩
theorem tw_101 : Cond.instanceMethod Lib.objectInit ∈ jm_tb := List.mem_filter.mpr ⟨List.mem_of_getElem? (i := 101) (by decide +kernel), by decide +kernel⟩
theorem tw_102 : Cond.code Lib.objectInit ⟨#[0xb1]⟩ 1 none ∈ jm_tb := List.mem_filter.mpr ⟨List.mem_of_getElem? (i := 102) (by decide +kernel), by decide +kernel⟩
theorem tw_265 : Cond.methodLink yX0_init.cls 3 Lib.objectInit ∈ jm_tb := List.mem_filter.mpr ⟨List.mem_of_getElem? (i := 265) (by decide +kernel), by decide +kernel⟩
theorem tw_286 : Cond.methodLink yX1_init.cls 3 Lib.objectInit ∈ jm_tb := List.mem_filter.mpr ⟨List.mem_of_getElem? (i := 286) (by decide +kernel), by decide +kernel⟩
theorem tw_231 : Cond.methodLink yX2_init.cls 3 Lib.objectInit ∈ jm_tb := List.mem_filter.mpr ⟨List.mem_of_getElem? (i := 231) (by decide +kernel), by decide +kernel⟩
theorem tw_189 : Cond.methodLink yX4_init.cls 3 Lib.objectInit ∈ jm_tb := List.mem_filter.mpr ⟨List.mem_of_getElem? (i := 189) (by decide +kernel), by decide +kernel⟩
theorem tw_209 : Cond.methodLink yX5_init.cls 3 Lib.objectInit ∈ jm_tb := List.mem_filter.mpr ⟨List.mem_of_getElem? (i := 209) (by decide +kernel), by decide +kernel⟩
theorem tw_108 : Cond.methodLink yX7_init.cls 3 Lib.objectInit ∈ jm_tb := List.mem_filter.mpr ⟨List.mem_of_getElem? (i := 108) (by decide +kernel), by decide +kernel⟩
theorem tw_100 : Cond.methodLink yX8_init.cls 1 Lib.objectInit ∈ jm_tb := List.mem_filter.mpr ⟨List.mem_of_getElem? (i := 100) (by decide +kernel), by decide +kernel⟩
theorem tw_957 : Cond.methodLink yX9_init.cls 1 Lib.objectInit ∈ jm_tb := List.mem_filter.mpr ⟨List.mem_of_getElem? (i := 957) (by decide +kernel), by decide +kernel⟩
theorem jFi_X7_9 : jn_Fi "WeighedInBooks$Town" 9 5 1 (.array .int) true := ⟨_, _, _, tyX7, rfl, by decide, inX7, tw_114, tyX7_ok, nmX7, rfl, rfl, by decide +kernel⟩
theorem jFi_X7_15 : jn_Fi "WeighedInBooks$Town" 15 5 2 (.array .int) true := ⟨_, _, _, tyX7, rfl, by decide, inX7, tw_116, tyX7_ok, nmX7, rfl, rfl, by decide +kernel⟩
theorem jFi_X7_18 : jn_Fi "WeighedInBooks$Town" 18 5 3 (.array .int) true := ⟨_, _, _, tyX7, rfl, by decide, inX7, tw_118, tyX7_ok, nmX7, rfl, rfl, by decide +kernel⟩
theorem jFi_X7_21 : jn_Fi "WeighedInBooks$Town" 21 5 5 (.array .int) true := ⟨_, _, _, tyX7, rfl, by decide, inX7, tw_125, tyX7_ok, nmX7, rfl, rfl, by decide +kernel⟩
theorem jFi_X7_24 : jn_Fi "WeighedInBooks$Town" 24 5 6 (.array .int) true := ⟨_, _, _, tyX7, rfl, by decide, inX7, tw_128, tyX7_ok, nmX7, rfl, rfl, by decide +kernel⟩
theorem jFi_X7_27 : jn_Fi "WeighedInBooks$Town" 27 5 7 (.array .int) true := ⟨_, _, _, tyX7, rfl, by decide, inX7, tw_131, tyX7_ok, nmX7, rfl, rfl, by decide +kernel⟩
theorem jFi_X7_30 : jn_Fi "WeighedInBooks$Town" 30 5 8 (.array .int) true := ⟨_, _, _, tyX7, rfl, by decide, inX7, tw_134, tyX7_ok, nmX7, rfl, rfl, by decide +kernel⟩
theorem jFi_X7_33 : jn_Fi "WeighedInBooks$Town" 33 5 9 (.array .int) true := ⟨_, _, _, tyX7, rfl, by decide, inX7, tw_138, tyX7_ok, nmX7, rfl, rfl, by decide +kernel⟩
theorem jFi_X7_36 : jn_Fi "WeighedInBooks$Town" 36 5 10 (.array .int) true := ⟨_, _, _, tyX7, rfl, by decide, inX7, tw_142, tyX7_ok, nmX7, rfl, rfl, by decide +kernel⟩
theorem jFi_X7_39 : jn_Fi "WeighedInBooks$Town" 39 5 13 (.array .int) true := ⟨_, _, _, tyX7, rfl, by decide, inX7, tw_150, tyX7_ok, nmX7, rfl, rfl, by decide +kernel⟩
theorem jFi_X7_42 : jn_Fi "WeighedInBooks$Town" 42 5 14 (.array .int) true := ⟨_, _, _, tyX7, rfl, by decide, inX7, tw_151, tyX7_ok, nmX7, rfl, rfl, by decide +kernel⟩
theorem jFi_X0_9 : jn_Fi "WeighedInBooks$Bargain" 9 0 0 (.array .int) true := ⟨_, _, _, tyX0, rfl, by decide, inX0, tw_266, tyX0_ok, nmX0, rfl, rfl, by decide +kernel⟩
theorem jFi_X0_15 : jn_Fi "WeighedInBooks$Bargain" 15 0 1 (.array .int) true := ⟨_, _, _, tyX0, rfl, by decide, inX0, tw_267, tyX0_ok, nmX0, rfl, rfl, by decide +kernel⟩
theorem jFi_X1_9 : jn_Fi "WeighedInBooks$Couples" 9 1 0 (.array .int) true := ⟨_, _, _, tyX1, rfl, by decide, inX1, tw_287, tyX1_ok, nmX1, rfl, rfl, by decide +kernel⟩
theorem jFi_X1_15 : jn_Fi "WeighedInBooks$Couples" 15 1 1 (.array .int) true := ⟨_, _, _, tyX1, rfl, by decide, inX1, tw_288, tyX1_ok, nmX1, rfl, rfl, by decide +kernel⟩
theorem jFi_X1_18 : jn_Fi "WeighedInBooks$Couples" 18 1 2 (.array .int) true := ⟨_, _, _, tyX1, rfl, by decide, inX1, tw_289, tyX1_ok, nmX1, rfl, rfl, by decide +kernel⟩
theorem jFi_X9_7 : jn_Fi "WeighedInBooksModel" 7 7 0 (.array .int) true := ⟨_, _, _, tyX9, rfl, by decide, inX9, tw_958, tyX9_ok, nmX9, rfl, rfl, by decide +kernel⟩
theorem jFi_X9_13 : jn_Fi "WeighedInBooksModel" 13 7 1 (.array .int) true := ⟨_, _, _, tyX9, rfl, by decide, inX9, tw_959, tyX9_ok, nmX9, rfl, rfl, by decide +kernel⟩
theorem jFi_X9_16 : jn_Fi "WeighedInBooksModel" 16 7 2 (.array .int) true := ⟨_, _, _, tyX9, rfl, by decide, inX9, tw_960, tyX9_ok, nmX9, rfl, rfl, by decide +kernel⟩
theorem jFi_X9_19 : jn_Fi "WeighedInBooksModel" 19 7 3 (.array .int) true := ⟨_, _, _, tyX9, rfl, by decide, inX9, tw_961, tyX9_ok, nmX9, rfl, rfl, by decide +kernel⟩
theorem jFi_X9_22 : jn_Fi "WeighedInBooksModel" 22 7 4 (.array .int) true := ⟨_, _, _, tyX9, rfl, by decide, inX9, tw_962, tyX9_ok, nmX9, rfl, rfl, by decide +kernel⟩
theorem jFi_X9_25 : jn_Fi "WeighedInBooksModel" 25 7 5 (.array .int) true := ⟨_, _, _, tyX9, rfl, by decide, inX9, tw_963, tyX9_ok, nmX9, rfl, rfl, by decide +kernel⟩
theorem jFi_X9_28 : jn_Fi "WeighedInBooksModel" 28 7 6 (.array .int) true := ⟨_, _, _, tyX9, rfl, by decide, inX9, tw_964, tyX9_ok, nmX9, rfl, rfl, by decide +kernel⟩
theorem jFi_X9_31 : jn_Fi "WeighedInBooksModel" 31 7 7 (.array .int) true := ⟨_, _, _, tyX9, rfl, by decide, inX9, tw_965, tyX9_ok, nmX9, rfl, rfl, by decide +kernel⟩
theorem jFi_X9_34 : jn_Fi "WeighedInBooksModel" 34 7 8 (.array .int) true := ⟨_, _, _, tyX9, rfl, by decide, inX9, tw_966, tyX9_ok, nmX9, rfl, rfl, by decide +kernel⟩
theorem jFi_X9_37 : jn_Fi "WeighedInBooksModel" 37 7 9 (.array .int) true := ⟨_, _, _, tyX9, rfl, by decide, inX9, tw_967, tyX9_ok, nmX9, rfl, rfl, by decide +kernel⟩
theorem jFi_X9_40 : jn_Fi "WeighedInBooksModel" 40 7 10 (.array .int) true := ⟨_, _, _, tyX9, rfl, by decide, inX9, tw_968, tyX9_ok, nmX9, rfl, rfl, by decide +kernel⟩
theorem jFi_X9_43 : jn_Fi "WeighedInBooksModel" 43 7 11 (.array .int) true := ⟨_, _, _, tyX9, rfl, by decide, inX9, tw_969, tyX9_ok, nmX9, rfl, rfl, by decide +kernel⟩
theorem jFi_X9_46 : jn_Fi "WeighedInBooksModel" 46 7 12 (.array .int) true := ⟨_, _, _, tyX9, rfl, by decide, inX9, tw_970, tyX9_ok, nmX9, rfl, rfl, by decide +kernel⟩
theorem jFi_X9_49 : jn_Fi "WeighedInBooksModel" 49 7 18 (.array .int) true := ⟨_, _, _, tyX9, rfl, by decide, inX9, tw_976, tyX9_ok, nmX9, rfl, rfl, by decide +kernel⟩
theorem jFi_X9_52 : jn_Fi "WeighedInBooksModel" 52 7 19 (.array .int) true := ⟨_, _, _, tyX9, rfl, by decide, inX9, tw_977, tyX9_ok, nmX9, rfl, rfl, by decide +kernel⟩
theorem jFi_X9_55 : jn_Fi "WeighedInBooksModel" 55 7 20 (.array .int) true := ⟨_, _, _, tyX9, rfl, by decide, inX9, tw_978, tyX9_ok, nmX9, rfl, rfl, by decide +kernel⟩
theorem jFi_X9_58 : jn_Fi "WeighedInBooksModel" 58 7 21 (.array .int) true := ⟨_, _, _, tyX9, rfl, by decide, inX9, tw_979, tyX9_ok, nmX9, rfl, rfl, by decide +kernel⟩
theorem jFi_X9_61 : jn_Fi "WeighedInBooksModel" 61 7 22 (.array .int) true := ⟨_, _, _, tyX9, rfl, by decide, inX9, tw_980, tyX9_ok, nmX9, rfl, rfl, by decide +kernel⟩
theorem jFi_X9_64 : jn_Fi "WeighedInBooksModel" 64 7 23 (.array .int) true := ⟨_, _, _, tyX9, rfl, by decide, inX9, tw_981, tyX9_ok, nmX9, rfl, rfl, by decide +kernel⟩
theorem jFi_X9_67 : jn_Fi "WeighedInBooksModel" 67 7 24 (.array .int) true := ⟨_, _, _, tyX9, rfl, by decide, inX9, tw_982, tyX9_ok, nmX9, rfl, rfl, by decide +kernel⟩
theorem jFi_X9_70 : jn_Fi "WeighedInBooksModel" 70 7 25 (.array .int) true := ⟨_, _, _, tyX9, rfl, by decide, inX9, tw_983, tyX9_ok, nmX9, rfl, rfl, by decide +kernel⟩
theorem jFi_X9_73 : jn_Fi "WeighedInBooksModel" 73 7 31 (.array .int) true := ⟨_, _, _, tyX9, rfl, by decide, inX9, tw_989, tyX9_ok, nmX9, rfl, rfl, by decide +kernel⟩
theorem jFi_X9_76 : jn_Fi "WeighedInBooksModel" 76 7 37 (.array .int) true := ⟨_, _, _, tyX9, rfl, by decide, inX9, tw_995, tyX9_ok, nmX9, rfl, rfl, by decide +kernel⟩
theorem jFi_X9_79 : jn_Fi "WeighedInBooksModel" 79 7 38 (.array .int) true := ⟨_, _, _, tyX9, rfl, by decide, inX9, tw_996, tyX9_ok, nmX9, rfl, rfl, by decide +kernel⟩
theorem jFi_X9_82 : jn_Fi "WeighedInBooksModel" 82 7 39 (.array .int) true := ⟨_, _, _, tyX9, rfl, by decide, inX9, tw_997, tyX9_ok, nmX9, rfl, rfl, by decide +kernel⟩
theorem jFi_X9_85 : jn_Fi "WeighedInBooksModel" 85 7 40 (.array .int) true := ⟨_, _, _, tyX9, rfl, by decide, inX9, tw_998, tyX9_ok, nmX9, rfl, rfl, by decide +kernel⟩
theorem jFi_X9_88 : jn_Fi "WeighedInBooksModel" 88 7 42 (.array .int) true := ⟨_, _, _, tyX9, rfl, by decide, inX9, tw_1000, tyX9_ok, nmX9, rfl, rfl, by decide +kernel⟩
theorem jFi_X9_91 : jn_Fi "WeighedInBooksModel" 91 7 13 .int false := ⟨_, _, _, tyX9, rfl, by decide, inX9, tw_971, tyX9_ok, nmX9, rfl, rfl, by decide +kernel⟩
theorem jFi_X5_9 : jn_Fi "WeighedInBooks$Statements" 9 4 0 (.array .int) true := ⟨_, _, _, tyX5, rfl, by decide, inX5, tw_212, tyX5_ok, nmX5, rfl, rfl, by decide +kernel⟩
theorem tw_210 : Cond.classLink "WeighedInBooks$Statements" 15 "WeighedInBooks$Town" ∈ jm_tb := List.mem_filter.mpr ⟨List.mem_of_getElem? (i := 210) (by decide +kernel), by decide +kernel⟩
theorem tw_104 : Cond.instantiable "WeighedInBooks$Town" 15 ∈ jm_tb := List.mem_filter.mpr ⟨List.mem_of_getElem? (i := 104) (by decide +kernel), by decide +kernel⟩
theorem jnK_X5_15 : jn_K "WeighedInBooks$Statements" 15 5 15 jn_zX7 := ⟨_, _, tyX7, rfl, inX7, tyX7_ok, tw_210, tw_104, tw_83, by decide +kernel⟩
theorem tw_106 : Cond.instanceMethod yX7_init ∈ jm_tb := List.mem_filter.mpr ⟨List.mem_of_getElem? (i := 106) (by decide +kernel), by decide +kernel⟩
theorem tw_107 : Cond.code yX7_init cX7_init 1 none ∈ jm_tb := List.mem_filter.mpr ⟨List.mem_of_getElem? (i := 107) (by decide +kernel), by decide +kernel⟩
theorem jnC_X5_17 : jn_CN "WeighedInBooks$Statements" 17 yX7_init "WeighedInBooks" cX7_init 1 := ⟨tw_106, tw_83, tw_107, by decide, by decide, by decide +kernel, rfl, Or.inl (fun _ h => h.2.2.2.2.2.2.1)⟩
theorem jFi_X5_18 : jn_Fi "WeighedInBooks$Statements" 18 4 3 (.object "WeighedInBooks$Town") true := ⟨_, _, _, tyX5, rfl, by decide, inX5, tw_216, tyX5_ok, nmX5, rfl, rfl, by decide +kernel⟩
theorem tw_232 : Cond.classLink "WeighedInBooks$Foresight" 9 "WeighedInBooks$Town" ∈ jm_tb := List.mem_filter.mpr ⟨List.mem_of_getElem? (i := 232) (by decide +kernel), by decide +kernel⟩
theorem jnK_X2_9 : jn_K "WeighedInBooks$Foresight" 9 5 15 jn_zX7 := ⟨_, _, tyX7, rfl, inX7, tyX7_ok, tw_232, tw_104, tw_83, by decide +kernel⟩
theorem jnC_X2_11 : jn_CN "WeighedInBooks$Foresight" 11 yX7_init "WeighedInBooks" cX7_init 1 := ⟨tw_106, tw_83, tw_107, by decide, by decide, by decide +kernel, rfl, Or.inl (fun _ h => h.2.2.2.2.2.2.2.1)⟩
theorem jFi_X2_12 : jn_Fi "WeighedInBooks$Foresight" 12 2 0 (.object "WeighedInBooks$Town") true := ⟨_, _, _, tyX2, rfl, by decide, inX2, tw_234, tyX2_ok, nmX2, rfl, rfl, by decide +kernel⟩
theorem jFi_X2_18 : jn_Fi "WeighedInBooks$Foresight" 18 2 1 (.array .int) true := ⟨_, _, _, tyX2, rfl, by decide, inX2, tw_235, tyX2_ok, nmX2, rfl, rfl, by decide +kernel⟩
theorem jFi_X2_22 : jn_Fi "WeighedInBooks$Foresight" 22 2 2 (.array .int) true := ⟨_, _, _, tyX2, rfl, by decide, inX2, tw_236, tyX2_ok, nmX2, rfl, rfl, by decide +kernel⟩
theorem tw_190 : Cond.classLink "WeighedInBooks$Past" 9 "WeighedInBooks$Town" ∈ jm_tb := List.mem_filter.mpr ⟨List.mem_of_getElem? (i := 190) (by decide +kernel), by decide +kernel⟩
theorem jnK_X4_9 : jn_K "WeighedInBooks$Past" 9 5 15 jn_zX7 := ⟨_, _, tyX7, rfl, inX7, tyX7_ok, tw_190, tw_104, tw_83, by decide +kernel⟩
theorem jnC_X4_21 : jn_CN "WeighedInBooks$Past" 21 yX7_init "WeighedInBooks" cX7_init 1 := ⟨tw_106, tw_83, tw_107, by decide, by decide, by decide +kernel, rfl, Or.inl (fun _ h => h.2.2.2.2.2.1)⟩
theorem jFi_X4_11 : jn_Fi "WeighedInBooks$Past" 11 3 0 (.array (.object "WeighedInBooks$Town")) true := ⟨_, _, _, tyX4, rfl, by decide, inX4, tw_193, tyX4_ok, nmX4, rfl, rfl, by decide +kernel⟩
theorem jFi_X4_17 : jn_Fi "WeighedInBooks$Past" 17 3 1 .int false := ⟨_, _, _, tyX4, rfl, by decide, inX4, tw_194, tyX4_ok, nmX4, rfl, rfl, by decide +kernel⟩
theorem tw_103 : Cond.classLink "WeighedInBooks" 7 "WeighedInBooks$Town" ∈ jm_tb := List.mem_filter.mpr ⟨List.mem_of_getElem? (i := 103) (by decide +kernel), by decide +kernel⟩
theorem jnK_X8_7 : jn_K "WeighedInBooks" 7 5 15 jn_zX7 := ⟨_, _, tyX7, rfl, inX7, tyX7_ok, tw_103, tw_104, tw_83, by decide +kernel⟩
theorem jnC_X8_9 : jn_CN "WeighedInBooks" 9 yX7_init "WeighedInBooks" cX7_init 1 := ⟨tw_106, tw_83, tw_107, by decide, by decide, by decide +kernel, rfl, Or.inl (fun _ h => h.1)⟩
theorem jFi_X8_10 : jn_Fi "WeighedInBooks" 10 6 0 (.object "WeighedInBooks$Town") true := ⟨_, _, _, tyX8, rfl, by decide, inX8, tw_302, tyX8_ok, nmX8, rfl, rfl, by decide +kernel⟩
theorem tw_184 : Cond.classLink "WeighedInBooks" 16 "WeighedInBooks$Past" ∈ jm_tb := List.mem_filter.mpr ⟨List.mem_of_getElem? (i := 184) (by decide +kernel), by decide +kernel⟩
theorem tw_185 : Cond.instantiable "WeighedInBooks$Past" 3 ∈ jm_tb := List.mem_filter.mpr ⟨List.mem_of_getElem? (i := 185) (by decide +kernel), by decide +kernel⟩
theorem jnK_X8_16 : jn_K "WeighedInBooks" 16 3 3 jn_zX4 := ⟨_, _, tyX4, rfl, inX4, tyX4_ok, tw_184, tw_185, tw_84, by decide +kernel⟩
theorem tw_187 : Cond.instanceMethod yX4_init ∈ jm_tb := List.mem_filter.mpr ⟨List.mem_of_getElem? (i := 187) (by decide +kernel), by decide +kernel⟩
theorem tw_188 : Cond.code yX4_init cX4_init 2 none ∈ jm_tb := List.mem_filter.mpr ⟨List.mem_of_getElem? (i := 188) (by decide +kernel), by decide +kernel⟩
theorem tw_186 : Cond.methodLink "WeighedInBooks" 18 yX4_init ∈ jm_tb := List.mem_filter.mpr ⟨List.mem_of_getElem? (i := 186) (by decide +kernel), by decide +kernel⟩
theorem jnC_X8_18 : jn_CN "WeighedInBooks" 18 yX4_init "WeighedInBooks" cX4_init 2 := ⟨tw_187, tw_84, tw_188, by decide, by decide, by decide +kernel, rfl, Or.inr tw_186⟩
theorem jFi_X8_19 : jn_Fi "WeighedInBooks" 19 6 1 (.object "WeighedInBooks$Past") true := ⟨_, _, _, tyX8, rfl, by decide, inX8, tw_303, tyX8_ok, nmX8, rfl, rfl, by decide +kernel⟩
theorem jFi_X8_23 : jn_Fi "WeighedInBooks" 23 6 2 (.object "WeighedInBooks$Town") true := ⟨_, _, _, tyX8, rfl, by decide, inX8, tw_304, tyX8_ok, nmX8, rfl, rfl, by decide +kernel⟩
theorem tw_204 : Cond.classLink "WeighedInBooks" 26 "WeighedInBooks$Statements" ∈ jm_tb := List.mem_filter.mpr ⟨List.mem_of_getElem? (i := 204) (by decide +kernel), by decide +kernel⟩
theorem tw_205 : Cond.instantiable "WeighedInBooks$Statements" 4 ∈ jm_tb := List.mem_filter.mpr ⟨List.mem_of_getElem? (i := 205) (by decide +kernel), by decide +kernel⟩
theorem jnK_X8_26 : jn_K "WeighedInBooks" 26 4 4 jn_zX5 := ⟨_, _, tyX5, rfl, inX5, tyX5_ok, tw_204, tw_205, tw_85, by decide +kernel⟩
theorem tw_207 : Cond.instanceMethod yX5_init ∈ jm_tb := List.mem_filter.mpr ⟨List.mem_of_getElem? (i := 207) (by decide +kernel), by decide +kernel⟩
theorem tw_208 : Cond.code yX5_init cX5_init 1 none ∈ jm_tb := List.mem_filter.mpr ⟨List.mem_of_getElem? (i := 208) (by decide +kernel), by decide +kernel⟩
theorem jnC_X8_28 : jn_CN "WeighedInBooks" 28 yX5_init "WeighedInBooks" cX5_init 1 := ⟨tw_207, tw_85, tw_208, by decide, by decide, by decide +kernel, rfl, Or.inl (fun _ h => h.2.1)⟩
theorem jFi_X8_29 : jn_Fi "WeighedInBooks" 29 6 4 (.object "WeighedInBooks$Statements") true := ⟨_, _, _, tyX8, rfl, by decide, inX8, tw_306, tyX8_ok, nmX8, rfl, rfl, by decide +kernel⟩
theorem tw_226 : Cond.classLink "WeighedInBooks" 33 "WeighedInBooks$Foresight" ∈ jm_tb := List.mem_filter.mpr ⟨List.mem_of_getElem? (i := 226) (by decide +kernel), by decide +kernel⟩
theorem tw_227 : Cond.instantiable "WeighedInBooks$Foresight" 7 ∈ jm_tb := List.mem_filter.mpr ⟨List.mem_of_getElem? (i := 227) (by decide +kernel), by decide +kernel⟩
theorem jnK_X8_33 : jn_K "WeighedInBooks" 33 2 7 jn_zX2 := ⟨_, _, tyX2, rfl, inX2, tyX2_ok, tw_226, tw_227, tw_86, by decide +kernel⟩
theorem tw_229 : Cond.instanceMethod yX2_init ∈ jm_tb := List.mem_filter.mpr ⟨List.mem_of_getElem? (i := 229) (by decide +kernel), by decide +kernel⟩
theorem tw_230 : Cond.code yX2_init cX2_init 1 none ∈ jm_tb := List.mem_filter.mpr ⟨List.mem_of_getElem? (i := 230) (by decide +kernel), by decide +kernel⟩
theorem jnC_X8_35 : jn_CN "WeighedInBooks" 35 yX2_init "WeighedInBooks" cX2_init 1 := ⟨tw_229, tw_86, tw_230, by decide, by decide, by decide +kernel, rfl, Or.inl (fun _ h => h.2.2.1)⟩
theorem jFi_X8_36 : jn_Fi "WeighedInBooks" 36 6 5 (.object "WeighedInBooks$Foresight") true := ⟨_, _, _, tyX8, rfl, by decide, inX8, tw_307, tyX8_ok, nmX8, rfl, rfl, by decide +kernel⟩
theorem tw_260 : Cond.classLink "WeighedInBooks" 40 "WeighedInBooks$Bargain" ∈ jm_tb := List.mem_filter.mpr ⟨List.mem_of_getElem? (i := 260) (by decide +kernel), by decide +kernel⟩
theorem tw_261 : Cond.instantiable "WeighedInBooks$Bargain" 4 ∈ jm_tb := List.mem_filter.mpr ⟨List.mem_of_getElem? (i := 261) (by decide +kernel), by decide +kernel⟩
theorem jnK_X8_40 : jn_K "WeighedInBooks" 40 0 4 jn_zX0 := ⟨_, _, tyX0, rfl, inX0, tyX0_ok, tw_260, tw_261, tw_87, by decide +kernel⟩
theorem tw_263 : Cond.instanceMethod yX0_init ∈ jm_tb := List.mem_filter.mpr ⟨List.mem_of_getElem? (i := 263) (by decide +kernel), by decide +kernel⟩
theorem tw_264 : Cond.code yX0_init cX0_init 1 none ∈ jm_tb := List.mem_filter.mpr ⟨List.mem_of_getElem? (i := 264) (by decide +kernel), by decide +kernel⟩
theorem jnC_X8_42 : jn_CN "WeighedInBooks" 42 yX0_init "WeighedInBooks" cX0_init 1 := ⟨tw_263, tw_87, tw_264, by decide, by decide, by decide +kernel, rfl, Or.inl (fun _ h => h.2.2.2.1)⟩
theorem jFi_X8_43 : jn_Fi "WeighedInBooks" 43 6 6 (.object "WeighedInBooks$Bargain") true := ⟨_, _, _, tyX8, rfl, by decide, inX8, tw_308, tyX8_ok, nmX8, rfl, rfl, by decide +kernel⟩
theorem tw_281 : Cond.classLink "WeighedInBooks" 47 "WeighedInBooks$Couples" ∈ jm_tb := List.mem_filter.mpr ⟨List.mem_of_getElem? (i := 281) (by decide +kernel), by decide +kernel⟩
theorem tw_282 : Cond.instantiable "WeighedInBooks$Couples" 4 ∈ jm_tb := List.mem_filter.mpr ⟨List.mem_of_getElem? (i := 282) (by decide +kernel), by decide +kernel⟩
theorem jnK_X8_47 : jn_K "WeighedInBooks" 47 1 4 jn_zX1 := ⟨_, _, tyX1, rfl, inX1, tyX1_ok, tw_281, tw_282, tw_88, by decide +kernel⟩
theorem tw_284 : Cond.instanceMethod yX1_init ∈ jm_tb := List.mem_filter.mpr ⟨List.mem_of_getElem? (i := 284) (by decide +kernel), by decide +kernel⟩
theorem tw_285 : Cond.code yX1_init cX1_init 1 none ∈ jm_tb := List.mem_filter.mpr ⟨List.mem_of_getElem? (i := 285) (by decide +kernel), by decide +kernel⟩
theorem jnC_X8_49 : jn_CN "WeighedInBooks" 49 yX1_init "WeighedInBooks" cX1_init 1 := ⟨tw_284, tw_88, tw_285, by decide, by decide, by decide +kernel, rfl, Or.inl (fun _ h => h.2.2.2.2.1)⟩
theorem jFi_X8_50 : jn_Fi "WeighedInBooks" 50 6 7 (.object "WeighedInBooks$Couples") true := ⟨_, _, _, tyX8, rfl, by decide, inX8, tw_309, tyX8_ok, nmX8, rfl, rfl, by decide +kernel⟩
theorem jFi_X8_54 : jn_Fi "WeighedInBooks" 54 6 8 (.array .int) true := ⟨_, _, _, tyX8, rfl, by decide, inX8, tw_310, tyX8_ok, nmX8, rfl, rfl, by decide +kernel⟩
theorem jFi_X8_58 : jn_Fi "WeighedInBooks" 58 6 9 (.array .int) true := ⟨_, _, _, tyX8, rfl, by decide, inX8, tw_311, tyX8_ok, nmX8, rfl, rfl, by decide +kernel⟩
theorem jFi_X8_61 : jn_Fi "WeighedInBooks" 61 6 11 (.array .int) true := ⟨_, _, _, tyX8, rfl, by decide, inX8, tw_313, tyX8_ok, nmX8, rfl, rfl, by decide +kernel⟩
theorem tw_95 : Cond.classLink "WeighedInBooksLaw" 7 "WeighedInBooks" ∈ jm_tb := List.mem_filter.mpr ⟨List.mem_of_getElem? (i := 95) (by decide +kernel), by decide +kernel⟩
theorem tw_96 : Cond.instantiable "WeighedInBooks" 12 ∈ jm_tb := List.mem_filter.mpr ⟨List.mem_of_getElem? (i := 96) (by decide +kernel), by decide +kernel⟩
theorem jnK_L_7 : jn_K "WeighedInBooksLaw" 7 6 12 jn_zX8 := ⟨_, _, tyX8, rfl, inX8, tyX8_ok, tw_95, tw_96, tw_82, by decide +kernel⟩
theorem tw_952 : Cond.classLink "WeighedInBooksLaw" 10 "WeighedInBooksModel" ∈ jm_tb := List.mem_filter.mpr ⟨List.mem_of_getElem? (i := 952) (by decide +kernel), by decide +kernel⟩
theorem tw_953 : Cond.instantiable "WeighedInBooksModel" 44 ∈ jm_tb := List.mem_filter.mpr ⟨List.mem_of_getElem? (i := 953) (by decide +kernel), by decide +kernel⟩
theorem jnK_L_10 : jn_K "WeighedInBooksLaw" 10 7 44 jn_zX9 := ⟨_, _, tyX9, rfl, inX9, tyX9_ok, tw_952, tw_953, tw_89, by decide +kernel⟩
theorem tw_98 : Cond.instanceMethod yX8_init ∈ jm_tb := List.mem_filter.mpr ⟨List.mem_of_getElem? (i := 98) (by decide +kernel), by decide +kernel⟩
theorem tw_99 : Cond.code yX8_init cX8_init 1 none ∈ jm_tb := List.mem_filter.mpr ⟨List.mem_of_getElem? (i := 99) (by decide +kernel), by decide +kernel⟩
theorem tw_97 : Cond.methodLink "WeighedInBooksLaw" 9 yX8_init ∈ jm_tb := List.mem_filter.mpr ⟨List.mem_of_getElem? (i := 97) (by decide +kernel), by decide +kernel⟩
theorem jnC_L_9 : jn_CN "WeighedInBooksLaw" 9 yX8_init "WeighedInBooks" cX8_init 1 := ⟨tw_98, tw_82, tw_99, by decide, by decide, by decide +kernel, rfl, Or.inr tw_97⟩
theorem tw_955 : Cond.instanceMethod yX9_init ∈ jm_tb := List.mem_filter.mpr ⟨List.mem_of_getElem? (i := 955) (by decide +kernel), by decide +kernel⟩
theorem tw_956 : Cond.code yX9_init cX9_init 1 none ∈ jm_tb := List.mem_filter.mpr ⟨List.mem_of_getElem? (i := 956) (by decide +kernel), by decide +kernel⟩
theorem tw_954 : Cond.methodLink "WeighedInBooksLaw" 12 yX9_init ∈ jm_tb := List.mem_filter.mpr ⟨List.mem_of_getElem? (i := 954) (by decide +kernel), by decide +kernel⟩
theorem jnC_L_12 : jn_CN "WeighedInBooksLaw" 12 yX9_init "WeighedInBooks" cX9_init 1 := ⟨tw_955, tw_89, tw_956, by decide, by decide, by decide +kernel, rfl, Or.inr tw_954⟩
