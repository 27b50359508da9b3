theorem inX0a : ∀ w ∈ u_ws RX0 TX0 4, w ∈ lw_tbl := by decide +kernel
theorem inX0b : ∀ w ∈ u_ws RX0 TX0 4, goodWord w = true := by decide +kernel
theorem inX0 : ∀ w ∈ u_ws RX0 TX0 4, w ∈ jm_tb := fun w hw => List.mem_filter.mpr ⟨inX0a w hw, inX0b w hw⟩
theorem inX1a : ∀ w ∈ u_ws RX1 TX1 4, w ∈ lw_tbl := by decide +kernel
theorem inX1b : ∀ w ∈ u_ws RX1 TX1 4, goodWord w = true := by decide +kernel
theorem inX1 : ∀ w ∈ u_ws RX1 TX1 4, w ∈ jm_tb := fun w hw => List.mem_filter.mpr ⟨inX1a w hw, inX1b w hw⟩
theorem inX2a : ∀ w ∈ u_ws RX2 TX2 7, w ∈ lw_tbl := by decide +kernel
theorem inX2b : ∀ w ∈ u_ws RX2 TX2 7, goodWord w = true := by decide +kernel
theorem inX2 : ∀ w ∈ u_ws RX2 TX2 7, w ∈ jm_tb := fun w hw => List.mem_filter.mpr ⟨inX2a w hw, inX2b w hw⟩
theorem inX4a : ∀ w ∈ u_ws RX4 TX4 3, w ∈ lw_tbl := by decide +kernel
theorem inX4b : ∀ w ∈ u_ws RX4 TX4 3, goodWord w = true := by decide +kernel
theorem inX4 : ∀ w ∈ u_ws RX4 TX4 3, w ∈ jm_tb := fun w hw => List.mem_filter.mpr ⟨inX4a w hw, inX4b w hw⟩
theorem inX5a : ∀ w ∈ u_ws RX5 TX5 4, w ∈ lw_tbl := by decide +kernel
theorem inX5b : ∀ w ∈ u_ws RX5 TX5 4, goodWord w = true := by decide +kernel
theorem inX5 : ∀ w ∈ u_ws RX5 TX5 4, w ∈ jm_tb := fun w hw => List.mem_filter.mpr ⟨inX5a w hw, inX5b w hw⟩
theorem inX7a : ∀ w ∈ u_ws RX7 TX7 15, w ∈ lw_tbl := by decide +kernel
theorem inX7b : ∀ w ∈ u_ws RX7 TX7 15, goodWord w = true := by decide +kernel
theorem inX7 : ∀ w ∈ u_ws RX7 TX7 15, w ∈ jm_tb := fun w hw => List.mem_filter.mpr ⟨inX7a w hw, inX7b w hw⟩
theorem inX8a : ∀ w ∈ u_ws RX8 TX8 12, w ∈ lw_tbl := by decide +kernel
theorem inX8b : ∀ w ∈ u_ws RX8 TX8 12, goodWord w = true := by decide +kernel
theorem inX8 : ∀ w ∈ u_ws RX8 TX8 12, w ∈ jm_tb := fun w hw => List.mem_filter.mpr ⟨inX8a w hw, inX8b w hw⟩
theorem inX9a : ∀ w ∈ u_ws RX9 TX9 44, w ∈ lw_tbl := by decide +kernel
theorem inX9b : ∀ w ∈ u_ws RX9 TX9 44, goodWord w = true := by decide +kernel
theorem inX9 : ∀ w ∈ u_ws RX9 TX9 44, w ∈ jm_tb := fun w hw => List.mem_filter.mpr ⟨inX9a w hw, inX9b w hw⟩
theorem kc_1 : Int32.ofInt 1 = 1 := by decide
theorem kc_2 : Int32.ofInt 2 = 2 := by decide
theorem kc_4 : Int32.ofInt 4 = 4 := by decide
theorem kb_8 : (Int8.ofInt 8).toInt32 = 8 := by decide
theorem kb_16 : (Int8.ofInt 16).toInt32 = 16 := by decide
theorem kb_63 : (Int8.ofInt 63).toInt32 = 63 := by decide
theorem kb_96 : (Int8.ofInt 96).toInt32 = 96 := by decide
theorem ks_255 : (Int16.ofInt 255).toInt32 = 255 := by decide
theorem kb_m6 : (Int8.ofInt (-6)).toInt32 = (-6) := by decide
theorem kb_m4 : (Int8.ofInt (-4)).toInt32 = (-4) := by decide
theorem kc_m1 : Int32.ofInt (-1) = (-1) := by decide
theorem kc_0 : Int32.ofInt 0 = 0 := by decide
theorem kb_48 : (Int8.ofInt 48).toInt32 = 48 := by decide
theorem kb_57 : (Int8.ofInt 57).toInt32 = 57 := by decide
theorem kb_97 : (Int8.ofInt 97).toInt32 = 97 := by decide
theorem kb_122 : (Int8.ofInt 122).toInt32 = 122 := by decide
theorem kb_m9 : (Int8.ofInt (-9)).toInt32 = (-9) := by decide
theorem kb_59 : (Int8.ofInt 59).toInt32 = 59 := by decide
theorem kc_3 : Int32.ofInt 3 = 3 := by decide
theorem kc_5 : Int32.ofInt 5 = 5 := by decide
theorem kb_112 : (Int8.ofInt 112).toInt32 = 112 := by decide
theorem kb_98 : (Int8.ofInt 98).toInt32 = 98 := by decide
theorem kb_114 : (Int8.ofInt 114).toInt32 = 114 := by decide
theorem kb_104 : (Int8.ofInt 104).toInt32 = 104 := by decide
theorem kb_108 : (Int8.ofInt 108).toInt32 = 108 := by decide
theorem kb_119 : (Int8.ofInt 119).toInt32 = 119 := by decide
theorem kb_6 : (Int8.ofInt 6).toInt32 = 6 := by decide
theorem kb_10 : (Int8.ofInt 10).toInt32 = 10 := by decide
theorem kb_27 : (Int8.ofInt 27).toInt32 = 27 := by decide
theorem kb_9 : (Int8.ofInt 9).toInt32 = 9 := by decide
theorem kb_99 : (Int8.ofInt 99).toInt32 = 99 := by decide
theorem kb_60 : (Int8.ofInt 60).toInt32 = 60 := by decide
theorem ks_999 : (Int16.ofInt 999).toInt32 = 999 := by decide
theorem ks_m1000 : (Int16.ofInt (-1000)).toInt32 = (-1000) := by decide
theorem ks_m2000 : (Int16.ofInt (-2000)).toInt32 = (-2000) := by decide
theorem kb_m2 : (Int8.ofInt (-2)).toInt32 = (-2) := by decide
theorem kb_25 : (Int8.ofInt 25).toInt32 = 25 := by decide
theorem kb_m3 : (Int8.ofInt (-3)).toInt32 = (-3) := by decide
theorem kb_30 : (Int8.ofInt 30).toInt32 = 30 := by decide
theorem ks_130 : (Int16.ofInt 130).toInt32 = 130 := by decide
theorem kb_7 : (Int8.ofInt 7).toInt32 = 7 := by decide
theorem kb_20 : (Int8.ofInt 20).toInt32 = 20 := by decide
theorem ks_12345 : (Int16.ofInt 12345).toInt32 = 12345 := by decide
theorem kb_m99 : (Int8.ofInt (-99)).toInt32 = (-99) := by decide
theorem kb_12 : (Int8.ofInt 12).toInt32 = 12 := by decide
theorem kb_11 : (Int8.ofInt 11).toInt32 = 11 := by decide
theorem kb_31 : (Int8.ofInt 31).toInt32 = 31 := by decide
theorem ks_135 : (Int16.ofInt 135).toInt32 = 135 := by decide
theorem tw_531 : Cond.constant "java/lang/Integer" 265 (1431655765) ∈ jm_tb := List.mem_filter.mpr ⟨List.mem_of_getElem? (i := 531) (by decide +kernel), by decide +kernel⟩
theorem tw_532 : Cond.constant "java/lang/Integer" 266 (858993459) ∈ jm_tb := List.mem_filter.mpr ⟨List.mem_of_getElem? (i := 532) (by decide +kernel), by decide +kernel⟩
theorem tw_533 : Cond.constant "java/lang/Integer" 267 (252645135) ∈ jm_tb := List.mem_filter.mpr ⟨List.mem_of_getElem? (i := 533) (by decide +kernel), by decide +kernel⟩
theorem tw_313 : Cond.fieldLink "WeighedInBooks" 61 "WeighedInBooks" "refused" "[I" ∈ jm_tb := List.mem_filter.mpr ⟨List.mem_of_getElem? (i := 313) (by decide +kernel), by decide +kernel⟩
theorem fl_X8_61 : jm_Fl "WeighedInBooks" 61 6 11 := ⟨_, _, _, rfl, by decide, inX8, tw_313⟩
theorem tw_213 : Cond.fieldLink "WeighedInBooks$Statements" 22 "WeighedInBooks$Statements" "letters" "I" ∈ jm_tb := List.mem_filter.mpr ⟨List.mem_of_getElem? (i := 213) (by decide +kernel), by decide +kernel⟩
theorem fl_X5_22 : jm_Fl "WeighedInBooks$Statements" 22 4 1 := ⟨_, _, _, rfl, by decide, inX5, tw_213⟩
theorem tw_212 : Cond.fieldLink "WeighedInBooks$Statements" 9 "WeighedInBooks$Statements" "letter" "[I" ∈ jm_tb := List.mem_filter.mpr ⟨List.mem_of_getElem? (i := 212) (by decide +kernel), by decide +kernel⟩
theorem fl_X5_9 : jm_Fl "WeighedInBooks$Statements" 9 4 0 := ⟨_, _, _, rfl, by decide, inX5, tw_212⟩
theorem fp_X5_22 : jm_Fp "WeighedInBooks$Statements" 22 4 1 .int := ⟨_, _, _, tyX5, rfl, by decide, inX5, tw_213, tyX5_ok, nmX5, rfl, by decide +kernel⟩
theorem tw_343 : Cond.methodLink "WeighedInBooks" 64 yX8_refuse ∈ jm_tb := List.mem_filter.mpr ⟨List.mem_of_getElem? (i := 343) (by decide +kernel), by decide +kernel⟩
theorem tw_345 : Cond.instanceMethod yX8_refuse ∈ jm_tb := List.mem_filter.mpr ⟨List.mem_of_getElem? (i := 345) (by decide +kernel), by decide +kernel⟩
theorem tw_0 : Cond.selects yX8_refuse.cls yX8_refuse yX8_refuse ∈ jm_tb := List.mem_filter.mpr ⟨List.mem_of_getElem? (i := 0) (by decide +kernel), by decide +kernel⟩
theorem tw_82 : Cond.initialized yX8_refuse.cls ∈ jm_tb := List.mem_filter.mpr ⟨List.mem_of_getElem? (i := 82) (by decide +kernel), by decide +kernel⟩
theorem tw_346 : Cond.code yX8_refuse cX8_refuse 2 (some .int) ∈ jm_tb := List.mem_filter.mpr ⟨List.mem_of_getElem? (i := 346) (by decide +kernel), by decide +kernel⟩
theorem qX8_64 : jm_CV "WeighedInBooks" 64 yX8_refuse cX8_refuse 2 (some .int) 1 := ⟨tw_343, tw_345, tw_0, tw_82, tw_346, by decide, by decide, by decide +kernel⟩
theorem tw_306 : Cond.fieldLink "WeighedInBooks" 29 "WeighedInBooks" "told" "LWeighedInBooks$Statements;" ∈ jm_tb := List.mem_filter.mpr ⟨List.mem_of_getElem? (i := 306) (by decide +kernel), by decide +kernel⟩
theorem fl_X8_29 : jm_Fl "WeighedInBooks" 29 6 4 := ⟨_, _, _, rfl, by decide, inX8, tw_306⟩
theorem tw_214 : Cond.fieldLink "WeighedInBooks" 68 "WeighedInBooks$Statements" "letters" "I" ∈ jm_tb := List.mem_filter.mpr ⟨List.mem_of_getElem? (i := 214) (by decide +kernel), by decide +kernel⟩
theorem fl_X8_68 : jm_Fl "WeighedInBooks" 68 4 1 := ⟨_, _, _, rfl, by decide, inX5, tw_214⟩
theorem tw_347 : Cond.methodLink "WeighedInBooks" 72 yX5_addLetter ∈ jm_tb := List.mem_filter.mpr ⟨List.mem_of_getElem? (i := 347) (by decide +kernel), by decide +kernel⟩
theorem tw_348 : Cond.instanceMethod yX5_addLetter ∈ jm_tb := List.mem_filter.mpr ⟨List.mem_of_getElem? (i := 348) (by decide +kernel), by decide +kernel⟩
theorem tw_349 : Cond.selects yX5_addLetter.cls yX5_addLetter yX5_addLetter ∈ jm_tb := List.mem_filter.mpr ⟨List.mem_of_getElem? (i := 349) (by decide +kernel), by decide +kernel⟩
theorem tw_85 : Cond.initialized yX5_addLetter.cls ∈ jm_tb := List.mem_filter.mpr ⟨List.mem_of_getElem? (i := 85) (by decide +kernel), by decide +kernel⟩
theorem tw_350 : Cond.code yX5_addLetter cX5_addLetter 2 (some .int) ∈ jm_tb := List.mem_filter.mpr ⟨List.mem_of_getElem? (i := 350) (by decide +kernel), by decide +kernel⟩
theorem qX8_72 : jm_CV "WeighedInBooks" 72 yX5_addLetter cX5_addLetter 2 (some .int) 1 := ⟨tw_347, tw_348, tw_349, tw_85, tw_350, by decide, by decide, by decide +kernel⟩
theorem tw_215 : Cond.fieldLink "WeighedInBooks$Statements" 30 "WeighedInBooks$Statements" "place" "I" ∈ jm_tb := List.mem_filter.mpr ⟨List.mem_of_getElem? (i := 215) (by decide +kernel), by decide +kernel⟩
theorem fl_X5_30 : jm_Fl "WeighedInBooks$Statements" 30 4 2 := ⟨_, _, _, rfl, by decide, inX5, tw_215⟩
theorem tw_367 : Cond.methodLink "WeighedInBooks$Statements" 37 yX5_here ∈ jm_tb := List.mem_filter.mpr ⟨List.mem_of_getElem? (i := 367) (by decide +kernel), by decide +kernel⟩
theorem tw_368 : Cond.instanceMethod yX5_here ∈ jm_tb := List.mem_filter.mpr ⟨List.mem_of_getElem? (i := 368) (by decide +kernel), by decide +kernel⟩
theorem tw_369 : Cond.selects yX5_here.cls yX5_here yX5_here ∈ jm_tb := List.mem_filter.mpr ⟨List.mem_of_getElem? (i := 369) (by decide +kernel), by decide +kernel⟩
theorem tw_370 : Cond.code yX5_here cX5_here 1 (some .int) ∈ jm_tb := List.mem_filter.mpr ⟨List.mem_of_getElem? (i := 370) (by decide +kernel), by decide +kernel⟩
theorem qX5_37 : jm_CV "WeighedInBooks$Statements" 37 yX5_here cX5_here 1 (some .int) 0 := ⟨tw_367, tw_368, tw_369, tw_85, tw_370, by decide, by decide, by decide +kernel⟩
theorem fp_X5_30 : jm_Fp "WeighedInBooks$Statements" 30 4 2 .int := ⟨_, _, _, tyX5, rfl, by decide, inX5, tw_215, tyX5_ok, nmX5, rfl, by decide +kernel⟩
theorem tw_383 : Cond.methodLink "WeighedInBooks$Statements" 66 yX5_isTitleLetter ∈ jm_tb := List.mem_filter.mpr ⟨List.mem_of_getElem? (i := 383) (by decide +kernel), by decide +kernel⟩
theorem tw_384 : Cond.instanceMethod yX5_isTitleLetter ∈ jm_tb := List.mem_filter.mpr ⟨List.mem_of_getElem? (i := 384) (by decide +kernel), by decide +kernel⟩
theorem tw_385 : Cond.selects yX5_isTitleLetter.cls yX5_isTitleLetter yX5_isTitleLetter ∈ jm_tb := List.mem_filter.mpr ⟨List.mem_of_getElem? (i := 385) (by decide +kernel), by decide +kernel⟩
theorem tw_386 : Cond.code yX5_isTitleLetter cX5_isTitleLetter 2 (some .boolean) ∈ jm_tb := List.mem_filter.mpr ⟨List.mem_of_getElem? (i := 386) (by decide +kernel), by decide +kernel⟩
theorem qX5_66 : jm_CV "WeighedInBooks$Statements" 66 yX5_isTitleLetter cX5_isTitleLetter 2 (some .boolean) 1 := ⟨tw_383, tw_384, tw_385, tw_85, tw_386, by decide, by decide, by decide +kernel⟩
theorem tw_395 : Cond.fieldLink "WeighedInBooks$Statements" 69 "WeighedInBooks$Statements" "STEP_LETTERS" "[C" ∈ jm_tb := List.mem_filter.mpr ⟨List.mem_of_getElem? (i := 395) (by decide +kernel), by decide +kernel⟩
theorem tw_391 : Cond.methodLink "WeighedInBooks$Statements" 63 yX5_stepHere ∈ jm_tb := List.mem_filter.mpr ⟨List.mem_of_getElem? (i := 391) (by decide +kernel), by decide +kernel⟩
theorem tw_392 : Cond.instanceMethod yX5_stepHere ∈ jm_tb := List.mem_filter.mpr ⟨List.mem_of_getElem? (i := 392) (by decide +kernel), by decide +kernel⟩
theorem tw_393 : Cond.selects yX5_stepHere.cls yX5_stepHere yX5_stepHere ∈ jm_tb := List.mem_filter.mpr ⟨List.mem_of_getElem? (i := 393) (by decide +kernel), by decide +kernel⟩
theorem tw_394 : Cond.code yX5_stepHere cX5_stepHere 2 (some .int) ∈ jm_tb := List.mem_filter.mpr ⟨List.mem_of_getElem? (i := 394) (by decide +kernel), by decide +kernel⟩
theorem qX5_63 : jm_CV "WeighedInBooks$Statements" 63 yX5_stepHere cX5_stepHere 2 (some .int) 0 := ⟨tw_391, tw_392, tw_393, tw_85, tw_394, by decide, by decide, by decide +kernel⟩
theorem tw_375 : Cond.methodLink "WeighedInBooks$Statements" 54 yX5_passDigits ∈ jm_tb := List.mem_filter.mpr ⟨List.mem_of_getElem? (i := 375) (by decide +kernel), by decide +kernel⟩
theorem tw_376 : Cond.instanceMethod yX5_passDigits ∈ jm_tb := List.mem_filter.mpr ⟨List.mem_of_getElem? (i := 376) (by decide +kernel), by decide +kernel⟩
theorem tw_377 : Cond.selects yX5_passDigits.cls yX5_passDigits yX5_passDigits ∈ jm_tb := List.mem_filter.mpr ⟨List.mem_of_getElem? (i := 377) (by decide +kernel), by decide +kernel⟩
theorem tw_378 : Cond.code yX5_passDigits cX5_passDigits 3 (some .boolean) ∈ jm_tb := List.mem_filter.mpr ⟨List.mem_of_getElem? (i := 378) (by decide +kernel), by decide +kernel⟩
theorem qX5_54 : jm_CV "WeighedInBooks$Statements" 54 yX5_passDigits cX5_passDigits 3 (some .boolean) 1 := ⟨tw_375, tw_376, tw_377, tw_85, tw_378, by decide, by decide, by decide +kernel⟩
theorem tw_379 : Cond.methodLink "WeighedInBooks$Statements" 57 yX5_passTitle ∈ jm_tb := List.mem_filter.mpr ⟨List.mem_of_getElem? (i := 379) (by decide +kernel), by decide +kernel⟩
theorem tw_380 : Cond.instanceMethod yX5_passTitle ∈ jm_tb := List.mem_filter.mpr ⟨List.mem_of_getElem? (i := 380) (by decide +kernel), by decide +kernel⟩
theorem tw_381 : Cond.selects yX5_passTitle.cls yX5_passTitle yX5_passTitle ∈ jm_tb := List.mem_filter.mpr ⟨List.mem_of_getElem? (i := 381) (by decide +kernel), by decide +kernel⟩
theorem tw_382 : Cond.code yX5_passTitle cX5_passTitle 1 (some .boolean) ∈ jm_tb := List.mem_filter.mpr ⟨List.mem_of_getElem? (i := 382) (by decide +kernel), by decide +kernel⟩
theorem qX5_57 : jm_CV "WeighedInBooks$Statements" 57 yX5_passTitle cX5_passTitle 1 (some .boolean) 0 := ⟨tw_379, tw_380, tw_381, tw_85, tw_382, by decide, by decide, by decide +kernel⟩
theorem tw_387 : Cond.methodLink "WeighedInBooks$Statements" 60 yX5_passSteps ∈ jm_tb := List.mem_filter.mpr ⟨List.mem_of_getElem? (i := 387) (by decide +kernel), by decide +kernel⟩
theorem tw_388 : Cond.instanceMethod yX5_passSteps ∈ jm_tb := List.mem_filter.mpr ⟨List.mem_of_getElem? (i := 388) (by decide +kernel), by decide +kernel⟩
theorem tw_389 : Cond.selects yX5_passSteps.cls yX5_passSteps yX5_passSteps ∈ jm_tb := List.mem_filter.mpr ⟨List.mem_of_getElem? (i := 389) (by decide +kernel), by decide +kernel⟩
theorem tw_390 : Cond.code yX5_passSteps cX5_passSteps 3 (some .boolean) ∈ jm_tb := List.mem_filter.mpr ⟨List.mem_of_getElem? (i := 390) (by decide +kernel), by decide +kernel⟩
theorem qX5_60 : jm_CV "WeighedInBooks$Statements" 60 yX5_passSteps cX5_passSteps 3 (some .boolean) 0 := ⟨tw_387, tw_388, tw_389, tw_85, tw_390, by decide, by decide, by decide +kernel⟩
theorem tw_371 : Cond.methodLink "WeighedInBooks$Statements" 48 yX5_passBody ∈ jm_tb := List.mem_filter.mpr ⟨List.mem_of_getElem? (i := 371) (by decide +kernel), by decide +kernel⟩
theorem tw_372 : Cond.instanceMethod yX5_passBody ∈ jm_tb := List.mem_filter.mpr ⟨List.mem_of_getElem? (i := 372) (by decide +kernel), by decide +kernel⟩
theorem tw_373 : Cond.selects yX5_passBody.cls yX5_passBody yX5_passBody ∈ jm_tb := List.mem_filter.mpr ⟨List.mem_of_getElem? (i := 373) (by decide +kernel), by decide +kernel⟩
theorem tw_374 : Cond.code yX5_passBody cX5_passBody 2 (some .boolean) ∈ jm_tb := List.mem_filter.mpr ⟨List.mem_of_getElem? (i := 374) (by decide +kernel), by decide +kernel⟩
theorem qX5_48 : jm_CV "WeighedInBooks$Statements" 48 yX5_passBody cX5_passBody 2 (some .boolean) 1 := ⟨tw_371, tw_372, tw_373, tw_85, tw_374, by decide, by decide, by decide +kernel⟩
theorem tw_397 : Cond.methodLink "WeighedInBooks$Statements" 51 yX5_passLetter ∈ jm_tb := List.mem_filter.mpr ⟨List.mem_of_getElem? (i := 397) (by decide +kernel), by decide +kernel⟩
theorem tw_398 : Cond.instanceMethod yX5_passLetter ∈ jm_tb := List.mem_filter.mpr ⟨List.mem_of_getElem? (i := 398) (by decide +kernel), by decide +kernel⟩
theorem tw_399 : Cond.selects yX5_passLetter.cls yX5_passLetter yX5_passLetter ∈ jm_tb := List.mem_filter.mpr ⟨List.mem_of_getElem? (i := 399) (by decide +kernel), by decide +kernel⟩
theorem tw_400 : Cond.code yX5_passLetter cX5_passLetter 2 (some .boolean) ∈ jm_tb := List.mem_filter.mpr ⟨List.mem_of_getElem? (i := 400) (by decide +kernel), by decide +kernel⟩
theorem qX5_51 : jm_CV "WeighedInBooks$Statements" 51 yX5_passLetter cX5_passLetter 2 (some .boolean) 1 := ⟨tw_397, tw_398, tw_399, tw_85, tw_400, by decide, by decide, by decide +kernel⟩
theorem tw_363 : Cond.methodLink "WeighedInBooks$Statements" 45 yX5_passStatement ∈ jm_tb := List.mem_filter.mpr ⟨List.mem_of_getElem? (i := 363) (by decide +kernel), by decide +kernel⟩
theorem tw_364 : Cond.instanceMethod yX5_passStatement ∈ jm_tb := List.mem_filter.mpr ⟨List.mem_of_getElem? (i := 364) (by decide +kernel), by decide +kernel⟩
theorem tw_365 : Cond.selects yX5_passStatement.cls yX5_passStatement yX5_passStatement ∈ jm_tb := List.mem_filter.mpr ⟨List.mem_of_getElem? (i := 365) (by decide +kernel), by decide +kernel⟩
theorem tw_366 : Cond.code yX5_passStatement cX5_passStatement 2 (some .boolean) ∈ jm_tb := List.mem_filter.mpr ⟨List.mem_of_getElem? (i := 366) (by decide +kernel), by decide +kernel⟩
theorem qX5_45 : jm_CV "WeighedInBooks$Statements" 45 yX5_passStatement cX5_passStatement 2 (some .boolean) 0 := ⟨tw_363, tw_364, tw_365, tw_85, tw_366, by decide, by decide, by decide +kernel⟩
theorem tw_109 : Cond.fieldLink "WeighedInBooks$Town" 45 "WeighedInBooks$Town" "people" "I" ∈ jm_tb := List.mem_filter.mpr ⟨List.mem_of_getElem? (i := 109) (by decide +kernel), by decide +kernel⟩
theorem fl_X7_45 : jm_Fl "WeighedInBooks$Town" 45 5 0 := ⟨_, _, _, rfl, by decide, inX7, tw_109⟩
theorem fp_X7_45 : jm_Fp "WeighedInBooks$Town" 45 5 0 .int := ⟨_, _, _, tyX7, rfl, by decide, inX7, tw_109, tyX7_ok, nmX7, rfl, by decide +kernel⟩
theorem tw_114 : Cond.fieldLink "WeighedInBooks$Town" 9 "WeighedInBooks$Town" "weight" "[I" ∈ jm_tb := List.mem_filter.mpr ⟨List.mem_of_getElem? (i := 114) (by decide +kernel), by decide +kernel⟩
theorem fl_X7_9 : jm_Fl "WeighedInBooks$Town" 9 5 1 := ⟨_, _, _, rfl, by decide, inX7, tw_114⟩
theorem tw_405 : Cond.methodLink "WeighedInBooks$Town" 49 arraycopyName ∈ jm_tb := List.mem_filter.mpr ⟨List.mem_of_getElem? (i := 405) (by decide +kernel), by decide +kernel⟩
theorem tw_407 : Cond.native arraycopyName ∈ jm_tb := List.mem_filter.mpr ⟨List.mem_of_getElem? (i := 407) (by decide +kernel), by decide +kernel⟩
theorem tw_406 : Cond.static arraycopyName ∈ jm_tb := List.mem_filter.mpr ⟨List.mem_of_getElem? (i := 406) (by decide +kernel), by decide +kernel⟩
theorem tw_90 : Cond.initialized "java/lang/System" ∈ jm_tb := List.mem_filter.mpr ⟨List.mem_of_getElem? (i := 90) (by decide +kernel), by decide +kernel⟩
theorem tw_116 : Cond.fieldLink "WeighedInBooks$Town" 15 "WeighedInBooks$Town" "appetite" "[I" ∈ jm_tb := List.mem_filter.mpr ⟨List.mem_of_getElem? (i := 116) (by decide +kernel), by decide +kernel⟩
theorem fl_X7_15 : jm_Fl "WeighedInBooks$Town" 15 5 2 := ⟨_, _, _, rfl, by decide, inX7, tw_116⟩
theorem tw_118 : Cond.fieldLink "WeighedInBooks$Town" 18 "WeighedInBooks$Town" "purse" "[I" ∈ jm_tb := List.mem_filter.mpr ⟨List.mem_of_getElem? (i := 118) (by decide +kernel), by decide +kernel⟩
theorem fl_X7_18 : jm_Fl "WeighedInBooks$Town" 18 5 3 := ⟨_, _, _, rfl, by decide, inX7, tw_118⟩
theorem tw_121 : Cond.fieldLink "WeighedInBooks$Town" 55 "WeighedInBooks$Town" "books" "I" ∈ jm_tb := List.mem_filter.mpr ⟨List.mem_of_getElem? (i := 121) (by decide +kernel), by decide +kernel⟩
theorem fl_X7_55 : jm_Fl "WeighedInBooks$Town" 55 5 4 := ⟨_, _, _, rfl, by decide, inX7, tw_121⟩
theorem fp_X7_55 : jm_Fp "WeighedInBooks$Town" 55 5 4 .int := ⟨_, _, _, tyX7, rfl, by decide, inX7, tw_121, tyX7_ok, nmX7, rfl, by decide +kernel⟩
theorem tw_125 : Cond.fieldLink "WeighedInBooks$Town" 21 "WeighedInBooks$Town" "kind" "[I" ∈ jm_tb := List.mem_filter.mpr ⟨List.mem_of_getElem? (i := 125) (by decide +kernel), by decide +kernel⟩
theorem fl_X7_21 : jm_Fl "WeighedInBooks$Town" 21 5 5 := ⟨_, _, _, rfl, by decide, inX7, tw_125⟩
theorem tw_128 : Cond.fieldLink "WeighedInBooks$Town" 24 "WeighedInBooks$Town" "figure" "[I" ∈ jm_tb := List.mem_filter.mpr ⟨List.mem_of_getElem? (i := 128) (by decide +kernel), by decide +kernel⟩
theorem fl_X7_24 : jm_Fl "WeighedInBooks$Town" 24 5 6 := ⟨_, _, _, rfl, by decide, inX7, tw_128⟩
theorem tw_131 : Cond.fieldLink "WeighedInBooks$Town" 27 "WeighedInBooks$Town" "owner" "[I" ∈ jm_tb := List.mem_filter.mpr ⟨List.mem_of_getElem? (i := 131) (by decide +kernel), by decide +kernel⟩
theorem fl_X7_27 : jm_Fl "WeighedInBooks$Town" 27 5 7 := ⟨_, _, _, rfl, by decide, inX7, tw_131⟩
theorem tw_134 : Cond.fieldLink "WeighedInBooks$Town" 30 "WeighedInBooks$Town" "holder" "[I" ∈ jm_tb := List.mem_filter.mpr ⟨List.mem_of_getElem? (i := 134) (by decide +kernel), by decide +kernel⟩
theorem fl_X7_30 : jm_Fl "WeighedInBooks$Town" 30 5 8 := ⟨_, _, _, rfl, by decide, inX7, tw_134⟩
theorem tw_138 : Cond.fieldLink "WeighedInBooks$Town" 33 "WeighedInBooks$Town" "readers" "[I" ∈ jm_tb := List.mem_filter.mpr ⟨List.mem_of_getElem? (i := 138) (by decide +kernel), by decide +kernel⟩
theorem fl_X7_33 : jm_Fl "WeighedInBooks$Town" 33 5 9 := ⟨_, _, _, rfl, by decide, inX7, tw_138⟩
theorem tw_142 : Cond.fieldLink "WeighedInBooks$Town" 36 "WeighedInBooks$Town" "title" "[I" ∈ jm_tb := List.mem_filter.mpr ⟨List.mem_of_getElem? (i := 142) (by decide +kernel), by decide +kernel⟩
theorem fl_X7_36 : jm_Fl "WeighedInBooks$Town" 36 5 10 := ⟨_, _, _, rfl, by decide, inX7, tw_142⟩
theorem tw_144 : Cond.fieldLink "WeighedInBooks$Town" 58 "WeighedInBooks$Town" "week" "I" ∈ jm_tb := List.mem_filter.mpr ⟨List.mem_of_getElem? (i := 144) (by decide +kernel), by decide +kernel⟩
theorem fl_X7_58 : jm_Fl "WeighedInBooks$Town" 58 5 11 := ⟨_, _, _, rfl, by decide, inX7, tw_144⟩
theorem fp_X7_58 : jm_Fp "WeighedInBooks$Town" 58 5 11 .int := ⟨_, _, _, tyX7, rfl, by decide, inX7, tw_144, tyX7_ok, nmX7, rfl, by decide +kernel⟩
theorem tw_147 : Cond.fieldLink "WeighedInBooks$Town" 61 "WeighedInBooks$Town" "steps" "I" ∈ jm_tb := List.mem_filter.mpr ⟨List.mem_of_getElem? (i := 147) (by decide +kernel), by decide +kernel⟩
theorem fl_X7_61 : jm_Fl "WeighedInBooks$Town" 61 5 12 := ⟨_, _, _, rfl, by decide, inX7, tw_147⟩
theorem fp_X7_61 : jm_Fp "WeighedInBooks$Town" 61 5 12 .int := ⟨_, _, _, tyX7, rfl, by decide, inX7, tw_147, tyX7_ok, nmX7, rfl, by decide +kernel⟩
theorem tw_150 : Cond.fieldLink "WeighedInBooks$Town" 39 "WeighedInBooks$Town" "step" "[I" ∈ jm_tb := List.mem_filter.mpr ⟨List.mem_of_getElem? (i := 150) (by decide +kernel), by decide +kernel⟩
theorem fl_X7_39 : jm_Fl "WeighedInBooks$Town" 39 5 13 := ⟨_, _, _, rfl, by decide, inX7, tw_150⟩
theorem tw_151 : Cond.fieldLink "WeighedInBooks$Town" 42 "WeighedInBooks$Town" "stepNumber" "[I" ∈ jm_tb := List.mem_filter.mpr ⟨List.mem_of_getElem? (i := 151) (by decide +kernel), by decide +kernel⟩
theorem fl_X7_42 : jm_Fl "WeighedInBooks$Town" 42 5 14 := ⟨_, _, _, rfl, by decide, inX7, tw_151⟩
theorem tw_416 : Cond.methodLink "WeighedInBooks$Statements" 91 yX5_takeNumber ∈ jm_tb := List.mem_filter.mpr ⟨List.mem_of_getElem? (i := 416) (by decide +kernel), by decide +kernel⟩
theorem tw_417 : Cond.instanceMethod yX5_takeNumber ∈ jm_tb := List.mem_filter.mpr ⟨List.mem_of_getElem? (i := 417) (by decide +kernel), by decide +kernel⟩
theorem tw_418 : Cond.selects yX5_takeNumber.cls yX5_takeNumber yX5_takeNumber ∈ jm_tb := List.mem_filter.mpr ⟨List.mem_of_getElem? (i := 418) (by decide +kernel), by decide +kernel⟩
theorem tw_419 : Cond.code yX5_takeNumber cX5_takeNumber 4 (some .int) ∈ jm_tb := List.mem_filter.mpr ⟨List.mem_of_getElem? (i := 419) (by decide +kernel), by decide +kernel⟩
theorem qX5_91 : jm_CV "WeighedInBooks$Statements" 91 yX5_takeNumber cX5_takeNumber 4 (some .int) 1 := ⟨tw_416, tw_417, tw_418, tw_85, tw_419, by decide, by decide, by decide +kernel⟩
theorem tw_216 : Cond.fieldLink "WeighedInBooks$Statements" 18 "WeighedInBooks$Statements" "draft" "LWeighedInBooks$Town;" ∈ jm_tb := List.mem_filter.mpr ⟨List.mem_of_getElem? (i := 216) (by decide +kernel), by decide +kernel⟩
theorem fl_X5_18 : jm_Fl "WeighedInBooks$Statements" 18 4 3 := ⟨_, _, _, rfl, by decide, inX5, tw_216⟩
theorem tw_113 : Cond.fieldLink "WeighedInBooks$Statements" 95 "WeighedInBooks$Town" "people" "I" ∈ jm_tb := List.mem_filter.mpr ⟨List.mem_of_getElem? (i := 113) (by decide +kernel), by decide +kernel⟩
theorem fl_X5_95 : jm_Fl "WeighedInBooks$Statements" 95 5 0 := ⟨_, _, _, rfl, by decide, inX7, tw_113⟩
theorem tw_420 : Cond.methodLink "WeighedInBooks$Statements" 98 yX7_addPerson ∈ jm_tb := List.mem_filter.mpr ⟨List.mem_of_getElem? (i := 420) (by decide +kernel), by decide +kernel⟩
theorem tw_421 : Cond.instanceMethod yX7_addPerson ∈ jm_tb := List.mem_filter.mpr ⟨List.mem_of_getElem? (i := 421) (by decide +kernel), by decide +kernel⟩
theorem tw_422 : Cond.selects yX7_addPerson.cls yX7_addPerson yX7_addPerson ∈ jm_tb := List.mem_filter.mpr ⟨List.mem_of_getElem? (i := 422) (by decide +kernel), by decide +kernel⟩
theorem tw_83 : Cond.initialized yX7_addPerson.cls ∈ jm_tb := List.mem_filter.mpr ⟨List.mem_of_getElem? (i := 83) (by decide +kernel), by decide +kernel⟩
theorem tw_423 : Cond.code yX7_addPerson cX7_addPerson 5 (some .int) ∈ jm_tb := List.mem_filter.mpr ⟨List.mem_of_getElem? (i := 423) (by decide +kernel), by decide +kernel⟩
theorem qX5_98 : jm_CV "WeighedInBooks$Statements" 98 yX7_addPerson cX7_addPerson 5 (some .int) 3 := ⟨tw_420, tw_421, tw_422, tw_83, tw_423, by decide, by decide, by decide +kernel⟩
theorem tw_432 : Cond.methodLink "WeighedInBooks$Statements" 146 yX6_longer ∈ jm_tb := List.mem_filter.mpr ⟨List.mem_of_getElem? (i := 432) (by decide +kernel), by decide +kernel⟩
theorem tw_433 : Cond.static yX6_longer ∈ jm_tb := List.mem_filter.mpr ⟨List.mem_of_getElem? (i := 433) (by decide +kernel), by decide +kernel⟩
theorem tw_91 : Cond.initialized yX6_longer.cls ∈ jm_tb := List.mem_filter.mpr ⟨List.mem_of_getElem? (i := 91) (by decide +kernel), by decide +kernel⟩
theorem tw_434 : Cond.code yX6_longer cX6_longer 5 (some .int) ∈ jm_tb := List.mem_filter.mpr ⟨List.mem_of_getElem? (i := 434) (by decide +kernel), by decide +kernel⟩
theorem qX5_146 : jm_CS "WeighedInBooks$Statements" 146 yX6_longer cX6_longer 5 (some .int) 3 := ⟨tw_432, tw_433, tw_91, tw_434, by decide, by decide, by decide +kernel⟩
theorem tw_439 : Cond.methodLink "WeighedInBooks$Town" 64 yX7_hasPerson ∈ jm_tb := List.mem_filter.mpr ⟨List.mem_of_getElem? (i := 439) (by decide +kernel), by decide +kernel⟩
theorem tw_440 : Cond.instanceMethod yX7_hasPerson ∈ jm_tb := List.mem_filter.mpr ⟨List.mem_of_getElem? (i := 440) (by decide +kernel), by decide +kernel⟩
theorem tw_441 : Cond.selects yX7_hasPerson.cls yX7_hasPerson yX7_hasPerson ∈ jm_tb := List.mem_filter.mpr ⟨List.mem_of_getElem? (i := 441) (by decide +kernel), by decide +kernel⟩
theorem tw_442 : Cond.code yX7_hasPerson cX7_hasPerson 2 (some .boolean) ∈ jm_tb := List.mem_filter.mpr ⟨List.mem_of_getElem? (i := 442) (by decide +kernel), by decide +kernel⟩
theorem qX7_64 : jm_CV "WeighedInBooks$Town" 64 yX7_hasPerson cX7_hasPerson 2 (some .boolean) 1 := ⟨tw_439, tw_440, tw_441, tw_83, tw_442, by decide, by decide, by decide +kernel⟩
theorem tw_428 : Cond.methodLink "WeighedInBooks$Statements" 102 yX5_takeTitle ∈ jm_tb := List.mem_filter.mpr ⟨List.mem_of_getElem? (i := 428) (by decide +kernel), by decide +kernel⟩
theorem tw_429 : Cond.instanceMethod yX5_takeTitle ∈ jm_tb := List.mem_filter.mpr ⟨List.mem_of_getElem? (i := 429) (by decide +kernel), by decide +kernel⟩
theorem tw_430 : Cond.selects yX5_takeTitle.cls yX5_takeTitle yX5_takeTitle ∈ jm_tb := List.mem_filter.mpr ⟨List.mem_of_getElem? (i := 430) (by decide +kernel), by decide +kernel⟩
theorem tw_431 : Cond.code yX5_takeTitle cX5_takeTitle 3 (some .int) ∈ jm_tb := List.mem_filter.mpr ⟨List.mem_of_getElem? (i := 431) (by decide +kernel), by decide +kernel⟩
theorem qX5_102 : jm_CV "WeighedInBooks$Statements" 102 yX5_takeTitle cX5_takeTitle 3 (some .int) 0 := ⟨tw_428, tw_429, tw_430, tw_85, tw_431, by decide, by decide, by decide +kernel⟩
theorem tw_435 : Cond.methodLink "WeighedInBooks$Statements" 105 yX7_hasKeeper ∈ jm_tb := List.mem_filter.mpr ⟨List.mem_of_getElem? (i := 435) (by decide +kernel), by decide +kernel⟩
theorem tw_436 : Cond.instanceMethod yX7_hasKeeper ∈ jm_tb := List.mem_filter.mpr ⟨List.mem_of_getElem? (i := 436) (by decide +kernel), by decide +kernel⟩
theorem tw_437 : Cond.selects yX7_hasKeeper.cls yX7_hasKeeper yX7_hasKeeper ∈ jm_tb := List.mem_filter.mpr ⟨List.mem_of_getElem? (i := 437) (by decide +kernel), by decide +kernel⟩
theorem tw_438 : Cond.code yX7_hasKeeper cX7_hasKeeper 2 (some .boolean) ∈ jm_tb := List.mem_filter.mpr ⟨List.mem_of_getElem? (i := 438) (by decide +kernel), by decide +kernel⟩
theorem qX5_105 : jm_CV "WeighedInBooks$Statements" 105 yX7_hasKeeper cX7_hasKeeper 2 (some .boolean) 1 := ⟨tw_435, tw_436, tw_437, tw_83, tw_438, by decide, by decide, by decide +kernel⟩
theorem tw_124 : Cond.fieldLink "WeighedInBooks$Statements" 108 "WeighedInBooks$Town" "books" "I" ∈ jm_tb := List.mem_filter.mpr ⟨List.mem_of_getElem? (i := 124) (by decide +kernel), by decide +kernel⟩
theorem fl_X5_108 : jm_Fl "WeighedInBooks$Statements" 108 5 4 := ⟨_, _, _, rfl, by decide, inX7, tw_124⟩
theorem tw_443 : Cond.methodLink "WeighedInBooks$Statements" 113 yX7_bookWithTitle ∈ jm_tb := List.mem_filter.mpr ⟨List.mem_of_getElem? (i := 443) (by decide +kernel), by decide +kernel⟩
theorem tw_444 : Cond.instanceMethod yX7_bookWithTitle ∈ jm_tb := List.mem_filter.mpr ⟨List.mem_of_getElem? (i := 444) (by decide +kernel), by decide +kernel⟩
theorem tw_445 : Cond.selects yX7_bookWithTitle.cls yX7_bookWithTitle yX7_bookWithTitle ∈ jm_tb := List.mem_filter.mpr ⟨List.mem_of_getElem? (i := 445) (by decide +kernel), by decide +kernel⟩
theorem tw_446 : Cond.code yX7_bookWithTitle cX7_bookWithTitle 3 (some .int) ∈ jm_tb := List.mem_filter.mpr ⟨List.mem_of_getElem? (i := 446) (by decide +kernel), by decide +kernel⟩
theorem qX5_113 : jm_CV "WeighedInBooks$Statements" 113 yX7_bookWithTitle cX7_bookWithTitle 3 (some .int) 1 := ⟨tw_443, tw_444, tw_445, tw_83, tw_446, by decide, by decide, by decide +kernel⟩
theorem tw_447 : Cond.methodLink "WeighedInBooks$Statements" 116 yX7_addBook ∈ jm_tb := List.mem_filter.mpr ⟨List.mem_of_getElem? (i := 447) (by decide +kernel), by decide +kernel⟩
theorem tw_448 : Cond.instanceMethod yX7_addBook ∈ jm_tb := List.mem_filter.mpr ⟨List.mem_of_getElem? (i := 448) (by decide +kernel), by decide +kernel⟩
theorem tw_449 : Cond.selects yX7_addBook.cls yX7_addBook yX7_addBook ∈ jm_tb := List.mem_filter.mpr ⟨List.mem_of_getElem? (i := 449) (by decide +kernel), by decide +kernel⟩
theorem tw_450 : Cond.code yX7_addBook cX7_addBook 6 (some .int) ∈ jm_tb := List.mem_filter.mpr ⟨List.mem_of_getElem? (i := 450) (by decide +kernel), by decide +kernel⟩
theorem qX5_116 : jm_CV "WeighedInBooks$Statements" 116 yX7_addBook cX7_addBook 6 (some .int) 4 := ⟨tw_447, tw_448, tw_449, tw_83, tw_450, by decide, by decide, by decide +kernel⟩
theorem tw_455 : Cond.methodLink "WeighedInBooks$Statements" 120 yX7_hasPerson ∈ jm_tb := List.mem_filter.mpr ⟨List.mem_of_getElem? (i := 455) (by decide +kernel), by decide +kernel⟩
theorem qX5_120 : jm_CV "WeighedInBooks$Statements" 120 yX7_hasPerson cX7_hasPerson 2 (some .boolean) 1 := ⟨tw_455, tw_440, tw_441, tw_83, tw_442, by decide, by decide, by decide +kernel⟩
theorem tw_456 : Cond.methodLink "WeighedInBooks$Statements" 123 yX7_hasBook ∈ jm_tb := List.mem_filter.mpr ⟨List.mem_of_getElem? (i := 456) (by decide +kernel), by decide +kernel⟩
theorem tw_457 : Cond.instanceMethod yX7_hasBook ∈ jm_tb := List.mem_filter.mpr ⟨List.mem_of_getElem? (i := 457) (by decide +kernel), by decide +kernel⟩
theorem tw_458 : Cond.selects yX7_hasBook.cls yX7_hasBook yX7_hasBook ∈ jm_tb := List.mem_filter.mpr ⟨List.mem_of_getElem? (i := 458) (by decide +kernel), by decide +kernel⟩
theorem tw_459 : Cond.code yX7_hasBook cX7_hasBook 2 (some .boolean) ∈ jm_tb := List.mem_filter.mpr ⟨List.mem_of_getElem? (i := 459) (by decide +kernel), by decide +kernel⟩
theorem qX5_123 : jm_CV "WeighedInBooks$Statements" 123 yX7_hasBook cX7_hasBook 2 (some .boolean) 1 := ⟨tw_456, tw_457, tw_458, tw_83, tw_459, by decide, by decide, by decide +kernel⟩
theorem tw_141 : Cond.fieldLink "WeighedInBooks$Statements" 126 "WeighedInBooks$Town" "readers" "[I" ∈ jm_tb := List.mem_filter.mpr ⟨List.mem_of_getElem? (i := 141) (by decide +kernel), by decide +kernel⟩
theorem fl_X5_126 : jm_Fl "WeighedInBooks$Statements" 126 5 9 := ⟨_, _, _, rfl, by decide, inX7, tw_141⟩
theorem tw_137 : Cond.fieldLink "WeighedInBooks$Statements" 129 "WeighedInBooks$Town" "holder" "[I" ∈ jm_tb := List.mem_filter.mpr ⟨List.mem_of_getElem? (i := 137) (by decide +kernel), by decide +kernel⟩
theorem fl_X5_129 : jm_Fl "WeighedInBooks$Statements" 129 5 8 := ⟨_, _, _, rfl, by decide, inX7, tw_137⟩
theorem tw_149 : Cond.fieldLink "WeighedInBooks$Statements" 132 "WeighedInBooks$Town" "steps" "I" ∈ jm_tb := List.mem_filter.mpr ⟨List.mem_of_getElem? (i := 149) (by decide +kernel), by decide +kernel⟩
theorem fp_X5_132 : jm_Fp "WeighedInBooks$Statements" 132 5 12 .int := ⟨_, _, _, tyX7, rfl, by decide, inX7, tw_149, tyX7_ok, nmX7, rfl, by decide +kernel⟩
theorem tw_468 : Cond.methodLink "WeighedInBooks$Statements" 135 yX7_addStep ∈ jm_tb := List.mem_filter.mpr ⟨List.mem_of_getElem? (i := 468) (by decide +kernel), by decide +kernel⟩
theorem tw_469 : Cond.instanceMethod yX7_addStep ∈ jm_tb := List.mem_filter.mpr ⟨List.mem_of_getElem? (i := 469) (by decide +kernel), by decide +kernel⟩
theorem tw_470 : Cond.selects yX7_addStep.cls yX7_addStep yX7_addStep ∈ jm_tb := List.mem_filter.mpr ⟨List.mem_of_getElem? (i := 470) (by decide +kernel), by decide +kernel⟩
theorem tw_471 : Cond.code yX7_addStep cX7_addStep 3 none ∈ jm_tb := List.mem_filter.mpr ⟨List.mem_of_getElem? (i := 471) (by decide +kernel), by decide +kernel⟩
theorem qX5_135 : jm_CV "WeighedInBooks$Statements" 135 yX7_addStep cX7_addStep 3 none 2 := ⟨tw_468, tw_469, tw_470, tw_83, tw_471, by decide, by decide, by decide +kernel⟩
theorem tw_491 : Cond.methodLink "WeighedInBooks$Town" 85 yX7_hasRead ∈ jm_tb := List.mem_filter.mpr ⟨List.mem_of_getElem? (i := 491) (by decide +kernel), by decide +kernel⟩
theorem tw_492 : Cond.instanceMethod yX7_hasRead ∈ jm_tb := List.mem_filter.mpr ⟨List.mem_of_getElem? (i := 492) (by decide +kernel), by decide +kernel⟩
theorem tw_493 : Cond.selects yX7_hasRead.cls yX7_hasRead yX7_hasRead ∈ jm_tb := List.mem_filter.mpr ⟨List.mem_of_getElem? (i := 493) (by decide +kernel), by decide +kernel⟩
theorem tw_494 : Cond.code yX7_hasRead cX7_hasRead 3 (some .int) ∈ jm_tb := List.mem_filter.mpr ⟨List.mem_of_getElem? (i := 494) (by decide +kernel), by decide +kernel⟩
theorem qX7_85 : jm_CV "WeighedInBooks$Town" 85 yX7_hasRead cX7_hasRead 3 (some .int) 2 := ⟨tw_491, tw_492, tw_493, tw_83, tw_494, by decide, by decide, by decide +kernel⟩
theorem tw_484 : Cond.methodLink "WeighedInBooks$Town" 95 Lib.Math.min.name ∈ jm_tb := List.mem_filter.mpr ⟨List.mem_of_getElem? (i := 484) (by decide +kernel), by decide +kernel⟩
theorem tw_485 : Cond.static Lib.Math.min.name ∈ jm_tb := List.mem_filter.mpr ⟨List.mem_of_getElem? (i := 485) (by decide +kernel), by decide +kernel⟩
theorem tw_92 : Cond.initialized "java/lang/Math" ∈ jm_tb := List.mem_filter.mpr ⟨List.mem_of_getElem? (i := 92) (by decide +kernel), by decide +kernel⟩
theorem tw_486 : Cond.code Lib.Math.min.name Lib.Math.min.code 2 (some .int) ∈ jm_tb := List.mem_filter.mpr ⟨List.mem_of_getElem? (i := 486) (by decide +kernel), by decide +kernel⟩
theorem tw_487 : Cond.methodLink "WeighedInBooks$Town" 119 yX7_readNext ∈ jm_tb := List.mem_filter.mpr ⟨List.mem_of_getElem? (i := 487) (by decide +kernel), by decide +kernel⟩
theorem tw_488 : Cond.instanceMethod yX7_readNext ∈ jm_tb := List.mem_filter.mpr ⟨List.mem_of_getElem? (i := 488) (by decide +kernel), by decide +kernel⟩
theorem tw_489 : Cond.selects yX7_readNext.cls yX7_readNext yX7_readNext ∈ jm_tb := List.mem_filter.mpr ⟨List.mem_of_getElem? (i := 489) (by decide +kernel), by decide +kernel⟩
theorem tw_490 : Cond.code yX7_readNext cX7_readNext 4 none ∈ jm_tb := List.mem_filter.mpr ⟨List.mem_of_getElem? (i := 490) (by decide +kernel), by decide +kernel⟩
theorem qX7_119 : jm_CV "WeighedInBooks$Town" 119 yX7_readNext cX7_readNext 4 none 1 := ⟨tw_487, tw_488, tw_489, tw_83, tw_490, by decide, by decide, by decide +kernel⟩
theorem tw_480 : Cond.methodLink "WeighedInBooks$Town" 115 yX7_weekPasses ∈ jm_tb := List.mem_filter.mpr ⟨List.mem_of_getElem? (i := 480) (by decide +kernel), by decide +kernel⟩
theorem tw_481 : Cond.instanceMethod yX7_weekPasses ∈ jm_tb := List.mem_filter.mpr ⟨List.mem_of_getElem? (i := 481) (by decide +kernel), by decide +kernel⟩
theorem tw_482 : Cond.selects yX7_weekPasses.cls yX7_weekPasses yX7_weekPasses ∈ jm_tb := List.mem_filter.mpr ⟨List.mem_of_getElem? (i := 482) (by decide +kernel), by decide +kernel⟩
theorem tw_483 : Cond.code yX7_weekPasses cX7_weekPasses 4 none ∈ jm_tb := List.mem_filter.mpr ⟨List.mem_of_getElem? (i := 483) (by decide +kernel), by decide +kernel⟩
theorem qX7_115 : jm_CV "WeighedInBooks$Town" 115 yX7_weekPasses cX7_weekPasses 4 none 1 := ⟨tw_480, tw_481, tw_482, tw_83, tw_483, by decide, by decide, by decide +kernel⟩
theorem tw_146 : Cond.fieldLink "WeighedInBooks$Statements" 139 "WeighedInBooks$Town" "week" "I" ∈ jm_tb := List.mem_filter.mpr ⟨List.mem_of_getElem? (i := 146) (by decide +kernel), by decide +kernel⟩
theorem fl_X5_139 : jm_Fl "WeighedInBooks$Statements" 139 5 11 := ⟨_, _, _, rfl, by decide, inX7, tw_146⟩
theorem tw_476 : Cond.methodLink "WeighedInBooks$Statements" 142 yX7_weeksPass ∈ jm_tb := List.mem_filter.mpr ⟨List.mem_of_getElem? (i := 476) (by decide +kernel), by decide +kernel⟩
theorem tw_477 : Cond.instanceMethod yX7_weeksPass ∈ jm_tb := List.mem_filter.mpr ⟨List.mem_of_getElem? (i := 477) (by decide +kernel), by decide +kernel⟩
theorem tw_478 : Cond.selects yX7_weeksPass.cls yX7_weeksPass yX7_weeksPass ∈ jm_tb := List.mem_filter.mpr ⟨List.mem_of_getElem? (i := 478) (by decide +kernel), by decide +kernel⟩
theorem tw_479 : Cond.code yX7_weeksPass cX7_weeksPass 3 none ∈ jm_tb := List.mem_filter.mpr ⟨List.mem_of_getElem? (i := 479) (by decide +kernel), by decide +kernel⟩
theorem qX5_142 : jm_CV "WeighedInBooks$Statements" 142 yX7_weeksPass cX7_weeksPass 3 none 1 := ⟨tw_476, tw_477, tw_478, tw_83, tw_479, by decide, by decide, by decide +kernel⟩
theorem tw_424 : Cond.methodLink "WeighedInBooks$Statements" 76 yX5_takeBook ∈ jm_tb := List.mem_filter.mpr ⟨List.mem_of_getElem? (i := 424) (by decide +kernel), by decide +kernel⟩
theorem tw_425 : Cond.instanceMethod yX5_takeBook ∈ jm_tb := List.mem_filter.mpr ⟨List.mem_of_getElem? (i := 425) (by decide +kernel), by decide +kernel⟩
theorem tw_426 : Cond.selects yX5_takeBook.cls yX5_takeBook yX5_takeBook ∈ jm_tb := List.mem_filter.mpr ⟨List.mem_of_getElem? (i := 426) (by decide +kernel), by decide +kernel⟩
theorem tw_427 : Cond.code yX5_takeBook cX5_takeBook 5 (some .boolean) ∈ jm_tb := List.mem_filter.mpr ⟨List.mem_of_getElem? (i := 427) (by decide +kernel), by decide +kernel⟩
theorem qX5_76 : jm_CV "WeighedInBooks$Statements" 76 yX5_takeBook cX5_takeBook 5 (some .boolean) 0 := ⟨tw_424, tw_425, tw_426, tw_85, tw_427, by decide, by decide, by decide +kernel⟩
theorem tw_460 : Cond.methodLink "WeighedInBooks$Statements" 82 yX5_takeHolder ∈ jm_tb := List.mem_filter.mpr ⟨List.mem_of_getElem? (i := 460) (by decide +kernel), by decide +kernel⟩
theorem tw_461 : Cond.instanceMethod yX5_takeHolder ∈ jm_tb := List.mem_filter.mpr ⟨List.mem_of_getElem? (i := 461) (by decide +kernel), by decide +kernel⟩
theorem tw_462 : Cond.selects yX5_takeHolder.cls yX5_takeHolder yX5_takeHolder ∈ jm_tb := List.mem_filter.mpr ⟨List.mem_of_getElem? (i := 462) (by decide +kernel), by decide +kernel⟩
theorem tw_463 : Cond.code yX5_takeHolder cX5_takeHolder 3 (some .boolean) ∈ jm_tb := List.mem_filter.mpr ⟨List.mem_of_getElem? (i := 463) (by decide +kernel), by decide +kernel⟩
theorem qX5_82 : jm_CV "WeighedInBooks$Statements" 82 yX5_takeHolder cX5_takeHolder 3 (some .boolean) 0 := ⟨tw_460, tw_461, tw_462, tw_85, tw_463, by decide, by decide, by decide +kernel⟩
theorem tw_464 : Cond.methodLink "WeighedInBooks$Statements" 85 yX5_takeLaw ∈ jm_tb := List.mem_filter.mpr ⟨List.mem_of_getElem? (i := 464) (by decide +kernel), by decide +kernel⟩
theorem tw_465 : Cond.instanceMethod yX5_takeLaw ∈ jm_tb := List.mem_filter.mpr ⟨List.mem_of_getElem? (i := 465) (by decide +kernel), by decide +kernel⟩
theorem tw_466 : Cond.selects yX5_takeLaw.cls yX5_takeLaw yX5_takeLaw ∈ jm_tb := List.mem_filter.mpr ⟨List.mem_of_getElem? (i := 466) (by decide +kernel), by decide +kernel⟩
theorem tw_467 : Cond.code yX5_takeLaw cX5_takeLaw 5 (some .boolean) ∈ jm_tb := List.mem_filter.mpr ⟨List.mem_of_getElem? (i := 467) (by decide +kernel), by decide +kernel⟩
theorem qX5_85 : jm_CV "WeighedInBooks$Statements" 85 yX5_takeLaw cX5_takeLaw 5 (some .boolean) 0 := ⟨tw_464, tw_465, tw_466, tw_85, tw_467, by decide, by decide, by decide +kernel⟩
theorem tw_412 : Cond.methodLink "WeighedInBooks$Statements" 73 yX5_takePerson ∈ jm_tb := List.mem_filter.mpr ⟨List.mem_of_getElem? (i := 412) (by decide +kernel), by decide +kernel⟩
theorem tw_413 : Cond.instanceMethod yX5_takePerson ∈ jm_tb := List.mem_filter.mpr ⟨List.mem_of_getElem? (i := 413) (by decide +kernel), by decide +kernel⟩
theorem tw_414 : Cond.selects yX5_takePerson.cls yX5_takePerson yX5_takePerson ∈ jm_tb := List.mem_filter.mpr ⟨List.mem_of_getElem? (i := 414) (by decide +kernel), by decide +kernel⟩
theorem tw_415 : Cond.code yX5_takePerson cX5_takePerson 4 (some .boolean) ∈ jm_tb := List.mem_filter.mpr ⟨List.mem_of_getElem? (i := 415) (by decide +kernel), by decide +kernel⟩
theorem qX5_73 : jm_CV "WeighedInBooks$Statements" 73 yX5_takePerson cX5_takePerson 4 (some .boolean) 0 := ⟨tw_412, tw_413, tw_414, tw_85, tw_415, by decide, by decide, by decide +kernel⟩
theorem tw_451 : Cond.methodLink "WeighedInBooks$Statements" 79 yX5_takeReading ∈ jm_tb := List.mem_filter.mpr ⟨List.mem_of_getElem? (i := 451) (by decide +kernel), by decide +kernel⟩
theorem tw_452 : Cond.instanceMethod yX5_takeReading ∈ jm_tb := List.mem_filter.mpr ⟨List.mem_of_getElem? (i := 452) (by decide +kernel), by decide +kernel⟩
theorem tw_453 : Cond.selects yX5_takeReading.cls yX5_takeReading yX5_takeReading ∈ jm_tb := List.mem_filter.mpr ⟨List.mem_of_getElem? (i := 453) (by decide +kernel), by decide +kernel⟩
theorem tw_454 : Cond.code yX5_takeReading cX5_takeReading 3 (some .boolean) ∈ jm_tb := List.mem_filter.mpr ⟨List.mem_of_getElem? (i := 454) (by decide +kernel), by decide +kernel⟩
theorem qX5_79 : jm_CV "WeighedInBooks$Statements" 79 yX5_takeReading cX5_takeReading 3 (some .boolean) 0 := ⟨tw_451, tw_452, tw_453, tw_85, tw_454, by decide, by decide, by decide +kernel⟩
theorem tw_472 : Cond.methodLink "WeighedInBooks$Statements" 88 yX5_takeWeeks ∈ jm_tb := List.mem_filter.mpr ⟨List.mem_of_getElem? (i := 472) (by decide +kernel), by decide +kernel⟩
theorem tw_473 : Cond.instanceMethod yX5_takeWeeks ∈ jm_tb := List.mem_filter.mpr ⟨List.mem_of_getElem? (i := 473) (by decide +kernel), by decide +kernel⟩
theorem tw_474 : Cond.selects yX5_takeWeeks.cls yX5_takeWeeks yX5_takeWeeks ∈ jm_tb := List.mem_filter.mpr ⟨List.mem_of_getElem? (i := 474) (by decide +kernel), by decide +kernel⟩
theorem tw_475 : Cond.code yX5_takeWeeks cX5_takeWeeks 2 (some .boolean) ∈ jm_tb := List.mem_filter.mpr ⟨List.mem_of_getElem? (i := 475) (by decide +kernel), by decide +kernel⟩
theorem qX5_88 : jm_CV "WeighedInBooks$Statements" 88 yX5_takeWeeks cX5_takeWeeks 2 (some .boolean) 0 := ⟨tw_472, tw_473, tw_474, tw_85, tw_475, by decide, by decide, by decide +kernel⟩
theorem tw_359 : Cond.methodLink "WeighedInBooks$Statements" 26 yX5_canBeRead ∈ jm_tb := List.mem_filter.mpr ⟨List.mem_of_getElem? (i := 359) (by decide +kernel), by decide +kernel⟩
theorem tw_360 : Cond.instanceMethod yX5_canBeRead ∈ jm_tb := List.mem_filter.mpr ⟨List.mem_of_getElem? (i := 360) (by decide +kernel), by decide +kernel⟩
theorem tw_361 : Cond.selects yX5_canBeRead.cls yX5_canBeRead yX5_canBeRead ∈ jm_tb := List.mem_filter.mpr ⟨List.mem_of_getElem? (i := 361) (by decide +kernel), by decide +kernel⟩
theorem tw_362 : Cond.code yX5_canBeRead cX5_canBeRead 3 (some .boolean) ∈ jm_tb := List.mem_filter.mpr ⟨List.mem_of_getElem? (i := 362) (by decide +kernel), by decide +kernel⟩
theorem qX5_26 : jm_CV "WeighedInBooks$Statements" 26 yX5_canBeRead cX5_canBeRead 3 (some .boolean) 0 := ⟨tw_359, tw_360, tw_361, tw_85, tw_362, by decide, by decide, by decide +kernel⟩
theorem tw_401 : Cond.methodLink "WeighedInBooks$Statements" 33 yX7_copyFrom ∈ jm_tb := List.mem_filter.mpr ⟨List.mem_of_getElem? (i := 401) (by decide +kernel), by decide +kernel⟩
theorem tw_402 : Cond.instanceMethod yX7_copyFrom ∈ jm_tb := List.mem_filter.mpr ⟨List.mem_of_getElem? (i := 402) (by decide +kernel), by decide +kernel⟩
theorem tw_403 : Cond.selects yX7_copyFrom.cls yX7_copyFrom yX7_copyFrom ∈ jm_tb := List.mem_filter.mpr ⟨List.mem_of_getElem? (i := 403) (by decide +kernel), by decide +kernel⟩
theorem tw_404 : Cond.code yX7_copyFrom cX7_copyFrom 2 none ∈ jm_tb := List.mem_filter.mpr ⟨List.mem_of_getElem? (i := 404) (by decide +kernel), by decide +kernel⟩
theorem qX5_33 : jm_CV "WeighedInBooks$Statements" 33 yX7_copyFrom cX7_copyFrom 2 none 1 := ⟨tw_401, tw_402, tw_403, tw_83, tw_404, by decide, by decide, by decide +kernel⟩
theorem tw_408 : Cond.methodLink "WeighedInBooks$Statements" 41 yX5_takeBody ∈ jm_tb := List.mem_filter.mpr ⟨List.mem_of_getElem? (i := 408) (by decide +kernel), by decide +kernel⟩
theorem tw_409 : Cond.instanceMethod yX5_takeBody ∈ jm_tb := List.mem_filter.mpr ⟨List.mem_of_getElem? (i := 409) (by decide +kernel), by decide +kernel⟩
theorem tw_410 : Cond.selects yX5_takeBody.cls yX5_takeBody yX5_takeBody ∈ jm_tb := List.mem_filter.mpr ⟨List.mem_of_getElem? (i := 410) (by decide +kernel), by decide +kernel⟩
theorem tw_411 : Cond.code yX5_takeBody cX5_takeBody 2 (some .boolean) ∈ jm_tb := List.mem_filter.mpr ⟨List.mem_of_getElem? (i := 411) (by decide +kernel), by decide +kernel⟩
theorem qX5_41 : jm_CV "WeighedInBooks$Statements" 41 yX5_takeBody cX5_takeBody 2 (some .boolean) 1 := ⟨tw_408, tw_409, tw_410, tw_85, tw_411, by decide, by decide, by decide +kernel⟩
theorem tw_195 : Cond.fieldLink "WeighedInBooks$Past" 22 "WeighedInBooks$Past" "many" "I" ∈ jm_tb := List.mem_filter.mpr ⟨List.mem_of_getElem? (i := 195) (by decide +kernel), by decide +kernel⟩
theorem fp_X4_22 : jm_Fp "WeighedInBooks$Past" 22 3 2 .int := ⟨_, _, _, tyX4, rfl, by decide, inX4, tw_195, tyX4_ok, nmX4, rfl, by decide +kernel⟩
theorem tw_302 : Cond.fieldLink "WeighedInBooks" 10 "WeighedInBooks" "now" "LWeighedInBooks$Town;" ∈ jm_tb := List.mem_filter.mpr ⟨List.mem_of_getElem? (i := 302) (by decide +kernel), by decide +kernel⟩
theorem fl_X8_10 : jm_Fl "WeighedInBooks" 10 6 0 := ⟨_, _, _, rfl, by decide, inX8, tw_302⟩
theorem tw_355 : Cond.methodLink "WeighedInBooks" 75 yX5_tellTo ∈ jm_tb := List.mem_filter.mpr ⟨List.mem_of_getElem? (i := 355) (by decide +kernel), by decide +kernel⟩
theorem tw_356 : Cond.instanceMethod yX5_tellTo ∈ jm_tb := List.mem_filter.mpr ⟨List.mem_of_getElem? (i := 356) (by decide +kernel), by decide +kernel⟩
theorem tw_357 : Cond.selects yX5_tellTo.cls yX5_tellTo yX5_tellTo ∈ jm_tb := List.mem_filter.mpr ⟨List.mem_of_getElem? (i := 357) (by decide +kernel), by decide +kernel⟩
theorem tw_358 : Cond.code yX5_tellTo cX5_tellTo 5 (some .int) ∈ jm_tb := List.mem_filter.mpr ⟨List.mem_of_getElem? (i := 358) (by decide +kernel), by decide +kernel⟩
theorem qX8_75 : jm_CV "WeighedInBooks" 75 yX5_tellTo cX5_tellTo 5 (some .int) 1 := ⟨tw_355, tw_356, tw_357, tw_85, tw_358, by decide, by decide, by decide +kernel⟩
theorem fp_X8_68 : jm_Fp "WeighedInBooks" 68 4 1 .int := ⟨_, _, _, tyX5, rfl, by decide, inX5, tw_214, tyX5_ok, nmX5, rfl, by decide +kernel⟩
theorem tw_303 : Cond.fieldLink "WeighedInBooks" 19 "WeighedInBooks" "past" "LWeighedInBooks$Past;" ∈ jm_tb := List.mem_filter.mpr ⟨List.mem_of_getElem? (i := 303) (by decide +kernel), by decide +kernel⟩
theorem fl_X8_19 : jm_Fl "WeighedInBooks" 19 6 1 := ⟨_, _, _, rfl, by decide, inX8, tw_303⟩
theorem tw_495 : Cond.methodLink "WeighedInBooks" 79 yX4_forget ∈ jm_tb := List.mem_filter.mpr ⟨List.mem_of_getElem? (i := 495) (by decide +kernel), by decide +kernel⟩
theorem tw_496 : Cond.instanceMethod yX4_forget ∈ jm_tb := List.mem_filter.mpr ⟨List.mem_of_getElem? (i := 496) (by decide +kernel), by decide +kernel⟩
theorem tw_497 : Cond.selects yX4_forget.cls yX4_forget yX4_forget ∈ jm_tb := List.mem_filter.mpr ⟨List.mem_of_getElem? (i := 497) (by decide +kernel), by decide +kernel⟩
theorem tw_84 : Cond.initialized yX4_forget.cls ∈ jm_tb := List.mem_filter.mpr ⟨List.mem_of_getElem? (i := 84) (by decide +kernel), by decide +kernel⟩
theorem tw_498 : Cond.code yX4_forget cX4_forget 1 none ∈ jm_tb := List.mem_filter.mpr ⟨List.mem_of_getElem? (i := 498) (by decide +kernel), by decide +kernel⟩
theorem qX8_79 : jm_CV "WeighedInBooks" 79 yX4_forget cX4_forget 1 none 0 := ⟨tw_495, tw_496, tw_497, tw_84, tw_498, by decide, by decide, by decide +kernel⟩
theorem tw_111 : Cond.fieldLink "WeighedInBooks" 82 "WeighedInBooks$Town" "people" "I" ∈ jm_tb := List.mem_filter.mpr ⟨List.mem_of_getElem? (i := 111) (by decide +kernel), by decide +kernel⟩
theorem fl_X8_82 : jm_Fl "WeighedInBooks" 82 5 0 := ⟨_, _, _, rfl, by decide, inX7, tw_111⟩
theorem tw_503 : Cond.methodLink "WeighedInBooks" 85 yX7_addPerson ∈ jm_tb := List.mem_filter.mpr ⟨List.mem_of_getElem? (i := 503) (by decide +kernel), by decide +kernel⟩
theorem qX8_85 : jm_CV "WeighedInBooks" 85 yX7_addPerson cX7_addPerson 5 (some .int) 3 := ⟨tw_503, tw_421, tw_422, tw_83, tw_423, by decide, by decide, by decide +kernel⟩
theorem tw_512 : Cond.methodLink "WeighedInBooks$Titles" 7 yX6_longer ∈ jm_tb := List.mem_filter.mpr ⟨List.mem_of_getElem? (i := 512) (by decide +kernel), by decide +kernel⟩
theorem qX6_7 : jm_CS "WeighedInBooks$Titles" 7 yX6_longer cX6_longer 5 (some .int) 3 := ⟨tw_512, tw_433, tw_91, tw_434, by decide, by decide, by decide +kernel⟩
theorem tw_122 : Cond.fieldLink "WeighedInBooks" 89 "WeighedInBooks$Town" "books" "I" ∈ jm_tb := List.mem_filter.mpr ⟨List.mem_of_getElem? (i := 122) (by decide +kernel), by decide +kernel⟩
theorem fl_X8_89 : jm_Fl "WeighedInBooks" 89 5 4 := ⟨_, _, _, rfl, by decide, inX7, tw_122⟩
theorem tw_508 : Cond.methodLink "WeighedInBooks" 92 yX7_hasKeeper ∈ jm_tb := List.mem_filter.mpr ⟨List.mem_of_getElem? (i := 508) (by decide +kernel), by decide +kernel⟩
theorem qX8_92 : jm_CV "WeighedInBooks" 92 yX7_hasKeeper cX7_hasKeeper 2 (some .boolean) 1 := ⟨tw_508, tw_436, tw_437, tw_83, tw_438, by decide, by decide, by decide +kernel⟩
theorem tw_509 : Cond.methodLink "WeighedInBooks" 96 yX6_ofLetter ∈ jm_tb := List.mem_filter.mpr ⟨List.mem_of_getElem? (i := 509) (by decide +kernel), by decide +kernel⟩
theorem tw_510 : Cond.static yX6_ofLetter ∈ jm_tb := List.mem_filter.mpr ⟨List.mem_of_getElem? (i := 510) (by decide +kernel), by decide +kernel⟩
theorem tw_511 : Cond.code yX6_ofLetter cX6_ofLetter 1 (some .int) ∈ jm_tb := List.mem_filter.mpr ⟨List.mem_of_getElem? (i := 511) (by decide +kernel), by decide +kernel⟩
theorem qX8_96 : jm_CS "WeighedInBooks" 96 yX6_ofLetter cX6_ofLetter 1 (some .int) 1 := ⟨tw_509, tw_510, tw_91, tw_511, by decide, by decide, by decide +kernel⟩
theorem tw_513 : Cond.methodLink "WeighedInBooks" 101 yX7_bookWithTitle ∈ jm_tb := List.mem_filter.mpr ⟨List.mem_of_getElem? (i := 513) (by decide +kernel), by decide +kernel⟩
theorem qX8_101 : jm_CV "WeighedInBooks" 101 yX7_bookWithTitle cX7_bookWithTitle 3 (some .int) 1 := ⟨tw_513, tw_444, tw_445, tw_83, tw_446, by decide, by decide, by decide +kernel⟩
theorem tw_514 : Cond.methodLink "WeighedInBooks" 104 yX7_addBook ∈ jm_tb := List.mem_filter.mpr ⟨List.mem_of_getElem? (i := 514) (by decide +kernel), by decide +kernel⟩
theorem qX8_104 : jm_CV "WeighedInBooks" 104 yX7_addBook cX7_addBook 6 (some .int) 4 := ⟨tw_514, tw_448, tw_449, tw_83, tw_450, by decide, by decide, by decide +kernel⟩
theorem tw_524 : Cond.methodLink "WeighedInBooks$Town" 123 yX7_booksReadBy ∈ jm_tb := List.mem_filter.mpr ⟨List.mem_of_getElem? (i := 524) (by decide +kernel), by decide +kernel⟩
theorem tw_525 : Cond.instanceMethod yX7_booksReadBy ∈ jm_tb := List.mem_filter.mpr ⟨List.mem_of_getElem? (i := 525) (by decide +kernel), by decide +kernel⟩
theorem tw_526 : Cond.selects yX7_booksReadBy.cls yX7_booksReadBy yX7_booksReadBy ∈ jm_tb := List.mem_filter.mpr ⟨List.mem_of_getElem? (i := 526) (by decide +kernel), by decide +kernel⟩
theorem tw_527 : Cond.code yX7_booksReadBy cX7_booksReadBy 4 (some .int) ∈ jm_tb := List.mem_filter.mpr ⟨List.mem_of_getElem? (i := 527) (by decide +kernel), by decide +kernel⟩
theorem qX7_123 : jm_CV "WeighedInBooks$Town" 123 yX7_booksReadBy cX7_booksReadBy 4 (some .int) 1 := ⟨tw_524, tw_525, tw_526, tw_83, tw_527, by decide, by decide, by decide +kernel⟩
theorem tw_528 : Cond.methodLink "WeighedInBooks$Town" 68 yJ6_bitCount_0f7a4 ∈ jm_tb := List.mem_filter.mpr ⟨List.mem_of_getElem? (i := 528) (by decide +kernel), by decide +kernel⟩
theorem tw_529 : Cond.static yJ6_bitCount_0f7a4 ∈ jm_tb := List.mem_filter.mpr ⟨List.mem_of_getElem? (i := 529) (by decide +kernel), by decide +kernel⟩
theorem tw_93 : Cond.initialized yJ6_bitCount_0f7a4.cls ∈ jm_tb := List.mem_filter.mpr ⟨List.mem_of_getElem? (i := 93) (by decide +kernel), by decide +kernel⟩
theorem tw_530 : Cond.code yJ6_bitCount_0f7a4 cJ6_bitCount_0f7a4 1 (some .int) ∈ jm_tb := List.mem_filter.mpr ⟨List.mem_of_getElem? (i := 530) (by decide +kernel), by decide +kernel⟩
theorem qX7_68 : jm_CS "WeighedInBooks$Town" 68 yJ6_bitCount_0f7a4 cJ6_bitCount_0f7a4 1 (some .int) 1 := ⟨tw_528, tw_529, tw_93, tw_530, by decide, by decide, by decide +kernel⟩
theorem tw_519 : Cond.methodLink "WeighedInBooks" 108 yX7_hasPerson ∈ jm_tb := List.mem_filter.mpr ⟨List.mem_of_getElem? (i := 519) (by decide +kernel), by decide +kernel⟩
theorem qX8_108 : jm_CV "WeighedInBooks" 108 yX7_hasPerson cX7_hasPerson 2 (some .boolean) 1 := ⟨tw_519, tw_440, tw_441, tw_83, tw_442, by decide, by decide, by decide +kernel⟩
theorem tw_115 : Cond.fieldLink "WeighedInBooks" 111 "WeighedInBooks$Town" "weight" "[I" ∈ jm_tb := List.mem_filter.mpr ⟨List.mem_of_getElem? (i := 115) (by decide +kernel), by decide +kernel⟩
theorem fl_X8_111 : jm_Fl "WeighedInBooks" 111 5 1 := ⟨_, _, _, rfl, by decide, inX7, tw_115⟩
theorem tw_117 : Cond.fieldLink "WeighedInBooks" 114 "WeighedInBooks$Town" "appetite" "[I" ∈ jm_tb := List.mem_filter.mpr ⟨List.mem_of_getElem? (i := 117) (by decide +kernel), by decide +kernel⟩
theorem fl_X8_114 : jm_Fl "WeighedInBooks" 114 5 2 := ⟨_, _, _, rfl, by decide, inX7, tw_117⟩
theorem tw_119 : Cond.fieldLink "WeighedInBooks" 117 "WeighedInBooks$Town" "purse" "[I" ∈ jm_tb := List.mem_filter.mpr ⟨List.mem_of_getElem? (i := 119) (by decide +kernel), by decide +kernel⟩
theorem fl_X8_117 : jm_Fl "WeighedInBooks" 117 5 3 := ⟨_, _, _, rfl, by decide, inX7, tw_119⟩
theorem tw_520 : Cond.methodLink "WeighedInBooks" 120 yX7_readingsOf ∈ jm_tb := List.mem_filter.mpr ⟨List.mem_of_getElem? (i := 520) (by decide +kernel), by decide +kernel⟩
theorem tw_521 : Cond.instanceMethod yX7_readingsOf ∈ jm_tb := List.mem_filter.mpr ⟨List.mem_of_getElem? (i := 521) (by decide +kernel), by decide +kernel⟩
theorem tw_522 : Cond.selects yX7_readingsOf.cls yX7_readingsOf yX7_readingsOf ∈ jm_tb := List.mem_filter.mpr ⟨List.mem_of_getElem? (i := 522) (by decide +kernel), by decide +kernel⟩
theorem tw_523 : Cond.code yX7_readingsOf cX7_readingsOf 2 (some .int) ∈ jm_tb := List.mem_filter.mpr ⟨List.mem_of_getElem? (i := 523) (by decide +kernel), by decide +kernel⟩
theorem qX8_120 : jm_CV "WeighedInBooks" 120 yX7_readingsOf cX7_readingsOf 2 (some .int) 1 := ⟨tw_520, tw_521, tw_522, tw_83, tw_523, by decide, by decide, by decide +kernel⟩
theorem tw_135 : Cond.fieldLink "WeighedInBooks" 123 "WeighedInBooks$Town" "holder" "[I" ∈ jm_tb := List.mem_filter.mpr ⟨List.mem_of_getElem? (i := 135) (by decide +kernel), by decide +kernel⟩
theorem fl_X8_123 : jm_Fl "WeighedInBooks" 123 5 8 := ⟨_, _, _, rfl, by decide, inX7, tw_135⟩
theorem tw_534 : Cond.methodLink "WeighedInBooks" 126 yX7_booksWith ∈ jm_tb := List.mem_filter.mpr ⟨List.mem_of_getElem? (i := 534) (by decide +kernel), by decide +kernel⟩
theorem tw_535 : Cond.instanceMethod yX7_booksWith ∈ jm_tb := List.mem_filter.mpr ⟨List.mem_of_getElem? (i := 535) (by decide +kernel), by decide +kernel⟩
theorem tw_536 : Cond.selects yX7_booksWith.cls yX7_booksWith yX7_booksWith ∈ jm_tb := List.mem_filter.mpr ⟨List.mem_of_getElem? (i := 536) (by decide +kernel), by decide +kernel⟩
theorem tw_537 : Cond.code yX7_booksWith cX7_booksWith 5 (some .int) ∈ jm_tb := List.mem_filter.mpr ⟨List.mem_of_getElem? (i := 537) (by decide +kernel), by decide +kernel⟩
theorem qX8_126 : jm_CV "WeighedInBooks" 126 yX7_booksWith cX7_booksWith 5 (some .int) 2 := ⟨tw_534, tw_535, tw_536, tw_83, tw_537, by decide, by decide, by decide +kernel⟩
theorem tw_133 : Cond.fieldLink "WeighedInBooks" 130 "WeighedInBooks$Town" "owner" "[I" ∈ jm_tb := List.mem_filter.mpr ⟨List.mem_of_getElem? (i := 133) (by decide +kernel), by decide +kernel⟩
theorem fl_X8_130 : jm_Fl "WeighedInBooks" 130 5 7 := ⟨_, _, _, rfl, by decide, inX7, tw_133⟩
theorem tw_547 : Cond.methodLink "WeighedInBooks$Town" 74 yX6_lengthOf ∈ jm_tb := List.mem_filter.mpr ⟨List.mem_of_getElem? (i := 547) (by decide +kernel), by decide +kernel⟩
theorem tw_548 : Cond.static yX6_lengthOf ∈ jm_tb := List.mem_filter.mpr ⟨List.mem_of_getElem? (i := 548) (by decide +kernel), by decide +kernel⟩
theorem tw_549 : Cond.code yX6_lengthOf cX6_lengthOf 3 (some .int) ∈ jm_tb := List.mem_filter.mpr ⟨List.mem_of_getElem? (i := 549) (by decide +kernel), by decide +kernel⟩
theorem qX7_74 : jm_CS "WeighedInBooks$Town" 74 yX6_lengthOf cX6_lengthOf 3 (some .int) 1 := ⟨tw_547, tw_548, tw_91, tw_549, by decide, by decide, by decide +kernel⟩
theorem tw_550 : Cond.methodLink "WeighedInBooks$Town" 79 Lib.Math.max.name ∈ jm_tb := List.mem_filter.mpr ⟨List.mem_of_getElem? (i := 550) (by decide +kernel), by decide +kernel⟩
theorem tw_551 : Cond.static Lib.Math.max.name ∈ jm_tb := List.mem_filter.mpr ⟨List.mem_of_getElem? (i := 551) (by decide +kernel), by decide +kernel⟩
theorem tw_552 : Cond.code Lib.Math.max.name Lib.Math.max.code 2 (some .int) ∈ jm_tb := List.mem_filter.mpr ⟨List.mem_of_getElem? (i := 552) (by decide +kernel), by decide +kernel⟩
theorem tw_542 : Cond.methodLink "WeighedInBooks" 133 yX7_hasBook ∈ jm_tb := List.mem_filter.mpr ⟨List.mem_of_getElem? (i := 542) (by decide +kernel), by decide +kernel⟩
theorem qX8_133 : jm_CV "WeighedInBooks" 133 yX7_hasBook cX7_hasBook 2 (some .boolean) 1 := ⟨tw_542, tw_457, tw_458, tw_83, tw_459, by decide, by decide, by decide +kernel⟩
theorem tw_126 : Cond.fieldLink "WeighedInBooks" 136 "WeighedInBooks$Town" "kind" "[I" ∈ jm_tb := List.mem_filter.mpr ⟨List.mem_of_getElem? (i := 126) (by decide +kernel), by decide +kernel⟩
theorem fl_X8_136 : jm_Fl "WeighedInBooks" 136 5 5 := ⟨_, _, _, rfl, by decide, inX7, tw_126⟩
theorem tw_129 : Cond.fieldLink "WeighedInBooks" 139 "WeighedInBooks$Town" "figure" "[I" ∈ jm_tb := List.mem_filter.mpr ⟨List.mem_of_getElem? (i := 129) (by decide +kernel), by decide +kernel⟩
theorem fl_X8_139 : jm_Fl "WeighedInBooks" 139 5 6 := ⟨_, _, _, rfl, by decide, inX7, tw_129⟩
theorem tw_139 : Cond.fieldLink "WeighedInBooks" 142 "WeighedInBooks$Town" "readers" "[I" ∈ jm_tb := List.mem_filter.mpr ⟨List.mem_of_getElem? (i := 139) (by decide +kernel), by decide +kernel⟩
theorem fl_X8_142 : jm_Fl "WeighedInBooks" 142 5 9 := ⟨_, _, _, rfl, by decide, inX7, tw_139⟩
theorem tw_543 : Cond.methodLink "WeighedInBooks" 145 yX7_weighs ∈ jm_tb := List.mem_filter.mpr ⟨List.mem_of_getElem? (i := 543) (by decide +kernel), by decide +kernel⟩
theorem tw_544 : Cond.instanceMethod yX7_weighs ∈ jm_tb := List.mem_filter.mpr ⟨List.mem_of_getElem? (i := 544) (by decide +kernel), by decide +kernel⟩
theorem tw_545 : Cond.selects yX7_weighs.cls yX7_weighs yX7_weighs ∈ jm_tb := List.mem_filter.mpr ⟨List.mem_of_getElem? (i := 545) (by decide +kernel), by decide +kernel⟩
theorem tw_546 : Cond.code yX7_weighs cX7_weighs 8 (some .int) ∈ jm_tb := List.mem_filter.mpr ⟨List.mem_of_getElem? (i := 546) (by decide +kernel), by decide +kernel⟩
theorem qX8_145 : jm_CV "WeighedInBooks" 145 yX7_weighs cX7_weighs 8 (some .int) 1 := ⟨tw_543, tw_544, tw_545, tw_83, tw_546, by decide, by decide, by decide +kernel⟩
theorem tw_553 : Cond.methodLink "WeighedInBooks" 148 yX7_priceOf ∈ jm_tb := List.mem_filter.mpr ⟨List.mem_of_getElem? (i := 553) (by decide +kernel), by decide +kernel⟩
theorem tw_554 : Cond.instanceMethod yX7_priceOf ∈ jm_tb := List.mem_filter.mpr ⟨List.mem_of_getElem? (i := 554) (by decide +kernel), by decide +kernel⟩
theorem tw_555 : Cond.selects yX7_priceOf.cls yX7_priceOf yX7_priceOf ∈ jm_tb := List.mem_filter.mpr ⟨List.mem_of_getElem? (i := 555) (by decide +kernel), by decide +kernel⟩
theorem tw_556 : Cond.code yX7_priceOf cX7_priceOf 6 (some .int) ∈ jm_tb := List.mem_filter.mpr ⟨List.mem_of_getElem? (i := 556) (by decide +kernel), by decide +kernel⟩
theorem qX8_148 : jm_CV "WeighedInBooks" 148 yX7_priceOf cX7_priceOf 6 (some .int) 1 := ⟨tw_553, tw_554, tw_555, tw_83, tw_556, by decide, by decide, by decide +kernel⟩
theorem tw_143 : Cond.fieldLink "WeighedInBooks" 151 "WeighedInBooks$Town" "title" "[I" ∈ jm_tb := List.mem_filter.mpr ⟨List.mem_of_getElem? (i := 143) (by decide +kernel), by decide +kernel⟩
theorem fl_X8_151 : jm_Fl "WeighedInBooks" 151 5 10 := ⟨_, _, _, rfl, by decide, inX7, tw_143⟩
theorem tw_557 : Cond.methodLink "WeighedInBooks" 154 yX6_lengthOf ∈ jm_tb := List.mem_filter.mpr ⟨List.mem_of_getElem? (i := 557) (by decide +kernel), by decide +kernel⟩
theorem qX8_154 : jm_CS "WeighedInBooks" 154 yX6_lengthOf cX6_lengthOf 3 (some .int) 1 := ⟨tw_557, tw_548, tw_91, tw_549, by decide, by decide, by decide +kernel⟩
theorem tw_562 : Cond.methodLink "WeighedInBooks" 157 yX6_letterAt ∈ jm_tb := List.mem_filter.mpr ⟨List.mem_of_getElem? (i := 562) (by decide +kernel), by decide +kernel⟩
theorem tw_563 : Cond.static yX6_letterAt ∈ jm_tb := List.mem_filter.mpr ⟨List.mem_of_getElem? (i := 563) (by decide +kernel), by decide +kernel⟩
theorem tw_564 : Cond.code yX6_letterAt cX6_letterAt 4 (some .int) ∈ jm_tb := List.mem_filter.mpr ⟨List.mem_of_getElem? (i := 564) (by decide +kernel), by decide +kernel⟩
theorem qX8_157 : jm_CS "WeighedInBooks" 157 yX6_letterAt cX6_letterAt 4 (some .int) 2 := ⟨tw_562, tw_563, tw_91, tw_564, by decide, by decide, by decide +kernel⟩
theorem tw_194 : Cond.fieldLink "WeighedInBooks$Past" 17 "WeighedInBooks$Past" "latest" "I" ∈ jm_tb := List.mem_filter.mpr ⟨List.mem_of_getElem? (i := 194) (by decide +kernel), by decide +kernel⟩
theorem fl_X4_17 : jm_Fl "WeighedInBooks$Past" 17 3 1 := ⟨_, _, _, rfl, by decide, inX4, tw_194⟩
theorem fp_X4_17 : jm_Fp "WeighedInBooks$Past" 17 3 1 .int := ⟨_, _, _, tyX4, rfl, by decide, inX4, tw_194, tyX4_ok, nmX4, rfl, by decide +kernel⟩
theorem fl_X4_22 : jm_Fl "WeighedInBooks$Past" 22 3 2 := ⟨_, _, _, rfl, by decide, inX4, tw_195⟩
theorem tw_573 : Cond.methodLink "WeighedInBooks$Past" 25 Lib.Math.min.name ∈ jm_tb := List.mem_filter.mpr ⟨List.mem_of_getElem? (i := 573) (by decide +kernel), by decide +kernel⟩
theorem tw_193 : Cond.fieldLink "WeighedInBooks$Past" 11 "WeighedInBooks$Past" "kept" "[LWeighedInBooks$Town;" ∈ jm_tb := List.mem_filter.mpr ⟨List.mem_of_getElem? (i := 193) (by decide +kernel), by decide +kernel⟩
theorem fl_X4_11 : jm_Fl "WeighedInBooks$Past" 11 3 0 := ⟨_, _, _, rfl, by decide, inX4, tw_193⟩
theorem tw_574 : Cond.methodLink "WeighedInBooks$Past" 31 yX7_copyFrom ∈ jm_tb := List.mem_filter.mpr ⟨List.mem_of_getElem? (i := 574) (by decide +kernel), by decide +kernel⟩
theorem qX4_31 : jm_CV "WeighedInBooks$Past" 31 yX7_copyFrom cX7_copyFrom 2 none 1 := ⟨tw_574, tw_402, tw_403, tw_83, tw_404, by decide, by decide, by decide +kernel⟩
theorem tw_569 : Cond.methodLink "WeighedInBooks" 161 yX4_keep ∈ jm_tb := List.mem_filter.mpr ⟨List.mem_of_getElem? (i := 569) (by decide +kernel), by decide +kernel⟩
theorem tw_570 : Cond.instanceMethod yX4_keep ∈ jm_tb := List.mem_filter.mpr ⟨List.mem_of_getElem? (i := 570) (by decide +kernel), by decide +kernel⟩
theorem tw_571 : Cond.selects yX4_keep.cls yX4_keep yX4_keep ∈ jm_tb := List.mem_filter.mpr ⟨List.mem_of_getElem? (i := 571) (by decide +kernel), by decide +kernel⟩
theorem tw_572 : Cond.code yX4_keep cX4_keep 3 none ∈ jm_tb := List.mem_filter.mpr ⟨List.mem_of_getElem? (i := 572) (by decide +kernel), by decide +kernel⟩
theorem qX8_161 : jm_CV "WeighedInBooks" 161 yX4_keep cX4_keep 3 none 1 := ⟨tw_569, tw_570, tw_571, tw_84, tw_572, by decide, by decide, by decide +kernel⟩
theorem tw_579 : Cond.methodLink "WeighedInBooks" 165 yX7_hasRead ∈ jm_tb := List.mem_filter.mpr ⟨List.mem_of_getElem? (i := 579) (by decide +kernel), by decide +kernel⟩
theorem qX8_165 : jm_CV "WeighedInBooks" 165 yX7_hasRead cX7_hasRead 3 (some .int) 2 := ⟨tw_579, tw_492, tw_493, tw_83, tw_494, by decide, by decide, by decide +kernel⟩
theorem tw_148 : Cond.fieldLink "WeighedInBooks" 168 "WeighedInBooks$Town" "steps" "I" ∈ jm_tb := List.mem_filter.mpr ⟨List.mem_of_getElem? (i := 148) (by decide +kernel), by decide +kernel⟩
theorem fl_X8_168 : jm_Fl "WeighedInBooks" 168 5 12 := ⟨_, _, _, rfl, by decide, inX7, tw_148⟩
theorem tw_592 : Cond.methodLink "WeighedInBooks" 171 yX7_addStep ∈ jm_tb := List.mem_filter.mpr ⟨List.mem_of_getElem? (i := 592) (by decide +kernel), by decide +kernel⟩
theorem qX8_171 : jm_CV "WeighedInBooks" 171 yX7_addStep cX7_addStep 3 none 2 := ⟨tw_592, tw_469, tw_470, tw_83, tw_471, by decide, by decide, by decide +kernel⟩
theorem fp_X8_168 : jm_Fp "WeighedInBooks" 168 5 12 .int := ⟨_, _, _, tyX7, rfl, by decide, inX7, tw_148, tyX7_ok, nmX7, rfl, by decide +kernel⟩
theorem tw_145 : Cond.fieldLink "WeighedInBooks" 175 "WeighedInBooks$Town" "week" "I" ∈ jm_tb := List.mem_filter.mpr ⟨List.mem_of_getElem? (i := 145) (by decide +kernel), by decide +kernel⟩
theorem fl_X8_175 : jm_Fl "WeighedInBooks" 175 5 11 := ⟨_, _, _, rfl, by decide, inX7, tw_145⟩
theorem tw_601 : Cond.methodLink "WeighedInBooks" 178 yX7_weeksPass ∈ jm_tb := List.mem_filter.mpr ⟨List.mem_of_getElem? (i := 601) (by decide +kernel), by decide +kernel⟩
theorem qX8_178 : jm_CV "WeighedInBooks" 178 yX7_weeksPass cX7_weeksPass 3 none 1 := ⟨tw_601, tw_477, tw_478, tw_83, tw_479, by decide, by decide, by decide +kernel⟩
theorem tw_196 : Cond.fieldLink "WeighedInBooks" 182 "WeighedInBooks$Past" "many" "I" ∈ jm_tb := List.mem_filter.mpr ⟨List.mem_of_getElem? (i := 196) (by decide +kernel), by decide +kernel⟩
theorem fl_X8_182 : jm_Fl "WeighedInBooks" 182 3 2 := ⟨_, _, _, rfl, by decide, inX4, tw_196⟩
theorem tw_606 : Cond.methodLink "WeighedInBooks" 185 yX4_giveBack ∈ jm_tb := List.mem_filter.mpr ⟨List.mem_of_getElem? (i := 606) (by decide +kernel), by decide +kernel⟩
theorem tw_607 : Cond.instanceMethod yX4_giveBack ∈ jm_tb := List.mem_filter.mpr ⟨List.mem_of_getElem? (i := 607) (by decide +kernel), by decide +kernel⟩
theorem tw_608 : Cond.selects yX4_giveBack.cls yX4_giveBack yX4_giveBack ∈ jm_tb := List.mem_filter.mpr ⟨List.mem_of_getElem? (i := 608) (by decide +kernel), by decide +kernel⟩
theorem tw_609 : Cond.code yX4_giveBack cX4_giveBack 3 none ∈ jm_tb := List.mem_filter.mpr ⟨List.mem_of_getElem? (i := 609) (by decide +kernel), by decide +kernel⟩
theorem qX8_185 : jm_CV "WeighedInBooks" 185 yX4_giveBack cX4_giveBack 3 none 1 := ⟨tw_606, tw_607, tw_608, tw_84, tw_609, by decide, by decide, by decide +kernel⟩
theorem tw_631 : Cond.methodLink "WeighedInBooks$Town" 88 yX7_weighs ∈ jm_tb := List.mem_filter.mpr ⟨List.mem_of_getElem? (i := 631) (by decide +kernel), by decide +kernel⟩
theorem qX7_88 : jm_CV "WeighedInBooks$Town" 88 yX7_weighs cX7_weighs 8 (some .int) 1 := ⟨tw_631, tw_544, tw_545, tw_83, tw_546, by decide, by decide, by decide +kernel⟩
theorem tw_632 : Cond.methodLink "WeighedInBooks$Town" 91 yX7_stepped ∈ jm_tb := List.mem_filter.mpr ⟨List.mem_of_getElem? (i := 632) (by decide +kernel), by decide +kernel⟩
theorem tw_633 : Cond.instanceMethod yX7_stepped ∈ jm_tb := List.mem_filter.mpr ⟨List.mem_of_getElem? (i := 633) (by decide +kernel), by decide +kernel⟩
theorem tw_634 : Cond.selects yX7_stepped.cls yX7_stepped yX7_stepped ∈ jm_tb := List.mem_filter.mpr ⟨List.mem_of_getElem? (i := 634) (by decide +kernel), by decide +kernel⟩
theorem tw_635 : Cond.code yX7_stepped cX7_stepped 5 (some .int) ∈ jm_tb := List.mem_filter.mpr ⟨List.mem_of_getElem? (i := 635) (by decide +kernel), by decide +kernel⟩
theorem qX7_91 : jm_CV "WeighedInBooks$Town" 91 yX7_stepped cX7_stepped 5 (some .int) 3 := ⟨tw_632, tw_633, tw_634, tw_83, tw_635, by decide, by decide, by decide +kernel⟩
theorem tw_623 : Cond.methodLink "WeighedInBooks$Town" 98 yX7_isOnPan ∈ jm_tb := List.mem_filter.mpr ⟨List.mem_of_getElem? (i := 623) (by decide +kernel), by decide +kernel⟩
theorem tw_624 : Cond.instanceMethod yX7_isOnPan ∈ jm_tb := List.mem_filter.mpr ⟨List.mem_of_getElem? (i := 624) (by decide +kernel), by decide +kernel⟩
theorem tw_625 : Cond.selects yX7_isOnPan.cls yX7_isOnPan yX7_isOnPan ∈ jm_tb := List.mem_filter.mpr ⟨List.mem_of_getElem? (i := 625) (by decide +kernel), by decide +kernel⟩
theorem tw_626 : Cond.code yX7_isOnPan cX7_isOnPan 4 (some .boolean) ∈ jm_tb := List.mem_filter.mpr ⟨List.mem_of_getElem? (i := 626) (by decide +kernel), by decide +kernel⟩
theorem qX7_98 : jm_CV "WeighedInBooks$Town" 98 yX7_isOnPan cX7_isOnPan 4 (some .boolean) 3 := ⟨tw_623, tw_624, tw_625, tw_83, tw_626, by decide, by decide, by decide +kernel⟩
theorem tw_627 : Cond.methodLink "WeighedInBooks$Town" 102 yX7_comesTo ∈ jm_tb := List.mem_filter.mpr ⟨List.mem_of_getElem? (i := 627) (by decide +kernel), by decide +kernel⟩
theorem tw_628 : Cond.instanceMethod yX7_comesTo ∈ jm_tb := List.mem_filter.mpr ⟨List.mem_of_getElem? (i := 628) (by decide +kernel), by decide +kernel⟩
theorem tw_629 : Cond.selects yX7_comesTo.cls yX7_comesTo yX7_comesTo ∈ jm_tb := List.mem_filter.mpr ⟨List.mem_of_getElem? (i := 629) (by decide +kernel), by decide +kernel⟩
theorem tw_630 : Cond.code yX7_comesTo cX7_comesTo 7 (some .int) ∈ jm_tb := List.mem_filter.mpr ⟨List.mem_of_getElem? (i := 630) (by decide +kernel), by decide +kernel⟩
theorem qX7_102 : jm_CV "WeighedInBooks$Town" 102 yX7_comesTo cX7_comesTo 7 (some .int) 3 := ⟨tw_627, tw_628, tw_629, tw_83, tw_630, by decide, by decide, by decide +kernel⟩
theorem tw_614 : Cond.methodLink "WeighedInBooks" 188 yX8_areTwo ∈ jm_tb := List.mem_filter.mpr ⟨List.mem_of_getElem? (i := 614) (by decide +kernel), by decide +kernel⟩
theorem tw_616 : Cond.instanceMethod yX8_areTwo ∈ jm_tb := List.mem_filter.mpr ⟨List.mem_of_getElem? (i := 616) (by decide +kernel), by decide +kernel⟩
theorem tw_1 : Cond.selects yX8_areTwo.cls yX8_areTwo yX8_areTwo ∈ jm_tb := List.mem_filter.mpr ⟨List.mem_of_getElem? (i := 1) (by decide +kernel), by decide +kernel⟩
theorem tw_617 : Cond.code yX8_areTwo cX8_areTwo 3 (some .boolean) ∈ jm_tb := List.mem_filter.mpr ⟨List.mem_of_getElem? (i := 617) (by decide +kernel), by decide +kernel⟩
theorem qX8_188 : jm_CV "WeighedInBooks" 188 yX8_areTwo cX8_areTwo 3 (some .boolean) 2 := ⟨tw_614, tw_616, tw_1, tw_82, tw_617, by decide, by decide, by decide +kernel⟩
theorem tw_618 : Cond.constant "WeighedInBooks" 192 (1000000000) ∈ jm_tb := List.mem_filter.mpr ⟨List.mem_of_getElem? (i := 618) (by decide +kernel), by decide +kernel⟩
theorem tw_619 : Cond.methodLink "WeighedInBooks" 193 yX7_overOf ∈ jm_tb := List.mem_filter.mpr ⟨List.mem_of_getElem? (i := 619) (by decide +kernel), by decide +kernel⟩
theorem tw_620 : Cond.instanceMethod yX7_overOf ∈ jm_tb := List.mem_filter.mpr ⟨List.mem_of_getElem? (i := 620) (by decide +kernel), by decide +kernel⟩
theorem tw_621 : Cond.selects yX7_overOf.cls yX7_overOf yX7_overOf ∈ jm_tb := List.mem_filter.mpr ⟨List.mem_of_getElem? (i := 621) (by decide +kernel), by decide +kernel⟩
theorem tw_622 : Cond.code yX7_overOf cX7_overOf 5 (some .int) ∈ jm_tb := List.mem_filter.mpr ⟨List.mem_of_getElem? (i := 622) (by decide +kernel), by decide +kernel⟩
theorem qX8_193 : jm_CV "WeighedInBooks" 193 yX7_overOf cX7_overOf 5 (some .int) 2 := ⟨tw_619, tw_620, tw_621, tw_83, tw_622, by decide, by decide, by decide +kernel⟩
theorem tw_640 : Cond.methodLink "WeighedInBooks" 196 yX7_comesTo ∈ jm_tb := List.mem_filter.mpr ⟨List.mem_of_getElem? (i := 640) (by decide +kernel), by decide +kernel⟩
theorem qX8_196 : jm_CV "WeighedInBooks" 196 yX7_comesTo cX7_comesTo 7 (some .int) 3 := ⟨tw_640, tw_628, tw_629, tw_83, tw_630, by decide, by decide, by decide +kernel⟩
theorem tw_120 : Cond.fieldLink "WeighedInBooks$Bargain" 35 "WeighedInBooks$Town" "books" "I" ∈ jm_tb := List.mem_filter.mpr ⟨List.mem_of_getElem? (i := 120) (by decide +kernel), by decide +kernel⟩
theorem fl_X0_35 : jm_Fl "WeighedInBooks$Bargain" 35 5 4 := ⟨_, _, _, rfl, by decide, inX7, tw_120⟩
theorem tw_266 : Cond.fieldLink "WeighedInBooks$Bargain" 9 "WeighedInBooks$Bargain" "price" "[I" ∈ jm_tb := List.mem_filter.mpr ⟨List.mem_of_getElem? (i := 266) (by decide +kernel), by decide +kernel⟩
theorem fl_X0_9 : jm_Fl "WeighedInBooks$Bargain" 9 0 0 := ⟨_, _, _, rfl, by decide, inX0, tw_266⟩
theorem tw_658 : Cond.methodLink "WeighedInBooks$Bargain" 46 yX7_priceOf ∈ jm_tb := List.mem_filter.mpr ⟨List.mem_of_getElem? (i := 658) (by decide +kernel), by decide +kernel⟩
theorem qX0_46 : jm_CV "WeighedInBooks$Bargain" 46 yX7_priceOf cX7_priceOf 6 (some .int) 1 := ⟨tw_658, tw_554, tw_555, tw_83, tw_556, by decide, by decide, by decide +kernel⟩
theorem tw_267 : Cond.fieldLink "WeighedInBooks$Bargain" 15 "WeighedInBooks$Bargain" "heavy" "[I" ∈ jm_tb := List.mem_filter.mpr ⟨List.mem_of_getElem? (i := 267) (by decide +kernel), by decide +kernel⟩
theorem fl_X0_15 : jm_Fl "WeighedInBooks$Bargain" 15 0 1 := ⟨_, _, _, rfl, by decide, inX0, tw_267⟩
theorem tw_659 : Cond.methodLink "WeighedInBooks$Bargain" 50 yX7_comesTo ∈ jm_tb := List.mem_filter.mpr ⟨List.mem_of_getElem? (i := 659) (by decide +kernel), by decide +kernel⟩
theorem qX0_50 : jm_CV "WeighedInBooks$Bargain" 50 yX7_comesTo cX7_comesTo 7 (some .int) 3 := ⟨tw_659, tw_628, tw_629, tw_83, tw_630, by decide, by decide, by decide +kernel⟩
theorem tw_132 : Cond.fieldLink "WeighedInBooks$Bargain" 54 "WeighedInBooks$Town" "owner" "[I" ∈ jm_tb := List.mem_filter.mpr ⟨List.mem_of_getElem? (i := 132) (by decide +kernel), by decide +kernel⟩
theorem fl_X0_54 : jm_Fl "WeighedInBooks$Bargain" 54 5 7 := ⟨_, _, _, rfl, by decide, inX7, tw_132⟩
theorem tw_660 : Cond.methodLink "WeighedInBooks$Bargain" 57 yX7_isOnPan ∈ jm_tb := List.mem_filter.mpr ⟨List.mem_of_getElem? (i := 660) (by decide +kernel), by decide +kernel⟩
theorem qX0_57 : jm_CV "WeighedInBooks$Bargain" 57 yX7_isOnPan cX7_isOnPan 4 (some .boolean) 3 := ⟨tw_660, tw_624, tw_625, tw_83, tw_626, by decide, by decide, by decide +kernel⟩
theorem tw_268 : Cond.fieldLink "WeighedInBooks$Bargain" 28 "WeighedInBooks$Bargain" "set" "I" ∈ jm_tb := List.mem_filter.mpr ⟨List.mem_of_getElem? (i := 268) (by decide +kernel), by decide +kernel⟩
theorem fl_X0_28 : jm_Fl "WeighedInBooks$Bargain" 28 0 2 := ⟨_, _, _, rfl, by decide, inX0, tw_268⟩
theorem fp_X0_28 : jm_Fp "WeighedInBooks$Bargain" 28 0 2 .int := ⟨_, _, _, tyX0, rfl, by decide, inX0, tw_268, tyX0_ok, nmX0, rfl, by decide +kernel⟩
theorem tw_270 : Cond.fieldLink "WeighedInBooks$Bargain" 32 "WeighedInBooks$Bargain" "prices" "I" ∈ jm_tb := List.mem_filter.mpr ⟨List.mem_of_getElem? (i := 270) (by decide +kernel), by decide +kernel⟩
theorem fp_X0_32 : jm_Fp "WeighedInBooks$Bargain" 32 0 3 .int := ⟨_, _, _, tyX0, rfl, by decide, inX0, tw_270, tyX0_ok, nmX0, rfl, by decide +kernel⟩
theorem fl_X0_32 : jm_Fl "WeighedInBooks$Bargain" 32 0 3 := ⟨_, _, _, rfl, by decide, inX0, tw_270⟩
theorem tw_669 : Cond.methodLink "WeighedInBooks$Bargain" 61 yJ6_bitCount_0f7a4 ∈ jm_tb := List.mem_filter.mpr ⟨List.mem_of_getElem? (i := 669) (by decide +kernel), by decide +kernel⟩
theorem qX0_61 : jm_CS "WeighedInBooks$Bargain" 61 yJ6_bitCount_0f7a4 cJ6_bitCount_0f7a4 1 (some .int) 1 := ⟨tw_669, tw_529, tw_93, tw_530, by decide, by decide, by decide +kernel⟩
theorem tw_653 : Cond.methodLink "WeighedInBooks$Bargain" 18 yX7_overOf ∈ jm_tb := List.mem_filter.mpr ⟨List.mem_of_getElem? (i := 653) (by decide +kernel), by decide +kernel⟩
theorem qX0_18 : jm_CV "WeighedInBooks$Bargain" 18 yX7_overOf cX7_overOf 5 (some .int) 2 := ⟨tw_653, tw_620, tw_621, tw_83, tw_622, by decide, by decide, by decide +kernel⟩
theorem tw_654 : Cond.methodLink "WeighedInBooks$Bargain" 24 yX0_offer ∈ jm_tb := List.mem_filter.mpr ⟨List.mem_of_getElem? (i := 654) (by decide +kernel), by decide +kernel⟩
theorem tw_655 : Cond.instanceMethod yX0_offer ∈ jm_tb := List.mem_filter.mpr ⟨List.mem_of_getElem? (i := 655) (by decide +kernel), by decide +kernel⟩
theorem tw_656 : Cond.selects yX0_offer.cls yX0_offer yX0_offer ∈ jm_tb := List.mem_filter.mpr ⟨List.mem_of_getElem? (i := 656) (by decide +kernel), by decide +kernel⟩
theorem tw_87 : Cond.initialized yX0_offer.cls ∈ jm_tb := List.mem_filter.mpr ⟨List.mem_of_getElem? (i := 87) (by decide +kernel), by decide +kernel⟩
theorem tw_657 : Cond.code yX0_offer cX0_offer 6 (some .int) ∈ jm_tb := List.mem_filter.mpr ⟨List.mem_of_getElem? (i := 657) (by decide +kernel), by decide +kernel⟩
theorem qX0_24 : jm_CV "WeighedInBooks$Bargain" 24 yX0_offer cX0_offer 6 (some .int) 3 := ⟨tw_654, tw_655, tw_656, tw_87, tw_657, by decide, by decide, by decide +kernel⟩
theorem tw_661 : Cond.methodLink "WeighedInBooks$Bargain" 38 yX0_sumOf ∈ jm_tb := List.mem_filter.mpr ⟨List.mem_of_getElem? (i := 661) (by decide +kernel), by decide +kernel⟩
theorem tw_662 : Cond.instanceMethod yX0_sumOf ∈ jm_tb := List.mem_filter.mpr ⟨List.mem_of_getElem? (i := 662) (by decide +kernel), by decide +kernel⟩
theorem tw_663 : Cond.selects yX0_sumOf.cls yX0_sumOf yX0_sumOf ∈ jm_tb := List.mem_filter.mpr ⟨List.mem_of_getElem? (i := 663) (by decide +kernel), by decide +kernel⟩
theorem tw_664 : Cond.code yX0_sumOf cX0_sumOf 6 (some .int) ∈ jm_tb := List.mem_filter.mpr ⟨List.mem_of_getElem? (i := 664) (by decide +kernel), by decide +kernel⟩
theorem qX0_38 : jm_CV "WeighedInBooks$Bargain" 38 yX0_sumOf cX0_sumOf 6 (some .int) 3 := ⟨tw_661, tw_662, tw_663, tw_87, tw_664, by decide, by decide, by decide +kernel⟩
theorem tw_665 : Cond.methodLink "WeighedInBooks$Bargain" 42 yX0_takeIfBetter ∈ jm_tb := List.mem_filter.mpr ⟨List.mem_of_getElem? (i := 665) (by decide +kernel), by decide +kernel⟩
theorem tw_666 : Cond.instanceMethod yX0_takeIfBetter ∈ jm_tb := List.mem_filter.mpr ⟨List.mem_of_getElem? (i := 666) (by decide +kernel), by decide +kernel⟩
theorem tw_667 : Cond.selects yX0_takeIfBetter.cls yX0_takeIfBetter yX0_takeIfBetter ∈ jm_tb := List.mem_filter.mpr ⟨List.mem_of_getElem? (i := 667) (by decide +kernel), by decide +kernel⟩
theorem tw_668 : Cond.code yX0_takeIfBetter cX0_takeIfBetter 3 none ∈ jm_tb := List.mem_filter.mpr ⟨List.mem_of_getElem? (i := 668) (by decide +kernel), by decide +kernel⟩
theorem qX0_42 : jm_CV "WeighedInBooks$Bargain" 42 yX0_takeIfBetter cX0_takeIfBetter 3 none 2 := ⟨tw_665, tw_666, tw_667, tw_87, tw_668, by decide, by decide, by decide +kernel⟩
theorem tw_645 : Cond.methodLink "WeighedInBooks" 199 yX8_isNeither ∈ jm_tb := List.mem_filter.mpr ⟨List.mem_of_getElem? (i := 645) (by decide +kernel), by decide +kernel⟩
theorem tw_647 : Cond.instanceMethod yX8_isNeither ∈ jm_tb := List.mem_filter.mpr ⟨List.mem_of_getElem? (i := 647) (by decide +kernel), by decide +kernel⟩
theorem tw_2 : Cond.selects yX8_isNeither.cls yX8_isNeither yX8_isNeither ∈ jm_tb := List.mem_filter.mpr ⟨List.mem_of_getElem? (i := 2) (by decide +kernel), by decide +kernel⟩
theorem tw_648 : Cond.code yX8_isNeither cX8_isNeither 2 (some .boolean) ∈ jm_tb := List.mem_filter.mpr ⟨List.mem_of_getElem? (i := 648) (by decide +kernel), by decide +kernel⟩
theorem qX8_199 : jm_CV "WeighedInBooks" 199 yX8_isNeither cX8_isNeither 2 (some .boolean) 1 := ⟨tw_645, tw_647, tw_2, tw_82, tw_648, by decide, by decide, by decide +kernel⟩
theorem tw_308 : Cond.fieldLink "WeighedInBooks" 43 "WeighedInBooks" "bargain" "LWeighedInBooks$Bargain;" ∈ jm_tb := List.mem_filter.mpr ⟨List.mem_of_getElem? (i := 308) (by decide +kernel), by decide +kernel⟩
theorem fl_X8_43 : jm_Fl "WeighedInBooks" 43 6 6 := ⟨_, _, _, rfl, by decide, inX8, tw_308⟩
theorem tw_649 : Cond.methodLink "WeighedInBooks" 202 yX0_seek ∈ jm_tb := List.mem_filter.mpr ⟨List.mem_of_getElem? (i := 649) (by decide +kernel), by decide +kernel⟩
theorem tw_650 : Cond.instanceMethod yX0_seek ∈ jm_tb := List.mem_filter.mpr ⟨List.mem_of_getElem? (i := 650) (by decide +kernel), by decide +kernel⟩
theorem tw_651 : Cond.selects yX0_seek.cls yX0_seek yX0_seek ∈ jm_tb := List.mem_filter.mpr ⟨List.mem_of_getElem? (i := 651) (by decide +kernel), by decide +kernel⟩
theorem tw_652 : Cond.code yX0_seek cX0_seek 7 none ∈ jm_tb := List.mem_filter.mpr ⟨List.mem_of_getElem? (i := 652) (by decide +kernel), by decide +kernel⟩
theorem qX8_202 : jm_CV "WeighedInBooks" 202 yX0_seek cX0_seek 7 none 3 := ⟨tw_649, tw_650, tw_651, tw_87, tw_652, by decide, by decide, by decide +kernel⟩
theorem tw_269 : Cond.fieldLink "WeighedInBooks" 206 "WeighedInBooks$Bargain" "set" "I" ∈ jm_tb := List.mem_filter.mpr ⟨List.mem_of_getElem? (i := 269) (by decide +kernel), by decide +kernel⟩
theorem fl_X8_206 : jm_Fl "WeighedInBooks" 206 0 2 := ⟨_, _, _, rfl, by decide, inX0, tw_269⟩
theorem tw_271 : Cond.fieldLink "WeighedInBooks" 209 "WeighedInBooks$Bargain" "prices" "I" ∈ jm_tb := List.mem_filter.mpr ⟨List.mem_of_getElem? (i := 271) (by decide +kernel), by decide +kernel⟩
theorem fl_X8_209 : jm_Fl "WeighedInBooks" 209 0 3 := ⟨_, _, _, rfl, by decide, inX0, tw_271⟩
theorem tw_686 : Cond.methodLink "WeighedInBooks$Town" 105 yX7_overOf ∈ jm_tb := List.mem_filter.mpr ⟨List.mem_of_getElem? (i := 686) (by decide +kernel), by decide +kernel⟩
theorem qX7_105 : jm_CV "WeighedInBooks$Town" 105 yX7_overOf cX7_overOf 5 (some .int) 2 := ⟨tw_686, tw_620, tw_621, tw_83, tw_622, by decide, by decide, by decide +kernel⟩
theorem tw_110 : Cond.fieldLink "WeighedInBooks$Couples" 25 "WeighedInBooks$Town" "people" "I" ∈ jm_tb := List.mem_filter.mpr ⟨List.mem_of_getElem? (i := 110) (by decide +kernel), by decide +kernel⟩
theorem fl_X1_25 : jm_Fl "WeighedInBooks$Couples" 25 5 0 := ⟨_, _, _, rfl, by decide, inX7, tw_110⟩
theorem tw_287 : Cond.fieldLink "WeighedInBooks$Couples" 9 "WeighedInBooks$Couples" "down" "[I" ∈ jm_tb := List.mem_filter.mpr ⟨List.mem_of_getElem? (i := 287) (by decide +kernel), by decide +kernel⟩
theorem fl_X1_9 : jm_Fl "WeighedInBooks$Couples" 9 1 0 := ⟨_, _, _, rfl, by decide, inX1, tw_287⟩
theorem tw_682 : Cond.methodLink "WeighedInBooks$Couples" 42 yX7_comesDown ∈ jm_tb := List.mem_filter.mpr ⟨List.mem_of_getElem? (i := 682) (by decide +kernel), by decide +kernel⟩
theorem tw_683 : Cond.instanceMethod yX7_comesDown ∈ jm_tb := List.mem_filter.mpr ⟨List.mem_of_getElem? (i := 683) (by decide +kernel), by decide +kernel⟩
theorem tw_684 : Cond.selects yX7_comesDown.cls yX7_comesDown yX7_comesDown ∈ jm_tb := List.mem_filter.mpr ⟨List.mem_of_getElem? (i := 684) (by decide +kernel), by decide +kernel⟩
theorem tw_685 : Cond.code yX7_comesDown cX7_comesDown 3 (some .boolean) ∈ jm_tb := List.mem_filter.mpr ⟨List.mem_of_getElem? (i := 685) (by decide +kernel), by decide +kernel⟩
theorem qX1_42 : jm_CV "WeighedInBooks$Couples" 42 yX7_comesDown cX7_comesDown 3 (some .boolean) 2 := ⟨tw_682, tw_683, tw_684, tw_83, tw_685, by decide, by decide, by decide +kernel⟩
theorem tw_691 : Cond.methodLink "WeighedInBooks$Couples" 46 yX1_firstOf ∈ jm_tb := List.mem_filter.mpr ⟨List.mem_of_getElem? (i := 691) (by decide +kernel), by decide +kernel⟩
theorem tw_692 : Cond.instanceMethod yX1_firstOf ∈ jm_tb := List.mem_filter.mpr ⟨List.mem_of_getElem? (i := 692) (by decide +kernel), by decide +kernel⟩
theorem tw_693 : Cond.selects yX1_firstOf.cls yX1_firstOf yX1_firstOf ∈ jm_tb := List.mem_filter.mpr ⟨List.mem_of_getElem? (i := 693) (by decide +kernel), by decide +kernel⟩
theorem tw_88 : Cond.initialized yX1_firstOf.cls ∈ jm_tb := List.mem_filter.mpr ⟨List.mem_of_getElem? (i := 88) (by decide +kernel), by decide +kernel⟩
theorem tw_694 : Cond.code yX1_firstOf cX1_firstOf 4 (some .int) ∈ jm_tb := List.mem_filter.mpr ⟨List.mem_of_getElem? (i := 694) (by decide +kernel), by decide +kernel⟩
theorem qX1_46 : jm_CV "WeighedInBooks$Couples" 46 yX1_firstOf cX1_firstOf 4 (some .int) 2 := ⟨tw_691, tw_692, tw_693, tw_88, tw_694, by decide, by decide, by decide +kernel⟩
theorem tw_288 : Cond.fieldLink "WeighedInBooks$Couples" 15 "WeighedInBooks$Couples" "most" "[I" ∈ jm_tb := List.mem_filter.mpr ⟨List.mem_of_getElem? (i := 288) (by decide +kernel), by decide +kernel⟩
theorem fl_X1_15 : jm_Fl "WeighedInBooks$Couples" 15 1 1 := ⟨_, _, _, rfl, by decide, inX1, tw_288⟩
theorem tw_695 : Cond.methodLink "WeighedInBooks$Couples" 49 Lib.Math.max.name ∈ jm_tb := List.mem_filter.mpr ⟨List.mem_of_getElem? (i := 695) (by decide +kernel), by decide +kernel⟩
theorem tw_289 : Cond.fieldLink "WeighedInBooks$Couples" 18 "WeighedInBooks$Couples" "partner" "[I" ∈ jm_tb := List.mem_filter.mpr ⟨List.mem_of_getElem? (i := 289) (by decide +kernel), by decide +kernel⟩
theorem fl_X1_18 : jm_Fl "WeighedInBooks$Couples" 18 1 2 := ⟨_, _, _, rfl, by decide, inX1, tw_289⟩
theorem tw_700 : Cond.methodLink "WeighedInBooks$Couples" 54 yX1_firstPartner ∈ jm_tb := List.mem_filter.mpr ⟨List.mem_of_getElem? (i := 700) (by decide +kernel), by decide +kernel⟩
theorem tw_701 : Cond.instanceMethod yX1_firstPartner ∈ jm_tb := List.mem_filter.mpr ⟨List.mem_of_getElem? (i := 701) (by decide +kernel), by decide +kernel⟩
theorem tw_702 : Cond.selects yX1_firstPartner.cls yX1_firstPartner yX1_firstPartner ∈ jm_tb := List.mem_filter.mpr ⟨List.mem_of_getElem? (i := 702) (by decide +kernel), by decide +kernel⟩
theorem tw_703 : Cond.code yX1_firstPartner cX1_firstPartner 6 (some .int) ∈ jm_tb := List.mem_filter.mpr ⟨List.mem_of_getElem? (i := 703) (by decide +kernel), by decide +kernel⟩
theorem qX1_54 : jm_CV "WeighedInBooks$Couples" 54 yX1_firstPartner cX1_firstPartner 6 (some .int) 3 := ⟨tw_700, tw_701, tw_702, tw_88, tw_703, by decide, by decide, by decide +kernel⟩
theorem tw_678 : Cond.methodLink "WeighedInBooks$Couples" 21 yX1_weighAll ∈ jm_tb := List.mem_filter.mpr ⟨List.mem_of_getElem? (i := 678) (by decide +kernel), by decide +kernel⟩
theorem tw_679 : Cond.instanceMethod yX1_weighAll ∈ jm_tb := List.mem_filter.mpr ⟨List.mem_of_getElem? (i := 679) (by decide +kernel), by decide +kernel⟩
theorem tw_680 : Cond.selects yX1_weighAll.cls yX1_weighAll yX1_weighAll ∈ jm_tb := List.mem_filter.mpr ⟨List.mem_of_getElem? (i := 680) (by decide +kernel), by decide +kernel⟩
theorem tw_681 : Cond.code yX1_weighAll cX1_weighAll 4 none ∈ jm_tb := List.mem_filter.mpr ⟨List.mem_of_getElem? (i := 681) (by decide +kernel), by decide +kernel⟩
theorem qX1_21 : jm_CV "WeighedInBooks$Couples" 21 yX1_weighAll cX1_weighAll 4 none 1 := ⟨tw_678, tw_679, tw_680, tw_88, tw_681, by decide, by decide, by decide +kernel⟩
theorem tw_687 : Cond.methodLink "WeighedInBooks$Couples" 31 yX1_mostAmong ∈ jm_tb := List.mem_filter.mpr ⟨List.mem_of_getElem? (i := 687) (by decide +kernel), by decide +kernel⟩
theorem tw_688 : Cond.instanceMethod yX1_mostAmong ∈ jm_tb := List.mem_filter.mpr ⟨List.mem_of_getElem? (i := 688) (by decide +kernel), by decide +kernel⟩
theorem tw_689 : Cond.selects yX1_mostAmong.cls yX1_mostAmong yX1_mostAmong ∈ jm_tb := List.mem_filter.mpr ⟨List.mem_of_getElem? (i := 689) (by decide +kernel), by decide +kernel⟩
theorem tw_690 : Cond.code yX1_mostAmong cX1_mostAmong 7 (some .int) ∈ jm_tb := List.mem_filter.mpr ⟨List.mem_of_getElem? (i := 690) (by decide +kernel), by decide +kernel⟩
theorem qX1_31 : jm_CV "WeighedInBooks$Couples" 31 yX1_mostAmong cX1_mostAmong 7 (some .int) 2 := ⟨tw_687, tw_688, tw_689, tw_88, tw_690, by decide, by decide, by decide +kernel⟩
theorem tw_291 : Cond.fieldLink "WeighedInBooks$Couples" 35 "WeighedInBooks$Couples" "many" "I" ∈ jm_tb := List.mem_filter.mpr ⟨List.mem_of_getElem? (i := 291) (by decide +kernel), by decide +kernel⟩
theorem fp_X1_35 : jm_Fp "WeighedInBooks$Couples" 35 1 3 .int := ⟨_, _, _, tyX1, rfl, by decide, inX1, tw_291, tyX1_ok, nmX1, rfl, by decide +kernel⟩
theorem tw_696 : Cond.methodLink "WeighedInBooks$Couples" 38 yX1_pair ∈ jm_tb := List.mem_filter.mpr ⟨List.mem_of_getElem? (i := 696) (by decide +kernel), by decide +kernel⟩
theorem tw_697 : Cond.instanceMethod yX1_pair ∈ jm_tb := List.mem_filter.mpr ⟨List.mem_of_getElem? (i := 697) (by decide +kernel), by decide +kernel⟩
theorem tw_698 : Cond.selects yX1_pair.cls yX1_pair yX1_pair ∈ jm_tb := List.mem_filter.mpr ⟨List.mem_of_getElem? (i := 698) (by decide +kernel), by decide +kernel⟩
theorem tw_699 : Cond.code yX1_pair cX1_pair 6 none ∈ jm_tb := List.mem_filter.mpr ⟨List.mem_of_getElem? (i := 699) (by decide +kernel), by decide +kernel⟩
theorem qX1_38 : jm_CV "WeighedInBooks$Couples" 38 yX1_pair cX1_pair 6 none 2 := ⟨tw_696, tw_697, tw_698, tw_88, tw_699, by decide, by decide, by decide +kernel⟩
theorem tw_309 : Cond.fieldLink "WeighedInBooks" 50 "WeighedInBooks" "matched" "LWeighedInBooks$Couples;" ∈ jm_tb := List.mem_filter.mpr ⟨List.mem_of_getElem? (i := 309) (by decide +kernel), by decide +kernel⟩
theorem fl_X8_50 : jm_Fl "WeighedInBooks" 50 6 7 := ⟨_, _, _, rfl, by decide, inX8, tw_309⟩
theorem tw_674 : Cond.methodLink "WeighedInBooks" 212 yX1_choose ∈ jm_tb := List.mem_filter.mpr ⟨List.mem_of_getElem? (i := 674) (by decide +kernel), by decide +kernel⟩
theorem tw_675 : Cond.instanceMethod yX1_choose ∈ jm_tb := List.mem_filter.mpr ⟨List.mem_of_getElem? (i := 675) (by decide +kernel), by decide +kernel⟩
theorem tw_676 : Cond.selects yX1_choose.cls yX1_choose yX1_choose ∈ jm_tb := List.mem_filter.mpr ⟨List.mem_of_getElem? (i := 676) (by decide +kernel), by decide +kernel⟩
theorem tw_677 : Cond.code yX1_choose cX1_choose 4 none ∈ jm_tb := List.mem_filter.mpr ⟨List.mem_of_getElem? (i := 677) (by decide +kernel), by decide +kernel⟩
theorem qX8_212 : jm_CV "WeighedInBooks" 212 yX1_choose cX1_choose 4 none 1 := ⟨tw_674, tw_675, tw_676, tw_88, tw_677, by decide, by decide, by decide +kernel⟩
theorem tw_292 : Cond.fieldLink "WeighedInBooks" 215 "WeighedInBooks$Couples" "many" "I" ∈ jm_tb := List.mem_filter.mpr ⟨List.mem_of_getElem? (i := 292) (by decide +kernel), by decide +kernel⟩
theorem fl_X8_215 : jm_Fl "WeighedInBooks" 215 1 3 := ⟨_, _, _, rfl, by decide, inX1, tw_292⟩
theorem tw_290 : Cond.fieldLink "WeighedInBooks" 216 "WeighedInBooks$Couples" "partner" "[I" ∈ jm_tb := List.mem_filter.mpr ⟨List.mem_of_getElem? (i := 290) (by decide +kernel), by decide +kernel⟩
theorem fl_X8_216 : jm_Fl "WeighedInBooks" 216 1 2 := ⟨_, _, _, rfl, by decide, inX1, tw_290⟩
theorem tw_712 : Cond.methodLink "WeighedInBooks" 334 yX7_isOnPan ∈ jm_tb := List.mem_filter.mpr ⟨List.mem_of_getElem? (i := 712) (by decide +kernel), by decide +kernel⟩
theorem qX8_334 : jm_CV "WeighedInBooks" 334 yX7_isOnPan cX7_isOnPan 4 (some .boolean) 3 := ⟨tw_712, tw_624, tw_625, tw_83, tw_626, by decide, by decide, by decide +kernel⟩
theorem tw_310 : Cond.fieldLink "WeighedInBooks" 54 "WeighedInBooks" "ordered" "[I" ∈ jm_tb := List.mem_filter.mpr ⟨List.mem_of_getElem? (i := 310) (by decide +kernel), by decide +kernel⟩
theorem fl_X8_54 : jm_Fl "WeighedInBooks" 54 6 8 := ⟨_, _, _, rfl, by decide, inX8, tw_310⟩
theorem tw_713 : Cond.methodLink "WeighedInBooks" 338 yX8_isHeavier ∈ jm_tb := List.mem_filter.mpr ⟨List.mem_of_getElem? (i := 713) (by decide +kernel), by decide +kernel⟩
theorem tw_715 : Cond.instanceMethod yX8_isHeavier ∈ jm_tb := List.mem_filter.mpr ⟨List.mem_of_getElem? (i := 715) (by decide +kernel), by decide +kernel⟩
theorem tw_4 : Cond.selects yX8_isHeavier.cls yX8_isHeavier yX8_isHeavier ∈ jm_tb := List.mem_filter.mpr ⟨List.mem_of_getElem? (i := 4) (by decide +kernel), by decide +kernel⟩
theorem tw_716 : Cond.code yX8_isHeavier cX8_isHeavier 7 (some .boolean) ∈ jm_tb := List.mem_filter.mpr ⟨List.mem_of_getElem? (i := 716) (by decide +kernel), by decide +kernel⟩
theorem qX8_338 : jm_CV "WeighedInBooks" 338 yX8_isHeavier cX8_isHeavier 7 (some .boolean) 4 := ⟨tw_713, tw_715, tw_4, tw_82, tw_716, by decide, by decide, by decide +kernel⟩
theorem tw_708 : Cond.methodLink "WeighedInBooks" 219 yX8_orderPan ∈ jm_tb := List.mem_filter.mpr ⟨List.mem_of_getElem? (i := 708) (by decide +kernel), by decide +kernel⟩
theorem tw_710 : Cond.instanceMethod yX8_orderPan ∈ jm_tb := List.mem_filter.mpr ⟨List.mem_of_getElem? (i := 710) (by decide +kernel), by decide +kernel⟩
theorem tw_3 : Cond.selects yX8_orderPan.cls yX8_orderPan yX8_orderPan ∈ jm_tb := List.mem_filter.mpr ⟨List.mem_of_getElem? (i := 3) (by decide +kernel), by decide +kernel⟩
theorem tw_711 : Cond.code yX8_orderPan cX8_orderPan 6 (some .int) ∈ jm_tb := List.mem_filter.mpr ⟨List.mem_of_getElem? (i := 711) (by decide +kernel), by decide +kernel⟩
theorem qX8_219 : jm_CV "WeighedInBooks" 219 yX8_orderPan cX8_orderPan 6 (some .int) 2 := ⟨tw_708, tw_710, tw_3, tw_82, tw_711, by decide, by decide, by decide +kernel⟩
theorem tw_234 : Cond.fieldLink "WeighedInBooks$Foresight" 12 "WeighedInBooks$Foresight" "mind" "LWeighedInBooks$Town;" ∈ jm_tb := List.mem_filter.mpr ⟨List.mem_of_getElem? (i := 234) (by decide +kernel), by decide +kernel⟩
theorem fl_X2_12 : jm_Fl "WeighedInBooks$Foresight" 12 2 0 := ⟨_, _, _, rfl, by decide, inX2, tw_234⟩
theorem tw_729 : Cond.methodLink "WeighedInBooks$Foresight" 25 yX7_copyFrom ∈ jm_tb := List.mem_filter.mpr ⟨List.mem_of_getElem? (i := 729) (by decide +kernel), by decide +kernel⟩
theorem qX2_25 : jm_CV "WeighedInBooks$Foresight" 25 yX7_copyFrom cX7_copyFrom 2 none 1 := ⟨tw_729, tw_402, tw_403, tw_83, tw_404, by decide, by decide, by decide +kernel⟩
theorem tw_725 : Cond.methodLink "WeighedInBooks$Foresight" 29 yX2_think ∈ jm_tb := List.mem_filter.mpr ⟨List.mem_of_getElem? (i := 725) (by decide +kernel), by decide +kernel⟩
theorem tw_726 : Cond.instanceMethod yX2_think ∈ jm_tb := List.mem_filter.mpr ⟨List.mem_of_getElem? (i := 726) (by decide +kernel), by decide +kernel⟩
theorem tw_727 : Cond.selects yX2_think.cls yX2_think yX2_think ∈ jm_tb := List.mem_filter.mpr ⟨List.mem_of_getElem? (i := 727) (by decide +kernel), by decide +kernel⟩
theorem tw_86 : Cond.initialized yX2_think.cls ∈ jm_tb := List.mem_filter.mpr ⟨List.mem_of_getElem? (i := 86) (by decide +kernel), by decide +kernel⟩
theorem tw_728 : Cond.code yX2_think cX2_think 2 none ∈ jm_tb := List.mem_filter.mpr ⟨List.mem_of_getElem? (i := 728) (by decide +kernel), by decide +kernel⟩
theorem qX2_29 : jm_CV "WeighedInBooks$Foresight" 29 yX2_think cX2_think 2 none 1 := ⟨tw_725, tw_726, tw_727, tw_86, tw_728, by decide, by decide, by decide +kernel⟩
theorem tw_730 : Cond.methodLink "WeighedInBooks$Foresight" 32 yX7_weeksPass ∈ jm_tb := List.mem_filter.mpr ⟨List.mem_of_getElem? (i := 730) (by decide +kernel), by decide +kernel⟩
theorem qX2_32 : jm_CV "WeighedInBooks$Foresight" 32 yX7_weeksPass cX7_weeksPass 3 none 1 := ⟨tw_730, tw_477, tw_478, tw_83, tw_479, by decide, by decide, by decide +kernel⟩
theorem tw_307 : Cond.fieldLink "WeighedInBooks" 36 "WeighedInBooks" "foresight" "LWeighedInBooks$Foresight;" ∈ jm_tb := List.mem_filter.mpr ⟨List.mem_of_getElem? (i := 307) (by decide +kernel), by decide +kernel⟩
theorem fl_X8_36 : jm_Fl "WeighedInBooks" 36 6 5 := ⟨_, _, _, rfl, by decide, inX8, tw_307⟩
theorem tw_721 : Cond.methodLink "WeighedInBooks" 222 yX2_after ∈ jm_tb := List.mem_filter.mpr ⟨List.mem_of_getElem? (i := 721) (by decide +kernel), by decide +kernel⟩
theorem tw_722 : Cond.instanceMethod yX2_after ∈ jm_tb := List.mem_filter.mpr ⟨List.mem_of_getElem? (i := 722) (by decide +kernel), by decide +kernel⟩
theorem tw_723 : Cond.selects yX2_after.cls yX2_after yX2_after ∈ jm_tb := List.mem_filter.mpr ⟨List.mem_of_getElem? (i := 723) (by decide +kernel), by decide +kernel⟩
theorem tw_724 : Cond.code yX2_after cX2_after 3 (some (.object "WeighedInBooks$Town")) ∈ jm_tb := List.mem_filter.mpr ⟨List.mem_of_getElem? (i := 724) (by decide +kernel), by decide +kernel⟩
theorem qX8_222 : jm_CV "WeighedInBooks" 222 yX2_after cX2_after 3 (some (.object "WeighedInBooks$Town")) 2 := ⟨tw_721, tw_722, tw_723, tw_86, tw_724, by decide, by decide, by decide +kernel⟩
theorem tw_735 : Cond.methodLink "WeighedInBooks" 226 yJ6_bitCount_0f7a4 ∈ jm_tb := List.mem_filter.mpr ⟨List.mem_of_getElem? (i := 735) (by decide +kernel), by decide +kernel⟩
theorem qX8_226 : jm_CS "WeighedInBooks" 226 yJ6_bitCount_0f7a4 cJ6_bitCount_0f7a4 1 (some .int) 1 := ⟨tw_735, tw_529, tw_93, tw_530, by decide, by decide, by decide +kernel⟩
theorem tw_748 : Cond.methodLink "WeighedInBooks$Foresight" 40 yX7_comesDown ∈ jm_tb := List.mem_filter.mpr ⟨List.mem_of_getElem? (i := 748) (by decide +kernel), by decide +kernel⟩
theorem qX2_40 : jm_CV "WeighedInBooks$Foresight" 40 yX7_comesDown cX7_comesDown 3 (some .boolean) 2 := ⟨tw_748, tw_683, tw_684, tw_83, tw_685, by decide, by decide, by decide +kernel⟩
theorem tw_749 : Cond.methodLink "WeighedInBooks$Foresight" 44 yX7_weekPasses ∈ jm_tb := List.mem_filter.mpr ⟨List.mem_of_getElem? (i := 749) (by decide +kernel), by decide +kernel⟩
theorem qX2_44 : jm_CV "WeighedInBooks$Foresight" 44 yX7_weekPasses cX7_weekPasses 4 none 1 := ⟨tw_749, tw_481, tw_482, tw_83, tw_483, by decide, by decide, by decide +kernel⟩
theorem tw_744 : Cond.methodLink "WeighedInBooks$Foresight" 36 yX2_weeksTillDown ∈ jm_tb := List.mem_filter.mpr ⟨List.mem_of_getElem? (i := 744) (by decide +kernel), by decide +kernel⟩
theorem tw_745 : Cond.instanceMethod yX2_weeksTillDown ∈ jm_tb := List.mem_filter.mpr ⟨List.mem_of_getElem? (i := 745) (by decide +kernel), by decide +kernel⟩
theorem tw_746 : Cond.selects yX2_weeksTillDown.cls yX2_weeksTillDown yX2_weeksTillDown ∈ jm_tb := List.mem_filter.mpr ⟨List.mem_of_getElem? (i := 746) (by decide +kernel), by decide +kernel⟩
theorem tw_747 : Cond.code yX2_weeksTillDown cX2_weeksTillDown 5 (some .int) ∈ jm_tb := List.mem_filter.mpr ⟨List.mem_of_getElem? (i := 747) (by decide +kernel), by decide +kernel⟩
theorem qX2_36 : jm_CV "WeighedInBooks$Foresight" 36 yX2_weeksTillDown cX2_weeksTillDown 5 (some .int) 3 := ⟨tw_744, tw_745, tw_746, tw_86, tw_747, by decide, by decide, by decide +kernel⟩
theorem tw_740 : Cond.methodLink "WeighedInBooks" 231 yX2_whenDown ∈ jm_tb := List.mem_filter.mpr ⟨List.mem_of_getElem? (i := 740) (by decide +kernel), by decide +kernel⟩
theorem tw_741 : Cond.instanceMethod yX2_whenDown ∈ jm_tb := List.mem_filter.mpr ⟨List.mem_of_getElem? (i := 741) (by decide +kernel), by decide +kernel⟩
theorem tw_742 : Cond.selects yX2_whenDown.cls yX2_whenDown yX2_whenDown ∈ jm_tb := List.mem_filter.mpr ⟨List.mem_of_getElem? (i := 742) (by decide +kernel), by decide +kernel⟩
theorem tw_743 : Cond.code yX2_whenDown cX2_whenDown 4 (some .int) ∈ jm_tb := List.mem_filter.mpr ⟨List.mem_of_getElem? (i := 743) (by decide +kernel), by decide +kernel⟩
theorem qX8_231 : jm_CV "WeighedInBooks" 231 yX2_whenDown cX2_whenDown 4 (some .int) 3 := ⟨tw_740, tw_741, tw_742, tw_86, tw_743, by decide, by decide, by decide +kernel⟩
theorem tw_112 : Cond.fieldLink "WeighedInBooks$Foresight" 52 "WeighedInBooks$Town" "people" "I" ∈ jm_tb := List.mem_filter.mpr ⟨List.mem_of_getElem? (i := 112) (by decide +kernel), by decide +kernel⟩
theorem fl_X2_52 : jm_Fl "WeighedInBooks$Foresight" 52 5 0 := ⟨_, _, _, rfl, by decide, inX7, tw_112⟩
theorem tw_758 : Cond.methodLink "WeighedInBooks$Foresight" 48 yX2_firstFreshlyDown ∈ jm_tb := List.mem_filter.mpr ⟨List.mem_of_getElem? (i := 758) (by decide +kernel), by decide +kernel⟩
theorem tw_759 : Cond.instanceMethod yX2_firstFreshlyDown ∈ jm_tb := List.mem_filter.mpr ⟨List.mem_of_getElem? (i := 759) (by decide +kernel), by decide +kernel⟩
theorem tw_760 : Cond.selects yX2_firstFreshlyDown.cls yX2_firstFreshlyDown yX2_firstFreshlyDown ∈ jm_tb := List.mem_filter.mpr ⟨List.mem_of_getElem? (i := 760) (by decide +kernel), by decide +kernel⟩
theorem tw_761 : Cond.code yX2_firstFreshlyDown cX2_firstFreshlyDown 4 (some .int) ∈ jm_tb := List.mem_filter.mpr ⟨List.mem_of_getElem? (i := 761) (by decide +kernel), by decide +kernel⟩
theorem qX2_48 : jm_CV "WeighedInBooks$Foresight" 48 yX2_firstFreshlyDown cX2_firstFreshlyDown 4 (some .int) 1 := ⟨tw_758, tw_759, tw_760, tw_86, tw_761, by decide, by decide, by decide +kernel⟩
theorem tw_754 : Cond.methodLink "WeighedInBooks" 235 yX2_firstDown ∈ jm_tb := List.mem_filter.mpr ⟨List.mem_of_getElem? (i := 754) (by decide +kernel), by decide +kernel⟩
theorem tw_755 : Cond.instanceMethod yX2_firstDown ∈ jm_tb := List.mem_filter.mpr ⟨List.mem_of_getElem? (i := 755) (by decide +kernel), by decide +kernel⟩
theorem tw_756 : Cond.selects yX2_firstDown.cls yX2_firstDown yX2_firstDown ∈ jm_tb := List.mem_filter.mpr ⟨List.mem_of_getElem? (i := 756) (by decide +kernel), by decide +kernel⟩
theorem tw_757 : Cond.code yX2_firstDown cX2_firstDown 4 (some .int) ∈ jm_tb := List.mem_filter.mpr ⟨List.mem_of_getElem? (i := 757) (by decide +kernel), by decide +kernel⟩
theorem qX8_235 : jm_CV "WeighedInBooks" 235 yX2_firstDown cX2_firstDown 4 (some .int) 1 := ⟨tw_754, tw_755, tw_756, tw_86, tw_757, by decide, by decide, by decide +kernel⟩
theorem tw_237 : Cond.fieldLink "WeighedInBooks$Foresight" 56 "WeighedInBooks$Foresight" "loan" "I" ∈ jm_tb := List.mem_filter.mpr ⟨List.mem_of_getElem? (i := 237) (by decide +kernel), by decide +kernel⟩
theorem fp_X2_56 : jm_Fp "WeighedInBooks$Foresight" 56 2 3 .int := ⟨_, _, _, tyX2, rfl, by decide, inX2, tw_237, tyX2_ok, nmX2, rfl, by decide +kernel⟩
theorem tw_239 : Cond.fieldLink "WeighedInBooks$Foresight" 59 "WeighedInBooks$Foresight" "loanWeeks" "I" ∈ jm_tb := List.mem_filter.mpr ⟨List.mem_of_getElem? (i := 239) (by decide +kernel), by decide +kernel⟩
theorem fp_X2_59 : jm_Fp "WeighedInBooks$Foresight" 59 2 4 .int := ⟨_, _, _, tyX2, rfl, by decide, inX2, tw_239, tyX2_ok, nmX2, rfl, by decide +kernel⟩
theorem tw_123 : Cond.fieldLink "WeighedInBooks$Foresight" 62 "WeighedInBooks$Town" "books" "I" ∈ jm_tb := List.mem_filter.mpr ⟨List.mem_of_getElem? (i := 123) (by decide +kernel), by decide +kernel⟩
theorem fl_X2_62 : jm_Fl "WeighedInBooks$Foresight" 62 5 4 := ⟨_, _, _, rfl, by decide, inX7, tw_123⟩
theorem tw_770 : Cond.methodLink "WeighedInBooks$Foresight" 65 yX7_isOnPan ∈ jm_tb := List.mem_filter.mpr ⟨List.mem_of_getElem? (i := 770) (by decide +kernel), by decide +kernel⟩
theorem qX2_65 : jm_CV "WeighedInBooks$Foresight" 65 yX7_isOnPan cX7_isOnPan 4 (some .boolean) 3 := ⟨tw_770, tw_624, tw_625, tw_83, tw_626, by decide, by decide, by decide +kernel⟩
theorem tw_136 : Cond.fieldLink "WeighedInBooks$Foresight" 69 "WeighedInBooks$Town" "holder" "[I" ∈ jm_tb := List.mem_filter.mpr ⟨List.mem_of_getElem? (i := 136) (by decide +kernel), by decide +kernel⟩
theorem fl_X2_69 : jm_Fl "WeighedInBooks$Foresight" 69 5 8 := ⟨_, _, _, rfl, by decide, inX7, tw_136⟩
theorem tw_766 : Cond.methodLink "WeighedInBooks" 238 yX2_seekLoan ∈ jm_tb := List.mem_filter.mpr ⟨List.mem_of_getElem? (i := 766) (by decide +kernel), by decide +kernel⟩
theorem tw_767 : Cond.instanceMethod yX2_seekLoan ∈ jm_tb := List.mem_filter.mpr ⟨List.mem_of_getElem? (i := 767) (by decide +kernel), by decide +kernel⟩
theorem tw_768 : Cond.selects yX2_seekLoan.cls yX2_seekLoan yX2_seekLoan ∈ jm_tb := List.mem_filter.mpr ⟨List.mem_of_getElem? (i := 768) (by decide +kernel), by decide +kernel⟩
theorem tw_769 : Cond.code yX2_seekLoan cX2_seekLoan 7 none ∈ jm_tb := List.mem_filter.mpr ⟨List.mem_of_getElem? (i := 769) (by decide +kernel), by decide +kernel⟩
theorem qX8_238 : jm_CV "WeighedInBooks" 238 yX2_seekLoan cX2_seekLoan 7 none 3 := ⟨tw_766, tw_767, tw_768, tw_86, tw_769, by decide, by decide, by decide +kernel⟩
theorem tw_238 : Cond.fieldLink "WeighedInBooks" 241 "WeighedInBooks$Foresight" "loan" "I" ∈ jm_tb := List.mem_filter.mpr ⟨List.mem_of_getElem? (i := 238) (by decide +kernel), by decide +kernel⟩
theorem fl_X8_241 : jm_Fl "WeighedInBooks" 241 2 3 := ⟨_, _, _, rfl, by decide, inX2, tw_238⟩
theorem tw_240 : Cond.fieldLink "WeighedInBooks" 244 "WeighedInBooks$Foresight" "loanWeeks" "I" ∈ jm_tb := List.mem_filter.mpr ⟨List.mem_of_getElem? (i := 240) (by decide +kernel), by decide +kernel⟩
theorem fl_X8_244 : jm_Fl "WeighedInBooks" 244 2 4 := ⟨_, _, _, rfl, by decide, inX2, tw_240⟩
theorem tw_779 : Cond.methodLink "WeighedInBooks$Foresight" 72 yX2_after ∈ jm_tb := List.mem_filter.mpr ⟨List.mem_of_getElem? (i := 779) (by decide +kernel), by decide +kernel⟩
theorem qX2_72 : jm_CV "WeighedInBooks$Foresight" 72 yX2_after cX2_after 3 (some (.object "WeighedInBooks$Town")) 2 := ⟨tw_779, tw_722, tw_723, tw_86, tw_724, by decide, by decide, by decide +kernel⟩
theorem tw_780 : Cond.methodLink "WeighedInBooks$Foresight" 76 yX7_overOf ∈ jm_tb := List.mem_filter.mpr ⟨List.mem_of_getElem? (i := 780) (by decide +kernel), by decide +kernel⟩
theorem qX2_76 : jm_CV "WeighedInBooks$Foresight" 76 yX7_overOf cX7_overOf 5 (some .int) 2 := ⟨tw_780, tw_620, tw_621, tw_83, tw_622, by decide, by decide, by decide +kernel⟩
theorem tw_140 : Cond.fieldLink "WeighedInBooks$Foresight" 80 "WeighedInBooks$Town" "readers" "[I" ∈ jm_tb := List.mem_filter.mpr ⟨List.mem_of_getElem? (i := 140) (by decide +kernel), by decide +kernel⟩
theorem fl_X2_80 : jm_Fl "WeighedInBooks$Foresight" 80 5 9 := ⟨_, _, _, rfl, by decide, inX7, tw_140⟩
theorem tw_775 : Cond.methodLink "WeighedInBooks" 247 yX2_bestTaught ∈ jm_tb := List.mem_filter.mpr ⟨List.mem_of_getElem? (i := 775) (by decide +kernel), by decide +kernel⟩
theorem tw_776 : Cond.instanceMethod yX2_bestTaught ∈ jm_tb := List.mem_filter.mpr ⟨List.mem_of_getElem? (i := 776) (by decide +kernel), by decide +kernel⟩
theorem tw_777 : Cond.selects yX2_bestTaught.cls yX2_bestTaught yX2_bestTaught ∈ jm_tb := List.mem_filter.mpr ⟨List.mem_of_getElem? (i := 777) (by decide +kernel), by decide +kernel⟩
theorem tw_778 : Cond.code yX2_bestTaught cX2_bestTaught 10 (some .int) ∈ jm_tb := List.mem_filter.mpr ⟨List.mem_of_getElem? (i := 778) (by decide +kernel), by decide +kernel⟩
theorem qX8_247 : jm_CV "WeighedInBooks" 247 yX2_bestTaught cX2_bestTaught 10 (some .int) 5 := ⟨tw_775, tw_776, tw_777, tw_86, tw_778, by decide, by decide, by decide +kernel⟩
theorem tw_130 : Cond.fieldLink "WeighedInBooks$Foresight" 86 "WeighedInBooks$Town" "figure" "[I" ∈ jm_tb := List.mem_filter.mpr ⟨List.mem_of_getElem? (i := 130) (by decide +kernel), by decide +kernel⟩
theorem fl_X2_86 : jm_Fl "WeighedInBooks$Foresight" 86 5 6 := ⟨_, _, _, rfl, by decide, inX7, tw_130⟩
theorem tw_127 : Cond.fieldLink "WeighedInBooks$Foresight" 83 "WeighedInBooks$Town" "kind" "[I" ∈ jm_tb := List.mem_filter.mpr ⟨List.mem_of_getElem? (i := 127) (by decide +kernel), by decide +kernel⟩
theorem fl_X2_83 : jm_Fl "WeighedInBooks$Foresight" 83 5 5 := ⟨_, _, _, rfl, by decide, inX7, tw_127⟩
theorem tw_785 : Cond.methodLink "WeighedInBooks" 251 yX2_think ∈ jm_tb := List.mem_filter.mpr ⟨List.mem_of_getElem? (i := 785) (by decide +kernel), by decide +kernel⟩
theorem qX8_251 : jm_CV "WeighedInBooks" 251 yX2_think cX2_think 2 none 1 := ⟨tw_785, tw_726, tw_727, tw_86, tw_728, by decide, by decide, by decide +kernel⟩
theorem tw_311 : Cond.fieldLink "WeighedInBooks" 58 "WeighedInBooks" "toldRow" "[I" ∈ jm_tb := List.mem_filter.mpr ⟨List.mem_of_getElem? (i := 311) (by decide +kernel), by decide +kernel⟩
theorem fl_X8_58 : jm_Fl "WeighedInBooks" 58 6 9 := ⟨_, _, _, rfl, by decide, inX8, tw_311⟩
theorem tw_312 : Cond.fieldLink "WeighedInBooks" 254 "WeighedInBooks" "inRow" "I" ∈ jm_tb := List.mem_filter.mpr ⟨List.mem_of_getElem? (i := 312) (by decide +kernel), by decide +kernel⟩
theorem fl_X8_254 : jm_Fl "WeighedInBooks" 254 6 10 := ⟨_, _, _, rfl, by decide, inX8, tw_312⟩
theorem tw_786 : Cond.methodLink "WeighedInBooks" 257 yX2_bitsBy ∈ jm_tb := List.mem_filter.mpr ⟨List.mem_of_getElem? (i := 786) (by decide +kernel), by decide +kernel⟩
theorem tw_787 : Cond.instanceMethod yX2_bitsBy ∈ jm_tb := List.mem_filter.mpr ⟨List.mem_of_getElem? (i := 787) (by decide +kernel), by decide +kernel⟩
theorem tw_788 : Cond.selects yX2_bitsBy.cls yX2_bitsBy yX2_bitsBy ∈ jm_tb := List.mem_filter.mpr ⟨List.mem_of_getElem? (i := 788) (by decide +kernel), by decide +kernel⟩
theorem tw_789 : Cond.code yX2_bitsBy cX2_bitsBy 12 (some .int) ∈ jm_tb := List.mem_filter.mpr ⟨List.mem_of_getElem? (i := 789) (by decide +kernel), by decide +kernel⟩
theorem qX8_257 : jm_CV "WeighedInBooks" 257 yX2_bitsBy cX2_bitsBy 12 (some .int) 6 := ⟨tw_786, tw_787, tw_788, tw_86, tw_789, by decide, by decide, by decide +kernel⟩
theorem tw_802 : Cond.methodLink "WeighedInBooks$Foresight" 93 yX7_givesBack ∈ jm_tb := List.mem_filter.mpr ⟨List.mem_of_getElem? (i := 802) (by decide +kernel), by decide +kernel⟩
theorem tw_803 : Cond.instanceMethod yX7_givesBack ∈ jm_tb := List.mem_filter.mpr ⟨List.mem_of_getElem? (i := 803) (by decide +kernel), by decide +kernel⟩
theorem tw_804 : Cond.selects yX7_givesBack.cls yX7_givesBack yX7_givesBack ∈ jm_tb := List.mem_filter.mpr ⟨List.mem_of_getElem? (i := 804) (by decide +kernel), by decide +kernel⟩
theorem tw_805 : Cond.code yX7_givesBack cX7_givesBack 3 none ∈ jm_tb := List.mem_filter.mpr ⟨List.mem_of_getElem? (i := 805) (by decide +kernel), by decide +kernel⟩
theorem qX2_93 : jm_CV "WeighedInBooks$Foresight" 93 yX7_givesBack cX7_givesBack 3 none 1 := ⟨tw_802, tw_803, tw_804, tw_83, tw_805, by decide, by decide, by decide +kernel⟩
theorem tw_235 : Cond.fieldLink "WeighedInBooks$Foresight" 18 "WeighedInBooks$Foresight" "onesGain" "[I" ∈ jm_tb := List.mem_filter.mpr ⟨List.mem_of_getElem? (i := 235) (by decide +kernel), by decide +kernel⟩
theorem fl_X2_18 : jm_Fl "WeighedInBooks$Foresight" 18 2 1 := ⟨_, _, _, rfl, by decide, inX2, tw_235⟩
theorem tw_806 : Cond.methodLink "WeighedInBooks$Foresight" 96 yX7_readingsOf ∈ jm_tb := List.mem_filter.mpr ⟨List.mem_of_getElem? (i := 806) (by decide +kernel), by decide +kernel⟩
theorem qX2_96 : jm_CV "WeighedInBooks$Foresight" 96 yX7_readingsOf cX7_readingsOf 2 (some .int) 1 := ⟨tw_806, tw_521, tw_522, tw_83, tw_523, by decide, by decide, by decide +kernel⟩
theorem tw_236 : Cond.fieldLink "WeighedInBooks$Foresight" 22 "WeighedInBooks$Foresight" "othersGain" "[I" ∈ jm_tb := List.mem_filter.mpr ⟨List.mem_of_getElem? (i := 236) (by decide +kernel), by decide +kernel⟩
theorem fl_X2_22 : jm_Fl "WeighedInBooks$Foresight" 22 2 2 := ⟨_, _, _, rfl, by decide, inX2, tw_236⟩
theorem tw_798 : Cond.methodLink "WeighedInBooks$Foresight" 89 yX2_weighChoice ∈ jm_tb := List.mem_filter.mpr ⟨List.mem_of_getElem? (i := 798) (by decide +kernel), by decide +kernel⟩
theorem tw_799 : Cond.instanceMethod yX2_weighChoice ∈ jm_tb := List.mem_filter.mpr ⟨List.mem_of_getElem? (i := 799) (by decide +kernel), by decide +kernel⟩
theorem tw_800 : Cond.selects yX2_weighChoice.cls yX2_weighChoice yX2_weighChoice ∈ jm_tb := List.mem_filter.mpr ⟨List.mem_of_getElem? (i := 800) (by decide +kernel), by decide +kernel⟩
theorem tw_801 : Cond.code yX2_weighChoice cX2_weighChoice 8 none ∈ jm_tb := List.mem_filter.mpr ⟨List.mem_of_getElem? (i := 801) (by decide +kernel), by decide +kernel⟩
theorem qX2_89 : jm_CV "WeighedInBooks$Foresight" 89 yX2_weighChoice cX2_weighChoice 8 none 5 := ⟨tw_798, tw_799, tw_800, tw_86, tw_801, by decide, by decide, by decide +kernel⟩
theorem tw_794 : Cond.methodLink "WeighedInBooks" 261 yX2_steadyPair ∈ jm_tb := List.mem_filter.mpr ⟨List.mem_of_getElem? (i := 794) (by decide +kernel), by decide +kernel⟩
theorem tw_795 : Cond.instanceMethod yX2_steadyPair ∈ jm_tb := List.mem_filter.mpr ⟨List.mem_of_getElem? (i := 795) (by decide +kernel), by decide +kernel⟩
theorem tw_796 : Cond.selects yX2_steadyPair.cls yX2_steadyPair yX2_steadyPair ∈ jm_tb := List.mem_filter.mpr ⟨List.mem_of_getElem? (i := 796) (by decide +kernel), by decide +kernel⟩
theorem tw_797 : Cond.code yX2_steadyPair cX2_steadyPair 6 (some .int) ∈ jm_tb := List.mem_filter.mpr ⟨List.mem_of_getElem? (i := 797) (by decide +kernel), by decide +kernel⟩
theorem qX8_261 : jm_CV "WeighedInBooks" 261 yX2_steadyPair cX2_steadyPair 6 (some .int) 4 := ⟨tw_794, tw_795, tw_796, tw_86, tw_797, by decide, by decide, by decide +kernel⟩
theorem tw_822 : Cond.methodLink "WeighedInBooks$Fractions" 7 yX3_sharedDivisor ∈ jm_tb := List.mem_filter.mpr ⟨List.mem_of_getElem? (i := 822) (by decide +kernel), by decide +kernel⟩
theorem tw_823 : Cond.static yX3_sharedDivisor ∈ jm_tb := List.mem_filter.mpr ⟨List.mem_of_getElem? (i := 823) (by decide +kernel), by decide +kernel⟩
theorem tw_94 : Cond.initialized yX3_sharedDivisor.cls ∈ jm_tb := List.mem_filter.mpr ⟨List.mem_of_getElem? (i := 94) (by decide +kernel), by decide +kernel⟩
theorem tw_824 : Cond.code yX3_sharedDivisor cX3_sharedDivisor 11 (some .long) ∈ jm_tb := List.mem_filter.mpr ⟨List.mem_of_getElem? (i := 824) (by decide +kernel), by decide +kernel⟩
theorem qX3_7 : jm_CS "WeighedInBooks$Fractions" 7 yX3_sharedDivisor cX3_sharedDivisor 11 (some .long) 2 := ⟨tw_822, tw_823, tw_94, tw_824, by decide, by decide, by decide +kernel⟩
theorem tw_811 : Cond.constantLong "WeighedInBooks" 265 (4000000000000000000) ∈ jm_tb := List.mem_filter.mpr ⟨List.mem_of_getElem? (i := 811) (by decide +kernel), by decide +kernel⟩
theorem tw_812 : Cond.methodLink "WeighedInBooks" 267 yX2_dampCases ∈ jm_tb := List.mem_filter.mpr ⟨List.mem_of_getElem? (i := 812) (by decide +kernel), by decide +kernel⟩
theorem tw_813 : Cond.instanceMethod yX2_dampCases ∈ jm_tb := List.mem_filter.mpr ⟨List.mem_of_getElem? (i := 813) (by decide +kernel), by decide +kernel⟩
theorem tw_814 : Cond.selects yX2_dampCases.cls yX2_dampCases yX2_dampCases ∈ jm_tb := List.mem_filter.mpr ⟨List.mem_of_getElem? (i := 814) (by decide +kernel), by decide +kernel⟩
theorem tw_815 : Cond.code yX2_dampCases cX2_dampCases 14 (some .long) ∈ jm_tb := List.mem_filter.mpr ⟨List.mem_of_getElem? (i := 815) (by decide +kernel), by decide +kernel⟩
theorem qX8_267 : jm_CV "WeighedInBooks" 267 yX2_dampCases cX2_dampCases 14 (some .long) 5 := ⟨tw_812, tw_813, tw_814, tw_86, tw_815, by decide, by decide, by decide +kernel⟩
theorem tw_816 : Cond.methodLink "WeighedInBooks" 271 yX3_power ∈ jm_tb := List.mem_filter.mpr ⟨List.mem_of_getElem? (i := 816) (by decide +kernel), by decide +kernel⟩
theorem tw_817 : Cond.static yX3_power ∈ jm_tb := List.mem_filter.mpr ⟨List.mem_of_getElem? (i := 817) (by decide +kernel), by decide +kernel⟩
theorem tw_818 : Cond.code yX3_power cX3_power 6 (some .long) ∈ jm_tb := List.mem_filter.mpr ⟨List.mem_of_getElem? (i := 818) (by decide +kernel), by decide +kernel⟩
theorem qX8_271 : jm_CS "WeighedInBooks" 271 yX3_power cX3_power 6 (some .long) 2 := ⟨tw_816, tw_817, tw_94, tw_818, by decide, by decide, by decide +kernel⟩
theorem tw_819 : Cond.methodLink "WeighedInBooks" 277 yX3_part ∈ jm_tb := List.mem_filter.mpr ⟨List.mem_of_getElem? (i := 819) (by decide +kernel), by decide +kernel⟩
theorem tw_820 : Cond.static yX3_part ∈ jm_tb := List.mem_filter.mpr ⟨List.mem_of_getElem? (i := 820) (by decide +kernel), by decide +kernel⟩
theorem tw_821 : Cond.code yX3_part cX3_part 7 (some .long) ∈ jm_tb := List.mem_filter.mpr ⟨List.mem_of_getElem? (i := 821) (by decide +kernel), by decide +kernel⟩
theorem qX8_277 : jm_CS "WeighedInBooks" 277 yX3_part cX3_part 7 (some .long) 3 := ⟨tw_819, tw_820, tw_94, tw_821, by decide, by decide, by decide +kernel⟩
theorem tw_838 : Cond.constant "WeighedInBooks$Foresight" 117 (2147483647) ∈ jm_tb := List.mem_filter.mpr ⟨List.mem_of_getElem? (i := 838) (by decide +kernel), by decide +kernel⟩
theorem tw_839 : Cond.constant "WeighedInBooks$Foresight" 118 (65536) ∈ jm_tb := List.mem_filter.mpr ⟨List.mem_of_getElem? (i := 839) (by decide +kernel), by decide +kernel⟩
theorem tw_848 : Cond.methodLink "WeighedInBooks$Town" 108 yX7_comesDown ∈ jm_tb := List.mem_filter.mpr ⟨List.mem_of_getElem? (i := 848) (by decide +kernel), by decide +kernel⟩
theorem qX7_108 : jm_CV "WeighedInBooks$Town" 108 yX7_comesDown cX7_comesDown 3 (some .boolean) 2 := ⟨tw_848, tw_683, tw_684, tw_83, tw_685, by decide, by decide, by decide +kernel⟩
theorem tw_241 : Cond.fieldLink "WeighedInBooks$Foresight" 100 "WeighedInBooks$Foresight" "springReadings" "I" ∈ jm_tb := List.mem_filter.mpr ⟨List.mem_of_getElem? (i := 241) (by decide +kernel), by decide +kernel⟩
theorem fp_X2_100 : jm_Fp "WeighedInBooks$Foresight" 100 2 5 .int := ⟨_, _, _, tyX2, rfl, by decide, inX2, tw_241, tyX2_ok, nmX2, rfl, by decide +kernel⟩
theorem tw_243 : Cond.fieldLink "WeighedInBooks$Foresight" 103 "WeighedInBooks$Foresight" "springTwos" "I" ∈ jm_tb := List.mem_filter.mpr ⟨List.mem_of_getElem? (i := 243) (by decide +kernel), by decide +kernel⟩
theorem fp_X2_103 : jm_Fp "WeighedInBooks$Foresight" 103 2 6 .int := ⟨_, _, _, tyX2, rfl, by decide, inX2, tw_243, tyX2_ok, nmX2, rfl, by decide +kernel⟩
theorem tw_833 : Cond.constant "WeighedInBooks$Foresight" 106 (1103515245) ∈ jm_tb := List.mem_filter.mpr ⟨List.mem_of_getElem? (i := 833) (by decide +kernel), by decide +kernel⟩
theorem tw_834 : Cond.methodLink "WeighedInBooks$Foresight" 107 yX2_keeperDrawn ∈ jm_tb := List.mem_filter.mpr ⟨List.mem_of_getElem? (i := 834) (by decide +kernel), by decide +kernel⟩
theorem tw_835 : Cond.instanceMethod yX2_keeperDrawn ∈ jm_tb := List.mem_filter.mpr ⟨List.mem_of_getElem? (i := 835) (by decide +kernel), by decide +kernel⟩
theorem tw_836 : Cond.selects yX2_keeperDrawn.cls yX2_keeperDrawn yX2_keeperDrawn ∈ jm_tb := List.mem_filter.mpr ⟨List.mem_of_getElem? (i := 836) (by decide +kernel), by decide +kernel⟩
theorem tw_837 : Cond.code yX2_keeperDrawn cX2_keeperDrawn 2 (some .int) ∈ jm_tb := List.mem_filter.mpr ⟨List.mem_of_getElem? (i := 837) (by decide +kernel), by decide +kernel⟩
theorem qX2_107 : jm_CV "WeighedInBooks$Foresight" 107 yX2_keeperDrawn cX2_keeperDrawn 2 (some .int) 1 := ⟨tw_834, tw_835, tw_836, tw_86, tw_837, by decide, by decide, by decide +kernel⟩
theorem fl_X2_100 : jm_Fl "WeighedInBooks$Foresight" 100 2 5 := ⟨_, _, _, rfl, by decide, inX2, tw_241⟩
theorem tw_840 : Cond.methodLink "WeighedInBooks$Foresight" 110 yX7_readings ∈ jm_tb := List.mem_filter.mpr ⟨List.mem_of_getElem? (i := 840) (by decide +kernel), by decide +kernel⟩
theorem tw_841 : Cond.instanceMethod yX7_readings ∈ jm_tb := List.mem_filter.mpr ⟨List.mem_of_getElem? (i := 841) (by decide +kernel), by decide +kernel⟩
theorem tw_842 : Cond.selects yX7_readings.cls yX7_readings yX7_readings ∈ jm_tb := List.mem_filter.mpr ⟨List.mem_of_getElem? (i := 842) (by decide +kernel), by decide +kernel⟩
theorem tw_843 : Cond.code yX7_readings cX7_readings 3 (some .int) ∈ jm_tb := List.mem_filter.mpr ⟨List.mem_of_getElem? (i := 843) (by decide +kernel), by decide +kernel⟩
theorem qX2_110 : jm_CV "WeighedInBooks$Foresight" 110 yX7_readings cX7_readings 3 (some .int) 0 := ⟨tw_840, tw_841, tw_842, tw_83, tw_843, by decide, by decide, by decide +kernel⟩
theorem fl_X2_103 : jm_Fl "WeighedInBooks$Foresight" 103 2 6 := ⟨_, _, _, rfl, by decide, inX2, tw_243⟩
theorem tw_844 : Cond.methodLink "WeighedInBooks$Foresight" 114 yX7_twosDown ∈ jm_tb := List.mem_filter.mpr ⟨List.mem_of_getElem? (i := 844) (by decide +kernel), by decide +kernel⟩
theorem tw_845 : Cond.instanceMethod yX7_twosDown ∈ jm_tb := List.mem_filter.mpr ⟨List.mem_of_getElem? (i := 845) (by decide +kernel), by decide +kernel⟩
theorem tw_846 : Cond.selects yX7_twosDown.cls yX7_twosDown yX7_twosDown ∈ jm_tb := List.mem_filter.mpr ⟨List.mem_of_getElem? (i := 846) (by decide +kernel), by decide +kernel⟩
theorem tw_847 : Cond.code yX7_twosDown cX7_twosDown 4 (some .int) ∈ jm_tb := List.mem_filter.mpr ⟨List.mem_of_getElem? (i := 847) (by decide +kernel), by decide +kernel⟩
theorem qX2_114 : jm_CV "WeighedInBooks$Foresight" 114 yX7_twosDown cX7_twosDown 4 (some .int) 0 := ⟨tw_844, tw_845, tw_846, tw_83, tw_847, by decide, by decide, by decide +kernel⟩
theorem tw_829 : Cond.methodLink "WeighedInBooks" 281 yX2_drawSprings ∈ jm_tb := List.mem_filter.mpr ⟨List.mem_of_getElem? (i := 829) (by decide +kernel), by decide +kernel⟩
theorem tw_830 : Cond.instanceMethod yX2_drawSprings ∈ jm_tb := List.mem_filter.mpr ⟨List.mem_of_getElem? (i := 830) (by decide +kernel), by decide +kernel⟩
theorem tw_831 : Cond.selects yX2_drawSprings.cls yX2_drawSprings yX2_drawSprings ∈ jm_tb := List.mem_filter.mpr ⟨List.mem_of_getElem? (i := 831) (by decide +kernel), by decide +kernel⟩
theorem tw_832 : Cond.code yX2_drawSprings cX2_drawSprings 7 none ∈ jm_tb := List.mem_filter.mpr ⟨List.mem_of_getElem? (i := 832) (by decide +kernel), by decide +kernel⟩
theorem qX8_281 : jm_CV "WeighedInBooks" 281 yX2_drawSprings cX2_drawSprings 7 none 3 := ⟨tw_829, tw_830, tw_831, tw_86, tw_832, by decide, by decide, by decide +kernel⟩
theorem tw_242 : Cond.fieldLink "WeighedInBooks" 284 "WeighedInBooks$Foresight" "springReadings" "I" ∈ jm_tb := List.mem_filter.mpr ⟨List.mem_of_getElem? (i := 242) (by decide +kernel), by decide +kernel⟩
theorem fl_X8_284 : jm_Fl "WeighedInBooks" 284 2 5 := ⟨_, _, _, rfl, by decide, inX2, tw_242⟩
theorem tw_244 : Cond.fieldLink "WeighedInBooks" 287 "WeighedInBooks$Foresight" "springTwos" "I" ∈ jm_tb := List.mem_filter.mpr ⟨List.mem_of_getElem? (i := 244) (by decide +kernel), by decide +kernel⟩
theorem fl_X8_287 : jm_Fl "WeighedInBooks" 287 2 6 := ⟨_, _, _, rfl, by decide, inX2, tw_244⟩
theorem tw_853 : Cond.methodLink "WeighedInBooks" 290 yX7_rankOf ∈ jm_tb := List.mem_filter.mpr ⟨List.mem_of_getElem? (i := 853) (by decide +kernel), by decide +kernel⟩
theorem tw_854 : Cond.instanceMethod yX7_rankOf ∈ jm_tb := List.mem_filter.mpr ⟨List.mem_of_getElem? (i := 854) (by decide +kernel), by decide +kernel⟩
theorem tw_855 : Cond.selects yX7_rankOf.cls yX7_rankOf yX7_rankOf ∈ jm_tb := List.mem_filter.mpr ⟨List.mem_of_getElem? (i := 855) (by decide +kernel), by decide +kernel⟩
theorem tw_856 : Cond.code yX7_rankOf cX7_rankOf 4 (some .int) ∈ jm_tb := List.mem_filter.mpr ⟨List.mem_of_getElem? (i := 856) (by decide +kernel), by decide +kernel⟩
theorem qX8_290 : jm_CV "WeighedInBooks" 290 yX7_rankOf cX7_rankOf 4 (some .int) 1 := ⟨tw_853, tw_854, tw_855, tw_83, tw_856, by decide, by decide, by decide +kernel⟩
theorem tw_857 : Cond.methodLink "WeighedInBooks" 293 yX7_firstTitleFrom ∈ jm_tb := List.mem_filter.mpr ⟨List.mem_of_getElem? (i := 857) (by decide +kernel), by decide +kernel⟩
theorem tw_858 : Cond.instanceMethod yX7_firstTitleFrom ∈ jm_tb := List.mem_filter.mpr ⟨List.mem_of_getElem? (i := 858) (by decide +kernel), by decide +kernel⟩
theorem tw_859 : Cond.selects yX7_firstTitleFrom.cls yX7_firstTitleFrom yX7_firstTitleFrom ∈ jm_tb := List.mem_filter.mpr ⟨List.mem_of_getElem? (i := 859) (by decide +kernel), by decide +kernel⟩
theorem tw_860 : Cond.code yX7_firstTitleFrom cX7_firstTitleFrom 4 (some .int) ∈ jm_tb := List.mem_filter.mpr ⟨List.mem_of_getElem? (i := 860) (by decide +kernel), by decide +kernel⟩
theorem qX8_293 : jm_CV "WeighedInBooks" 293 yX7_firstTitleFrom cX7_firstTitleFrom 4 (some .int) 1 := ⟨tw_857, tw_858, tw_859, tw_83, tw_860, by decide, by decide, by decide +kernel⟩
theorem tw_877 : Cond.methodLink "WeighedInBooks$Town" 126 yX7_priceOf ∈ jm_tb := List.mem_filter.mpr ⟨List.mem_of_getElem? (i := 877) (by decide +kernel), by decide +kernel⟩
theorem qX7_126 : jm_CV "WeighedInBooks$Town" 126 yX7_priceOf cX7_priceOf 6 (some .int) 1 := ⟨tw_877, tw_554, tw_555, tw_83, tw_556, by decide, by decide, by decide +kernel⟩
theorem tw_869 : Cond.methodLink "WeighedInBooks" 296 yX7_kindsHeldBy ∈ jm_tb := List.mem_filter.mpr ⟨List.mem_of_getElem? (i := 869) (by decide +kernel), by decide +kernel⟩
theorem tw_870 : Cond.instanceMethod yX7_kindsHeldBy ∈ jm_tb := List.mem_filter.mpr ⟨List.mem_of_getElem? (i := 870) (by decide +kernel), by decide +kernel⟩
theorem tw_871 : Cond.selects yX7_kindsHeldBy.cls yX7_kindsHeldBy yX7_kindsHeldBy ∈ jm_tb := List.mem_filter.mpr ⟨List.mem_of_getElem? (i := 871) (by decide +kernel), by decide +kernel⟩
theorem tw_872 : Cond.code yX7_kindsHeldBy cX7_kindsHeldBy 4 (some .int) ∈ jm_tb := List.mem_filter.mpr ⟨List.mem_of_getElem? (i := 872) (by decide +kernel), by decide +kernel⟩
theorem qX8_296 : jm_CV "WeighedInBooks" 296 yX7_kindsHeldBy cX7_kindsHeldBy 4 (some .int) 1 := ⟨tw_869, tw_870, tw_871, tw_83, tw_872, by decide, by decide, by decide +kernel⟩
theorem tw_873 : Cond.methodLink "WeighedInBooks" 299 yX7_pricesHeldBy ∈ jm_tb := List.mem_filter.mpr ⟨List.mem_of_getElem? (i := 873) (by decide +kernel), by decide +kernel⟩
theorem tw_874 : Cond.instanceMethod yX7_pricesHeldBy ∈ jm_tb := List.mem_filter.mpr ⟨List.mem_of_getElem? (i := 874) (by decide +kernel), by decide +kernel⟩
theorem tw_875 : Cond.selects yX7_pricesHeldBy.cls yX7_pricesHeldBy yX7_pricesHeldBy ∈ jm_tb := List.mem_filter.mpr ⟨List.mem_of_getElem? (i := 875) (by decide +kernel), by decide +kernel⟩
theorem tw_876 : Cond.code yX7_pricesHeldBy cX7_pricesHeldBy 4 (some .int) ∈ jm_tb := List.mem_filter.mpr ⟨List.mem_of_getElem? (i := 876) (by decide +kernel), by decide +kernel⟩
theorem qX8_299 : jm_CV "WeighedInBooks" 299 yX7_pricesHeldBy cX7_pricesHeldBy 4 (some .int) 1 := ⟨tw_873, tw_874, tw_875, tw_83, tw_876, by decide, by decide, by decide +kernel⟩
theorem tw_878 : Cond.methodLink "WeighedInBooks" 302 yX7_mostHeldKind ∈ jm_tb := List.mem_filter.mpr ⟨List.mem_of_getElem? (i := 878) (by decide +kernel), by decide +kernel⟩
theorem tw_879 : Cond.instanceMethod yX7_mostHeldKind ∈ jm_tb := List.mem_filter.mpr ⟨List.mem_of_getElem? (i := 879) (by decide +kernel), by decide +kernel⟩
theorem tw_880 : Cond.selects yX7_mostHeldKind.cls yX7_mostHeldKind yX7_mostHeldKind ∈ jm_tb := List.mem_filter.mpr ⟨List.mem_of_getElem? (i := 880) (by decide +kernel), by decide +kernel⟩
theorem tw_881 : Cond.code yX7_mostHeldKind cX7_mostHeldKind 7 (some .int) ∈ jm_tb := List.mem_filter.mpr ⟨List.mem_of_getElem? (i := 881) (by decide +kernel), by decide +kernel⟩
theorem qX8_302 : jm_CV "WeighedInBooks" 302 yX7_mostHeldKind cX7_mostHeldKind 7 (some .int) 1 := ⟨tw_878, tw_879, tw_880, tw_83, tw_881, by decide, by decide, by decide +kernel⟩
theorem tw_890 : Cond.methodLink "WeighedInBooks$Town" 112 Lib.Math.abs.name ∈ jm_tb := List.mem_filter.mpr ⟨List.mem_of_getElem? (i := 890) (by decide +kernel), by decide +kernel⟩
theorem tw_891 : Cond.static Lib.Math.abs.name ∈ jm_tb := List.mem_filter.mpr ⟨List.mem_of_getElem? (i := 891) (by decide +kernel), by decide +kernel⟩
theorem tw_892 : Cond.code Lib.Math.abs.name Lib.Math.abs.code 1 (some .int) ∈ jm_tb := List.mem_filter.mpr ⟨List.mem_of_getElem? (i := 892) (by decide +kernel), by decide +kernel⟩
theorem tw_897 : Cond.methodLink "WeighedInBooks$Town" 129 yX7_leastTownPrice ∈ jm_tb := List.mem_filter.mpr ⟨List.mem_of_getElem? (i := 897) (by decide +kernel), by decide +kernel⟩
theorem tw_898 : Cond.instanceMethod yX7_leastTownPrice ∈ jm_tb := List.mem_filter.mpr ⟨List.mem_of_getElem? (i := 898) (by decide +kernel), by decide +kernel⟩
theorem tw_899 : Cond.selects yX7_leastTownPrice.cls yX7_leastTownPrice yX7_leastTownPrice ∈ jm_tb := List.mem_filter.mpr ⟨List.mem_of_getElem? (i := 899) (by decide +kernel), by decide +kernel⟩
theorem tw_900 : Cond.code yX7_leastTownPrice cX7_leastTownPrice 4 (some .int) ∈ jm_tb := List.mem_filter.mpr ⟨List.mem_of_getElem? (i := 900) (by decide +kernel), by decide +kernel⟩
theorem qX7_129 : jm_CV "WeighedInBooks$Town" 129 yX7_leastTownPrice cX7_leastTownPrice 4 (some .int) 0 := ⟨tw_897, tw_898, tw_899, tw_83, tw_900, by decide, by decide, by decide +kernel⟩
theorem tw_886 : Cond.methodLink "WeighedInBooks" 305 yX7_closestTwo ∈ jm_tb := List.mem_filter.mpr ⟨List.mem_of_getElem? (i := 886) (by decide +kernel), by decide +kernel⟩
theorem tw_887 : Cond.instanceMethod yX7_closestTwo ∈ jm_tb := List.mem_filter.mpr ⟨List.mem_of_getElem? (i := 887) (by decide +kernel), by decide +kernel⟩
theorem tw_888 : Cond.selects yX7_closestTwo.cls yX7_closestTwo yX7_closestTwo ∈ jm_tb := List.mem_filter.mpr ⟨List.mem_of_getElem? (i := 888) (by decide +kernel), by decide +kernel⟩
theorem tw_889 : Cond.code yX7_closestTwo cX7_closestTwo 6 (some .int) ∈ jm_tb := List.mem_filter.mpr ⟨List.mem_of_getElem? (i := 889) (by decide +kernel), by decide +kernel⟩
theorem qX8_305 : jm_CV "WeighedInBooks" 305 yX7_closestTwo cX7_closestTwo 6 (some .int) 0 := ⟨tw_886, tw_887, tw_888, tw_83, tw_889, by decide, by decide, by decide +kernel⟩
theorem tw_893 : Cond.methodLink "WeighedInBooks" 309 yX7_poorPeople ∈ jm_tb := List.mem_filter.mpr ⟨List.mem_of_getElem? (i := 893) (by decide +kernel), by decide +kernel⟩
theorem tw_894 : Cond.instanceMethod yX7_poorPeople ∈ jm_tb := List.mem_filter.mpr ⟨List.mem_of_getElem? (i := 894) (by decide +kernel), by decide +kernel⟩
theorem tw_895 : Cond.selects yX7_poorPeople.cls yX7_poorPeople yX7_poorPeople ∈ jm_tb := List.mem_filter.mpr ⟨List.mem_of_getElem? (i := 895) (by decide +kernel), by decide +kernel⟩
theorem tw_896 : Cond.code yX7_poorPeople cX7_poorPeople 4 (some .int) ∈ jm_tb := List.mem_filter.mpr ⟨List.mem_of_getElem? (i := 896) (by decide +kernel), by decide +kernel⟩
theorem qX8_309 : jm_CV "WeighedInBooks" 309 yX7_poorPeople cX7_poorPeople 4 (some .int) 0 := ⟨tw_893, tw_894, tw_895, tw_83, tw_896, by decide, by decide, by decide +kernel⟩
theorem tw_901 : Cond.methodLink "WeighedInBooks" 312 yX7_unreadBooks ∈ jm_tb := List.mem_filter.mpr ⟨List.mem_of_getElem? (i := 901) (by decide +kernel), by decide +kernel⟩
theorem tw_902 : Cond.instanceMethod yX7_unreadBooks ∈ jm_tb := List.mem_filter.mpr ⟨List.mem_of_getElem? (i := 902) (by decide +kernel), by decide +kernel⟩
theorem tw_903 : Cond.selects yX7_unreadBooks.cls yX7_unreadBooks yX7_unreadBooks ∈ jm_tb := List.mem_filter.mpr ⟨List.mem_of_getElem? (i := 903) (by decide +kernel), by decide +kernel⟩
theorem tw_904 : Cond.code yX7_unreadBooks cX7_unreadBooks 3 (some .int) ∈ jm_tb := List.mem_filter.mpr ⟨List.mem_of_getElem? (i := 904) (by decide +kernel), by decide +kernel⟩
theorem qX8_312 : jm_CV "WeighedInBooks" 312 yX7_unreadBooks cX7_unreadBooks 3 (some .int) 0 := ⟨tw_901, tw_902, tw_903, tw_83, tw_904, by decide, by decide, by decide +kernel⟩
theorem tw_905 : Cond.methodLink "WeighedInBooks" 315 yX7_lentBooks ∈ jm_tb := List.mem_filter.mpr ⟨List.mem_of_getElem? (i := 905) (by decide +kernel), by decide +kernel⟩
theorem tw_906 : Cond.instanceMethod yX7_lentBooks ∈ jm_tb := List.mem_filter.mpr ⟨List.mem_of_getElem? (i := 906) (by decide +kernel), by decide +kernel⟩
theorem tw_907 : Cond.selects yX7_lentBooks.cls yX7_lentBooks yX7_lentBooks ∈ jm_tb := List.mem_filter.mpr ⟨List.mem_of_getElem? (i := 907) (by decide +kernel), by decide +kernel⟩
theorem tw_908 : Cond.code yX7_lentBooks cX7_lentBooks 3 (some .int) ∈ jm_tb := List.mem_filter.mpr ⟨List.mem_of_getElem? (i := 908) (by decide +kernel), by decide +kernel⟩
theorem qX8_315 : jm_CV "WeighedInBooks" 315 yX7_lentBooks cX7_lentBooks 3 (some .int) 0 := ⟨tw_905, tw_906, tw_907, tw_83, tw_908, by decide, by decide, by decide +kernel⟩
theorem tw_917 : Cond.methodLink "WeighedInBooks" 318 yX7_booksReadBy ∈ jm_tb := List.mem_filter.mpr ⟨List.mem_of_getElem? (i := 917) (by decide +kernel), by decide +kernel⟩
theorem qX8_318 : jm_CV "WeighedInBooks" 318 yX7_booksReadBy cX7_booksReadBy 4 (some .int) 1 := ⟨tw_917, tw_525, tw_526, tw_83, tw_527, by decide, by decide, by decide +kernel⟩
theorem fp_X8_254 : jm_Fp "WeighedInBooks" 254 6 10 .int := ⟨_, _, _, tyX8, rfl, by decide, inX8, tw_312, tyX8_ok, nmX8, rfl, by decide +kernel⟩
theorem tw_304 : Cond.fieldLink "WeighedInBooks" 23 "WeighedInBooks" "imaged" "LWeighedInBooks$Town;" ∈ jm_tb := List.mem_filter.mpr ⟨List.mem_of_getElem? (i := 304) (by decide +kernel), by decide +kernel⟩
theorem fl_X8_23 : jm_Fl "WeighedInBooks" 23 6 2 := ⟨_, _, _, rfl, by decide, inX8, tw_304⟩
theorem tw_938 : Cond.methodLink "WeighedInBooks" 321 yX7_copyFrom ∈ jm_tb := List.mem_filter.mpr ⟨List.mem_of_getElem? (i := 938) (by decide +kernel), by decide +kernel⟩
theorem qX8_321 : jm_CV "WeighedInBooks" 321 yX7_copyFrom cX7_copyFrom 2 none 1 := ⟨tw_938, tw_402, tw_403, tw_83, tw_404, by decide, by decide, by decide +kernel⟩
theorem tw_305 : Cond.fieldLink "WeighedInBooks" 324 "WeighedInBooks" "hasImage" "Z" ∈ jm_tb := List.mem_filter.mpr ⟨List.mem_of_getElem? (i := 305) (by decide +kernel), by decide +kernel⟩
theorem fp_X8_324 : jm_Fp "WeighedInBooks" 324 6 3 .boolean := ⟨_, _, _, tyX8, rfl, by decide, inX8, tw_305, tyX8_ok, nmX8, rfl, by decide +kernel⟩
theorem fl_X8_324 : jm_Fl "WeighedInBooks" 324 6 3 := ⟨_, _, _, rfl, by decide, inX8, tw_305⟩
theorem tw_947 : Cond.methodLink "WeighedInBooks" 328 yX7_weightOfAll ∈ jm_tb := List.mem_filter.mpr ⟨List.mem_of_getElem? (i := 947) (by decide +kernel), by decide +kernel⟩
theorem tw_948 : Cond.instanceMethod yX7_weightOfAll ∈ jm_tb := List.mem_filter.mpr ⟨List.mem_of_getElem? (i := 948) (by decide +kernel), by decide +kernel⟩
theorem tw_949 : Cond.selects yX7_weightOfAll.cls yX7_weightOfAll yX7_weightOfAll ∈ jm_tb := List.mem_filter.mpr ⟨List.mem_of_getElem? (i := 949) (by decide +kernel), by decide +kernel⟩
theorem tw_950 : Cond.code yX7_weightOfAll cX7_weightOfAll 3 (some .int) ∈ jm_tb := List.mem_filter.mpr ⟨List.mem_of_getElem? (i := 950) (by decide +kernel), by decide +kernel⟩
theorem qX8_328 : jm_CV "WeighedInBooks" 328 yX7_weightOfAll cX7_weightOfAll 3 (some .int) 0 := ⟨tw_947, tw_948, tw_949, tw_83, tw_950, by decide, by decide, by decide +kernel⟩
theorem tw_951 : Cond.methodLink "WeighedInBooks" 331 yX7_twosDown ∈ jm_tb := List.mem_filter.mpr ⟨List.mem_of_getElem? (i := 951) (by decide +kernel), by decide +kernel⟩
theorem qX8_331 : jm_CV "WeighedInBooks" 331 yX7_twosDown cX7_twosDown 4 (some .int) 0 := ⟨tw_951, tw_845, tw_846, tw_83, tw_847, by decide, by decide, by decide +kernel⟩
theorem tw_958 : Cond.fieldLink "WeighedInBooksModel" 7 "WeighedInBooksModel" "refused" "[I" ∈ jm_tb := List.mem_filter.mpr ⟨List.mem_of_getElem? (i := 958) (by decide +kernel), by decide +kernel⟩
theorem fl_X9_7 : jm_Fl "WeighedInBooksModel" 7 7 0 := ⟨_, _, _, rfl, by decide, inX9, tw_958⟩
theorem tw_1357 : Cond.constant "WeighedInBooksModel" 95 (1000000000) ∈ jm_tb := List.mem_filter.mpr ⟨List.mem_of_getElem? (i := 1357) (by decide +kernel), by decide +kernel⟩
theorem tw_1485 : Cond.constantLong "WeighedInBooksModel" 96 (4000000000000000000) ∈ jm_tb := List.mem_filter.mpr ⟨List.mem_of_getElem? (i := 1485) (by decide +kernel), by decide +kernel⟩
theorem tw_971 : Cond.fieldLink "WeighedInBooksModel" 91 "WeighedInBooksModel" "people" "I" ∈ jm_tb := List.mem_filter.mpr ⟨List.mem_of_getElem? (i := 971) (by decide +kernel), by decide +kernel⟩
theorem fl_X9_91 : jm_Fl "WeighedInBooksModel" 91 7 13 := ⟨_, _, _, rfl, by decide, inX9, tw_971⟩
theorem tw_1126 : Cond.methodLink "WeighedInBooksModel" 98 yX9_isIn ∈ jm_tb := List.mem_filter.mpr ⟨List.mem_of_getElem? (i := 1126) (by decide +kernel), by decide +kernel⟩
theorem tw_1127 : Cond.static yX9_isIn ∈ jm_tb := List.mem_filter.mpr ⟨List.mem_of_getElem? (i := 1127) (by decide +kernel), by decide +kernel⟩
theorem tw_89 : Cond.initialized yX9_isIn.cls ∈ jm_tb := List.mem_filter.mpr ⟨List.mem_of_getElem? (i := 89) (by decide +kernel), by decide +kernel⟩
theorem tw_1128 : Cond.code yX9_isIn cX9_isIn 3 (some .boolean) ∈ jm_tb := List.mem_filter.mpr ⟨List.mem_of_getElem? (i := 1128) (by decide +kernel), by decide +kernel⟩
theorem qX9_98 : jm_CS "WeighedInBooksModel" 98 yX9_isIn cX9_isIn 3 (some .boolean) 3 := ⟨tw_1126, tw_1127, tw_89, tw_1128, by decide, by decide, by decide +kernel⟩
theorem tw_1172 : Cond.methodLink "WeighedInBooksModel" 102 yX9_isPerson ∈ jm_tb := List.mem_filter.mpr ⟨List.mem_of_getElem? (i := 1172) (by decide +kernel), by decide +kernel⟩
theorem tw_1174 : Cond.instanceMethod yX9_isPerson ∈ jm_tb := List.mem_filter.mpr ⟨List.mem_of_getElem? (i := 1174) (by decide +kernel), by decide +kernel⟩
theorem tw_21 : Cond.selects yX9_isPerson.cls yX9_isPerson yX9_isPerson ∈ jm_tb := List.mem_filter.mpr ⟨List.mem_of_getElem? (i := 21) (by decide +kernel), by decide +kernel⟩
theorem tw_1175 : Cond.code yX9_isPerson cX9_isPerson 2 (some .boolean) ∈ jm_tb := List.mem_filter.mpr ⟨List.mem_of_getElem? (i := 1175) (by decide +kernel), by decide +kernel⟩
theorem qX9_102 : jm_CV "WeighedInBooksModel" 102 yX9_isPerson cX9_isPerson 2 (some .boolean) 1 := ⟨tw_1172, tw_1174, tw_21, tw_89, tw_1175, by decide, by decide, by decide +kernel⟩
theorem tw_972 : Cond.fieldLink "WeighedInBooksModel" 106 "WeighedInBooksModel" "books" "I" ∈ jm_tb := List.mem_filter.mpr ⟨List.mem_of_getElem? (i := 972) (by decide +kernel), by decide +kernel⟩
theorem fl_X9_106 : jm_Fl "WeighedInBooksModel" 106 7 14 := ⟨_, _, _, rfl, by decide, inX9, tw_972⟩
theorem tw_966 : Cond.fieldLink "WeighedInBooksModel" 34 "WeighedInBooksModel" "readBy" "[I" ∈ jm_tb := List.mem_filter.mpr ⟨List.mem_of_getElem? (i := 966) (by decide +kernel), by decide +kernel⟩
theorem fl_X9_34 : jm_Fl "WeighedInBooksModel" 34 7 8 := ⟨_, _, _, rfl, by decide, inX9, tw_966⟩
theorem tw_1266 : Cond.methodLink "WeighedInBooksModel" 109 yX9_bits ∈ jm_tb := List.mem_filter.mpr ⟨List.mem_of_getElem? (i := 1266) (by decide +kernel), by decide +kernel⟩
theorem tw_1267 : Cond.static yX9_bits ∈ jm_tb := List.mem_filter.mpr ⟨List.mem_of_getElem? (i := 1267) (by decide +kernel), by decide +kernel⟩
theorem tw_1268 : Cond.code yX9_bits cX9_bits 3 (some .int) ∈ jm_tb := List.mem_filter.mpr ⟨List.mem_of_getElem? (i := 1268) (by decide +kernel), by decide +kernel⟩
theorem qX9_109 : jm_CS "WeighedInBooksModel" 109 yX9_bits cX9_bits 3 (some .int) 1 := ⟨tw_1266, tw_1267, tw_89, tw_1268, by decide, by decide, by decide +kernel⟩
theorem tw_963 : Cond.fieldLink "WeighedInBooksModel" 25 "WeighedInBooksModel" "figure" "[I" ∈ jm_tb := List.mem_filter.mpr ⟨List.mem_of_getElem? (i := 963) (by decide +kernel), by decide +kernel⟩
theorem fl_X9_25 : jm_Fl "WeighedInBooksModel" 25 7 5 := ⟨_, _, _, rfl, by decide, inX9, tw_963⟩
theorem tw_962 : Cond.fieldLink "WeighedInBooksModel" 22 "WeighedInBooksModel" "kind" "[I" ∈ jm_tb := List.mem_filter.mpr ⟨List.mem_of_getElem? (i := 962) (by decide +kernel), by decide +kernel⟩
theorem fl_X9_22 : jm_Fl "WeighedInBooksModel" 22 7 4 := ⟨_, _, _, rfl, by decide, inX9, tw_962⟩
theorem tw_1269 : Cond.methodLink "WeighedInBooksModel" 113 yX9_asNovel ∈ jm_tb := List.mem_filter.mpr ⟨List.mem_of_getElem? (i := 1269) (by decide +kernel), by decide +kernel⟩
theorem tw_1271 : Cond.instanceMethod yX9_asNovel ∈ jm_tb := List.mem_filter.mpr ⟨List.mem_of_getElem? (i := 1271) (by decide +kernel), by decide +kernel⟩
theorem tw_38 : Cond.selects yX9_asNovel.cls yX9_asNovel yX9_asNovel ∈ jm_tb := List.mem_filter.mpr ⟨List.mem_of_getElem? (i := 38) (by decide +kernel), by decide +kernel⟩
theorem tw_1272 : Cond.code yX9_asNovel cX9_asNovel 3 (some .int) ∈ jm_tb := List.mem_filter.mpr ⟨List.mem_of_getElem? (i := 1272) (by decide +kernel), by decide +kernel⟩
theorem qX9_113 : jm_CV "WeighedInBooksModel" 113 yX9_asNovel cX9_asNovel 3 (some .int) 1 := ⟨tw_1269, tw_1271, tw_38, tw_89, tw_1272, by decide, by decide, by decide +kernel⟩
theorem tw_967 : Cond.fieldLink "WeighedInBooksModel" 37 "WeighedInBooksModel" "titleMany" "[I" ∈ jm_tb := List.mem_filter.mpr ⟨List.mem_of_getElem? (i := 967) (by decide +kernel), by decide +kernel⟩
theorem fl_X9_37 : jm_Fl "WeighedInBooksModel" 37 7 9 := ⟨_, _, _, rfl, by decide, inX9, tw_967⟩
theorem tw_973 : Cond.fieldLink "WeighedInBooksModel" 116 "WeighedInBooksModel" "week" "I" ∈ jm_tb := List.mem_filter.mpr ⟨List.mem_of_getElem? (i := 973) (by decide +kernel), by decide +kernel⟩
theorem fl_X9_116 : jm_Fl "WeighedInBooksModel" 116 7 15 := ⟨_, _, _, rfl, by decide, inX9, tw_973⟩
theorem tw_970 : Cond.fieldLink "WeighedInBooksModel" 46 "WeighedInBooksModel" "stepN" "[I" ∈ jm_tb := List.mem_filter.mpr ⟨List.mem_of_getElem? (i := 970) (by decide +kernel), by decide +kernel⟩
theorem fl_X9_46 : jm_Fl "WeighedInBooksModel" 46 7 12 := ⟨_, _, _, rfl, by decide, inX9, tw_970⟩
theorem tw_969 : Cond.fieldLink "WeighedInBooksModel" 43 "WeighedInBooksModel" "stepKind" "[I" ∈ jm_tb := List.mem_filter.mpr ⟨List.mem_of_getElem? (i := 969) (by decide +kernel), by decide +kernel⟩
theorem fl_X9_43 : jm_Fl "WeighedInBooksModel" 43 7 11 := ⟨_, _, _, rfl, by decide, inX9, tw_969⟩
theorem tw_1262 : Cond.methodLink "WeighedInBooksModel" 119 yX9_weighs ∈ jm_tb := List.mem_filter.mpr ⟨List.mem_of_getElem? (i := 1262) (by decide +kernel), by decide +kernel⟩
theorem tw_1264 : Cond.instanceMethod yX9_weighs ∈ jm_tb := List.mem_filter.mpr ⟨List.mem_of_getElem? (i := 1264) (by decide +kernel), by decide +kernel⟩
theorem tw_37 : Cond.selects yX9_weighs.cls yX9_weighs yX9_weighs ∈ jm_tb := List.mem_filter.mpr ⟨List.mem_of_getElem? (i := 37) (by decide +kernel), by decide +kernel⟩
theorem tw_1265 : Cond.code yX9_weighs cX9_weighs 4 (some .int) ∈ jm_tb := List.mem_filter.mpr ⟨List.mem_of_getElem? (i := 1265) (by decide +kernel), by decide +kernel⟩
theorem qX9_119 : jm_CV "WeighedInBooksModel" 119 yX9_weighs cX9_weighs 4 (some .int) 1 := ⟨tw_1262, tw_1264, tw_37, tw_89, tw_1265, by decide, by decide, by decide +kernel⟩
theorem tw_974 : Cond.fieldLink "WeighedInBooksModel" 122 "WeighedInBooksModel" "steps" "I" ∈ jm_tb := List.mem_filter.mpr ⟨List.mem_of_getElem? (i := 974) (by decide +kernel), by decide +kernel⟩
theorem fl_X9_122 : jm_Fl "WeighedInBooksModel" 122 7 16 := ⟨_, _, _, rfl, by decide, inX9, tw_974⟩
theorem tw_1349 : Cond.methodLink "WeighedInBooksModel" 125 yX9_byStep ∈ jm_tb := List.mem_filter.mpr ⟨List.mem_of_getElem? (i := 1349) (by decide +kernel), by decide +kernel⟩
theorem tw_1351 : Cond.instanceMethod yX9_byStep ∈ jm_tb := List.mem_filter.mpr ⟨List.mem_of_getElem? (i := 1351) (by decide +kernel), by decide +kernel⟩
theorem tw_47 : Cond.selects yX9_byStep.cls yX9_byStep yX9_byStep ∈ jm_tb := List.mem_filter.mpr ⟨List.mem_of_getElem? (i := 47) (by decide +kernel), by decide +kernel⟩
theorem tw_1352 : Cond.code yX9_byStep cX9_byStep 5 (some .int) ∈ jm_tb := List.mem_filter.mpr ⟨List.mem_of_getElem? (i := 1352) (by decide +kernel), by decide +kernel⟩
theorem qX9_125 : jm_CV "WeighedInBooksModel" 125 yX9_byStep cX9_byStep 5 (some .int) 3 := ⟨tw_1349, tw_1351, tw_47, tw_89, tw_1352, by decide, by decide, by decide +kernel⟩
theorem tw_965 : Cond.fieldLink "WeighedInBooksModel" 31 "WeighedInBooksModel" "holder" "[I" ∈ jm_tb := List.mem_filter.mpr ⟨List.mem_of_getElem? (i := 965) (by decide +kernel), by decide +kernel⟩
theorem fl_X9_31 : jm_Fl "WeighedInBooksModel" 31 7 7 := ⟨_, _, _, rfl, by decide, inX9, tw_965⟩
theorem tw_959 : Cond.fieldLink "WeighedInBooksModel" 13 "WeighedInBooksModel" "weight" "[I" ∈ jm_tb := List.mem_filter.mpr ⟨List.mem_of_getElem? (i := 959) (by decide +kernel), by decide +kernel⟩
theorem fl_X9_13 : jm_Fl "WeighedInBooksModel" 13 7 1 := ⟨_, _, _, rfl, by decide, inX9, tw_959⟩
theorem tw_1341 : Cond.methodLink "WeighedInBooksModel" 129 yX9_isHeld ∈ jm_tb := List.mem_filter.mpr ⟨List.mem_of_getElem? (i := 1341) (by decide +kernel), by decide +kernel⟩
theorem tw_1343 : Cond.instanceMethod yX9_isHeld ∈ jm_tb := List.mem_filter.mpr ⟨List.mem_of_getElem? (i := 1343) (by decide +kernel), by decide +kernel⟩
theorem tw_45 : Cond.selects yX9_isHeld.cls yX9_isHeld yX9_isHeld ∈ jm_tb := List.mem_filter.mpr ⟨List.mem_of_getElem? (i := 45) (by decide +kernel), by decide +kernel⟩
theorem tw_1344 : Cond.code yX9_isHeld cX9_isHeld 4 (some .boolean) ∈ jm_tb := List.mem_filter.mpr ⟨List.mem_of_getElem? (i := 1344) (by decide +kernel), by decide +kernel⟩
theorem qX9_129 : jm_CV "WeighedInBooksModel" 129 yX9_isHeld cX9_isHeld 4 (some .boolean) 3 := ⟨tw_1341, tw_1343, tw_45, tw_89, tw_1344, by decide, by decide, by decide +kernel⟩
theorem tw_1224 : Cond.methodLink "WeighedInBooksModel" 132 yX9_has ∈ jm_tb := List.mem_filter.mpr ⟨List.mem_of_getElem? (i := 1224) (by decide +kernel), by decide +kernel⟩
theorem tw_1225 : Cond.static yX9_has ∈ jm_tb := List.mem_filter.mpr ⟨List.mem_of_getElem? (i := 1225) (by decide +kernel), by decide +kernel⟩
theorem tw_1226 : Cond.code yX9_has cX9_has 2 (some .boolean) ∈ jm_tb := List.mem_filter.mpr ⟨List.mem_of_getElem? (i := 1226) (by decide +kernel), by decide +kernel⟩
theorem qX9_132 : jm_CS "WeighedInBooksModel" 132 yX9_has cX9_has 2 (some .boolean) 2 := ⟨tw_1224, tw_1225, tw_89, tw_1226, by decide, by decide, by decide +kernel⟩
theorem tw_1345 : Cond.methodLink "WeighedInBooksModel" 136 yX9_comesTo ∈ jm_tb := List.mem_filter.mpr ⟨List.mem_of_getElem? (i := 1345) (by decide +kernel), by decide +kernel⟩
theorem tw_1347 : Cond.instanceMethod yX9_comesTo ∈ jm_tb := List.mem_filter.mpr ⟨List.mem_of_getElem? (i := 1347) (by decide +kernel), by decide +kernel⟩
theorem tw_46 : Cond.selects yX9_comesTo.cls yX9_comesTo yX9_comesTo ∈ jm_tb := List.mem_filter.mpr ⟨List.mem_of_getElem? (i := 46) (by decide +kernel), by decide +kernel⟩
theorem tw_1348 : Cond.code yX9_comesTo cX9_comesTo 7 (some .int) ∈ jm_tb := List.mem_filter.mpr ⟨List.mem_of_getElem? (i := 1348) (by decide +kernel), by decide +kernel⟩
theorem qX9_136 : jm_CV "WeighedInBooksModel" 136 yX9_comesTo cX9_comesTo 7 (some .int) 3 := ⟨tw_1345, tw_1347, tw_46, tw_89, tw_1348, by decide, by decide, by decide +kernel⟩
theorem tw_1337 : Cond.methodLink "WeighedInBooksModel" 139 yX9_overWith ∈ jm_tb := List.mem_filter.mpr ⟨List.mem_of_getElem? (i := 1337) (by decide +kernel), by decide +kernel⟩
theorem tw_1339 : Cond.instanceMethod yX9_overWith ∈ jm_tb := List.mem_filter.mpr ⟨List.mem_of_getElem? (i := 1339) (by decide +kernel), by decide +kernel⟩
theorem tw_44 : Cond.selects yX9_overWith.cls yX9_overWith yX9_overWith ∈ jm_tb := List.mem_filter.mpr ⟨List.mem_of_getElem? (i := 44) (by decide +kernel), by decide +kernel⟩
theorem tw_1340 : Cond.code yX9_overWith cX9_overWith 6 (some .int) ∈ jm_tb := List.mem_filter.mpr ⟨List.mem_of_getElem? (i := 1340) (by decide +kernel), by decide +kernel⟩
theorem qX9_139 : jm_CV "WeighedInBooksModel" 139 yX9_overWith cX9_overWith 6 (some .int) 3 := ⟨tw_1337, tw_1339, tw_44, tw_89, tw_1340, by decide, by decide, by decide +kernel⟩
theorem tw_1333 : Cond.methodLink "WeighedInBooksModel" 142 yX9_overNow ∈ jm_tb := List.mem_filter.mpr ⟨List.mem_of_getElem? (i := 1333) (by decide +kernel), by decide +kernel⟩
theorem tw_1335 : Cond.instanceMethod yX9_overNow ∈ jm_tb := List.mem_filter.mpr ⟨List.mem_of_getElem? (i := 1335) (by decide +kernel), by decide +kernel⟩
theorem tw_43 : Cond.selects yX9_overNow.cls yX9_overNow yX9_overNow ∈ jm_tb := List.mem_filter.mpr ⟨List.mem_of_getElem? (i := 43) (by decide +kernel), by decide +kernel⟩
theorem tw_1336 : Cond.code yX9_overNow cX9_overNow 3 (some .int) ∈ jm_tb := List.mem_filter.mpr ⟨List.mem_of_getElem? (i := 1336) (by decide +kernel), by decide +kernel⟩
theorem qX9_142 : jm_CV "WeighedInBooksModel" 142 yX9_overNow cX9_overNow 3 (some .int) 2 := ⟨tw_1333, tw_1335, tw_43, tw_89, tw_1336, by decide, by decide, by decide +kernel⟩
theorem tw_968 : Cond.fieldLink "WeighedInBooksModel" 40 "WeighedInBooksModel" "title" "[I" ∈ jm_tb := List.mem_filter.mpr ⟨List.mem_of_getElem? (i := 968) (by decide +kernel), by decide +kernel⟩
theorem fl_X9_40 : jm_Fl "WeighedInBooksModel" 40 7 10 := ⟨_, _, _, rfl, by decide, inX9, tw_968⟩
theorem tw_1227 : Cond.methodLink "WeighedInBooksModel" 146 yX9_compares ∈ jm_tb := List.mem_filter.mpr ⟨List.mem_of_getElem? (i := 1227) (by decide +kernel), by decide +kernel⟩
theorem tw_1229 : Cond.instanceMethod yX9_compares ∈ jm_tb := List.mem_filter.mpr ⟨List.mem_of_getElem? (i := 1229) (by decide +kernel), by decide +kernel⟩
theorem tw_34 : Cond.selects yX9_compares.cls yX9_compares yX9_compares ∈ jm_tb := List.mem_filter.mpr ⟨List.mem_of_getElem? (i := 34) (by decide +kernel), by decide +kernel⟩
theorem tw_1230 : Cond.code yX9_compares cX9_compares 6 (some .int) ∈ jm_tb := List.mem_filter.mpr ⟨List.mem_of_getElem? (i := 1230) (by decide +kernel), by decide +kernel⟩
theorem qX9_146 : jm_CV "WeighedInBooksModel" 146 yX9_compares cX9_compares 6 (some .int) 2 := ⟨tw_1227, tw_1229, tw_34, tw_89, tw_1230, by decide, by decide, by decide +kernel⟩
theorem tw_1496 : Cond.methodLink "WeighedInBooksModel" 149 yX9_rankOf ∈ jm_tb := List.mem_filter.mpr ⟨List.mem_of_getElem? (i := 1496) (by decide +kernel), by decide +kernel⟩
theorem tw_1498 : Cond.instanceMethod yX9_rankOf ∈ jm_tb := List.mem_filter.mpr ⟨List.mem_of_getElem? (i := 1498) (by decide +kernel), by decide +kernel⟩
theorem tw_67 : Cond.selects yX9_rankOf.cls yX9_rankOf yX9_rankOf ∈ jm_tb := List.mem_filter.mpr ⟨List.mem_of_getElem? (i := 67) (by decide +kernel), by decide +kernel⟩
theorem tw_1499 : Cond.code yX9_rankOf cX9_rankOf 4 (some .int) ∈ jm_tb := List.mem_filter.mpr ⟨List.mem_of_getElem? (i := 1499) (by decide +kernel), by decide +kernel⟩
theorem qX9_149 : jm_CV "WeighedInBooksModel" 149 yX9_rankOf cX9_rankOf 4 (some .int) 1 := ⟨tw_1496, tw_1498, tw_67, tw_89, tw_1499, by decide, by decide, by decide +kernel⟩
theorem tw_960 : Cond.fieldLink "WeighedInBooksModel" 16 "WeighedInBooksModel" "appetite" "[I" ∈ jm_tb := List.mem_filter.mpr ⟨List.mem_of_getElem? (i := 960) (by decide +kernel), by decide +kernel⟩
theorem fl_X9_16 : jm_Fl "WeighedInBooksModel" 16 7 2 := ⟨_, _, _, rfl, by decide, inX9, tw_960⟩
theorem tw_975 : Cond.fieldLink "WeighedInBooksModel" 152 "WeighedInBooksModel" "isDamp" "Z" ∈ jm_tb := List.mem_filter.mpr ⟨List.mem_of_getElem? (i := 975) (by decide +kernel), by decide +kernel⟩
theorem fl_X9_152 : jm_Fl "WeighedInBooksModel" 152 7 17 := ⟨_, _, _, rfl, by decide, inX9, tw_975⟩
theorem tw_1220 : Cond.methodLink "WeighedInBooksModel" 156 yX9_toRead ∈ jm_tb := List.mem_filter.mpr ⟨List.mem_of_getElem? (i := 1220) (by decide +kernel), by decide +kernel⟩
theorem tw_1222 : Cond.instanceMethod yX9_toRead ∈ jm_tb := List.mem_filter.mpr ⟨List.mem_of_getElem? (i := 1222) (by decide +kernel), by decide +kernel⟩
theorem tw_33 : Cond.selects yX9_toRead.cls yX9_toRead yX9_toRead ∈ jm_tb := List.mem_filter.mpr ⟨List.mem_of_getElem? (i := 33) (by decide +kernel), by decide +kernel⟩
theorem tw_1223 : Cond.code yX9_toRead cX9_toRead 4 (some .int) ∈ jm_tb := List.mem_filter.mpr ⟨List.mem_of_getElem? (i := 1223) (by decide +kernel), by decide +kernel⟩
theorem qX9_156 : jm_CV "WeighedInBooksModel" 156 yX9_toRead cX9_toRead 4 (some .int) 1 := ⟨tw_1220, tw_1222, tw_33, tw_89, tw_1223, by decide, by decide, by decide +kernel⟩
theorem tw_964 : Cond.fieldLink "WeighedInBooksModel" 28 "WeighedInBooksModel" "owner" "[I" ∈ jm_tb := List.mem_filter.mpr ⟨List.mem_of_getElem? (i := 964) (by decide +kernel), by decide +kernel⟩
theorem fl_X9_28 : jm_Fl "WeighedInBooksModel" 28 7 6 := ⟨_, _, _, rfl, by decide, inX9, tw_964⟩
theorem fp_X9_116 : jm_Fp "WeighedInBooksModel" 116 7 15 .int := ⟨_, _, _, tyX9, rfl, by decide, inX9, tw_973, tyX9_ok, nmX9, rfl, by decide +kernel⟩
theorem tw_1216 : Cond.methodLink "WeighedInBooksModel" 159 yX9_goesPerson ∈ jm_tb := List.mem_filter.mpr ⟨List.mem_of_getElem? (i := 1216) (by decide +kernel), by decide +kernel⟩
theorem tw_1218 : Cond.instanceMethod yX9_goesPerson ∈ jm_tb := List.mem_filter.mpr ⟨List.mem_of_getElem? (i := 1218) (by decide +kernel), by decide +kernel⟩
theorem tw_32 : Cond.selects yX9_goesPerson.cls yX9_goesPerson yX9_goesPerson ∈ jm_tb := List.mem_filter.mpr ⟨List.mem_of_getElem? (i := 32) (by decide +kernel), by decide +kernel⟩
theorem tw_1219 : Cond.code yX9_goesPerson cX9_goesPerson 3 none ∈ jm_tb := List.mem_filter.mpr ⟨List.mem_of_getElem? (i := 1219) (by decide +kernel), by decide +kernel⟩
theorem qX9_159 : jm_CV "WeighedInBooksModel" 159 yX9_goesPerson cX9_goesPerson 3 none 1 := ⟨tw_1216, tw_1218, tw_32, tw_89, tw_1219, by decide, by decide, by decide +kernel⟩
theorem tw_1212 : Cond.methodLink "WeighedInBooksModel" 163 yX9_goesWeek ∈ jm_tb := List.mem_filter.mpr ⟨List.mem_of_getElem? (i := 1212) (by decide +kernel), by decide +kernel⟩
theorem tw_1214 : Cond.instanceMethod yX9_goesWeek ∈ jm_tb := List.mem_filter.mpr ⟨List.mem_of_getElem? (i := 1214) (by decide +kernel), by decide +kernel⟩
theorem tw_31 : Cond.selects yX9_goesWeek.cls yX9_goesWeek yX9_goesWeek ∈ jm_tb := List.mem_filter.mpr ⟨List.mem_of_getElem? (i := 31) (by decide +kernel), by decide +kernel⟩
theorem tw_1215 : Cond.code yX9_goesWeek cX9_goesWeek 2 none ∈ jm_tb := List.mem_filter.mpr ⟨List.mem_of_getElem? (i := 1215) (by decide +kernel), by decide +kernel⟩
theorem qX9_163 : jm_CV "WeighedInBooksModel" 163 yX9_goesWeek cX9_goesWeek 2 none 0 := ⟨tw_1212, tw_1214, tw_31, tw_89, tw_1215, by decide, by decide, by decide +kernel⟩
theorem tw_1095 : Cond.methodLink "WeighedInBooksModel" 166 yX9_bound ∈ jm_tb := List.mem_filter.mpr ⟨List.mem_of_getElem? (i := 1095) (by decide +kernel), by decide +kernel⟩
theorem tw_1096 : Cond.static yX9_bound ∈ jm_tb := List.mem_filter.mpr ⟨List.mem_of_getElem? (i := 1096) (by decide +kernel), by decide +kernel⟩
theorem tw_1097 : Cond.code yX9_bound cX9_bound 3 (some .int) ∈ jm_tb := List.mem_filter.mpr ⟨List.mem_of_getElem? (i := 1097) (by decide +kernel), by decide +kernel⟩
theorem qX9_166 : jm_CS "WeighedInBooksModel" 166 yX9_bound cX9_bound 3 (some .int) 3 := ⟨tw_1095, tw_1096, tw_89, tw_1097, by decide, by decide, by decide +kernel⟩
theorem tw_984 : Cond.fieldLink "WeighedInBooksModel" 169 "WeighedInBooksModel" "taped" "I" ∈ jm_tb := List.mem_filter.mpr ⟨List.mem_of_getElem? (i := 984) (by decide +kernel), by decide +kernel⟩
theorem fl_X9_169 : jm_Fl "WeighedInBooksModel" 169 7 26 := ⟨_, _, _, rfl, by decide, inX9, tw_984⟩
theorem tw_976 : Cond.fieldLink "WeighedInBooksModel" 49 "WeighedInBooksModel" "tape" "[I" ∈ jm_tb := List.mem_filter.mpr ⟨List.mem_of_getElem? (i := 976) (by decide +kernel), by decide +kernel⟩
theorem fl_X9_49 : jm_Fl "WeighedInBooksModel" 49 7 18 := ⟨_, _, _, rfl, by decide, inX9, tw_976⟩
theorem fp_X9_169 : jm_Fp "WeighedInBooksModel" 169 7 26 .int := ⟨_, _, _, tyX9, rfl, by decide, inX9, tw_984, tyX9_ok, nmX9, rfl, by decide +kernel⟩
theorem tw_1098 : Cond.methodLink "WeighedInBooksModel" 172 yX9_no ∈ jm_tb := List.mem_filter.mpr ⟨List.mem_of_getElem? (i := 1098) (by decide +kernel), by decide +kernel⟩
theorem tw_1100 : Cond.instanceMethod yX9_no ∈ jm_tb := List.mem_filter.mpr ⟨List.mem_of_getElem? (i := 1100) (by decide +kernel), by decide +kernel⟩
theorem tw_5 : Cond.selects yX9_no.cls yX9_no yX9_no ∈ jm_tb := List.mem_filter.mpr ⟨List.mem_of_getElem? (i := 5) (by decide +kernel), by decide +kernel⟩
theorem tw_1101 : Cond.code yX9_no cX9_no 2 (some .int) ∈ jm_tb := List.mem_filter.mpr ⟨List.mem_of_getElem? (i := 1101) (by decide +kernel), by decide +kernel⟩
theorem qX9_172 : jm_CV "WeighedInBooksModel" 172 yX9_no cX9_no 2 (some .int) 1 := ⟨tw_1098, tw_1100, tw_5, tw_89, tw_1101, by decide, by decide, by decide +kernel⟩
theorem tw_985 : Cond.fieldLink "WeighedInBooksModel" 175 "WeighedInBooksModel" "reading" "I" ∈ jm_tb := List.mem_filter.mpr ⟨List.mem_of_getElem? (i := 985) (by decide +kernel), by decide +kernel⟩
theorem fl_X9_175 : jm_Fl "WeighedInBooksModel" 175 7 27 := ⟨_, _, _, rfl, by decide, inX9, tw_985⟩
theorem tw_1110 : Cond.methodLink "WeighedInBooksModel" 178 yX9_sign ∈ jm_tb := List.mem_filter.mpr ⟨List.mem_of_getElem? (i := 1110) (by decide +kernel), by decide +kernel⟩
theorem tw_1112 : Cond.instanceMethod yX9_sign ∈ jm_tb := List.mem_filter.mpr ⟨List.mem_of_getElem? (i := 1112) (by decide +kernel), by decide +kernel⟩
theorem tw_7 : Cond.selects yX9_sign.cls yX9_sign yX9_sign ∈ jm_tb := List.mem_filter.mpr ⟨List.mem_of_getElem? (i := 7) (by decide +kernel), by decide +kernel⟩
theorem tw_1113 : Cond.code yX9_sign cX9_sign 1 (some .int) ∈ jm_tb := List.mem_filter.mpr ⟨List.mem_of_getElem? (i := 1113) (by decide +kernel), by decide +kernel⟩
theorem qX9_178 : jm_CV "WeighedInBooksModel" 178 yX9_sign cX9_sign 1 (some .int) 0 := ⟨tw_1110, tw_1112, tw_7, tw_89, tw_1113, by decide, by decide, by decide +kernel⟩
theorem fp_X9_175 : jm_Fp "WeighedInBooksModel" 175 7 27 .int := ⟨_, _, _, tyX9, rfl, by decide, inX9, tw_985, tyX9_ok, nmX9, rfl, by decide +kernel⟩
theorem tw_979 : Cond.fieldLink "WeighedInBooksModel" 58 "WeighedInBooksModel" "told" "[I" ∈ jm_tb := List.mem_filter.mpr ⟨List.mem_of_getElem? (i := 979) (by decide +kernel), by decide +kernel⟩
theorem fl_X9_58 : jm_Fl "WeighedInBooksModel" 58 7 21 := ⟨_, _, _, rfl, by decide, inX9, tw_979⟩
theorem tw_987 : Cond.fieldLink "WeighedInBooksModel" 182 "WeighedInBooksModel" "telling" "I" ∈ jm_tb := List.mem_filter.mpr ⟨List.mem_of_getElem? (i := 987) (by decide +kernel), by decide +kernel⟩
theorem fl_X9_182 : jm_Fl "WeighedInBooksModel" 182 7 29 := ⟨_, _, _, rfl, by decide, inX9, tw_987⟩
theorem tw_1122 : Cond.methodLink "WeighedInBooksModel" 185 yX9_number ∈ jm_tb := List.mem_filter.mpr ⟨List.mem_of_getElem? (i := 1122) (by decide +kernel), by decide +kernel⟩
theorem tw_1124 : Cond.instanceMethod yX9_number ∈ jm_tb := List.mem_filter.mpr ⟨List.mem_of_getElem? (i := 1124) (by decide +kernel), by decide +kernel⟩
theorem tw_10 : Cond.selects yX9_number.cls yX9_number yX9_number ∈ jm_tb := List.mem_filter.mpr ⟨List.mem_of_getElem? (i := 10) (by decide +kernel), by decide +kernel⟩
theorem tw_1125 : Cond.code yX9_number cX9_number 4 (some .int) ∈ jm_tb := List.mem_filter.mpr ⟨List.mem_of_getElem? (i := 1125) (by decide +kernel), by decide +kernel⟩
theorem qX9_185 : jm_CV "WeighedInBooksModel" 185 yX9_number cX9_number 4 (some .int) 1 := ⟨tw_1122, tw_1124, tw_10, tw_89, tw_1125, by decide, by decide, by decide +kernel⟩
theorem fp_X9_182 : jm_Fp "WeighedInBooksModel" 182 7 29 .int := ⟨_, _, _, tyX9, rfl, by decide, inX9, tw_987, tyX9_ok, nmX9, rfl, by decide +kernel⟩
theorem tw_980 : Cond.fieldLink "WeighedInBooksModel" 61 "WeighedInBooksModel" "saidAt" "[I" ∈ jm_tb := List.mem_filter.mpr ⟨List.mem_of_getElem? (i := 980) (by decide +kernel), by decide +kernel⟩
theorem fl_X9_61 : jm_Fl "WeighedInBooksModel" 61 7 22 := ⟨_, _, _, rfl, by decide, inX9, tw_980⟩
theorem tw_986 : Cond.fieldLink "WeighedInBooksModel" 188 "WeighedInBooksModel" "statements" "I" ∈ jm_tb := List.mem_filter.mpr ⟨List.mem_of_getElem? (i := 986) (by decide +kernel), by decide +kernel⟩
theorem fl_X9_188 : jm_Fl "WeighedInBooksModel" 188 7 28 := ⟨_, _, _, rfl, by decide, inX9, tw_986⟩
theorem tw_981 : Cond.fieldLink "WeighedInBooksModel" 64 "WeighedInBooksModel" "saidMany" "[I" ∈ jm_tb := List.mem_filter.mpr ⟨List.mem_of_getElem? (i := 981) (by decide +kernel), by decide +kernel⟩
theorem fl_X9_64 : jm_Fl "WeighedInBooksModel" 64 7 23 := ⟨_, _, _, rfl, by decide, inX9, tw_981⟩
theorem tw_988 : Cond.fieldLink "WeighedInBooksModel" 191 "WeighedInBooksModel" "lawTold" "I" ∈ jm_tb := List.mem_filter.mpr ⟨List.mem_of_getElem? (i := 988) (by decide +kernel), by decide +kernel⟩
theorem fl_X9_191 : jm_Fl "WeighedInBooksModel" 191 7 30 := ⟨_, _, _, rfl, by decide, inX9, tw_988⟩
theorem tw_1137 : Cond.methodLink "WeighedInBooksModel" 194 yX9_stepOf ∈ jm_tb := List.mem_filter.mpr ⟨List.mem_of_getElem? (i := 1137) (by decide +kernel), by decide +kernel⟩
theorem tw_1138 : Cond.static yX9_stepOf ∈ jm_tb := List.mem_filter.mpr ⟨List.mem_of_getElem? (i := 1138) (by decide +kernel), by decide +kernel⟩
theorem tw_1139 : Cond.code yX9_stepOf cX9_stepOf 1 (some .int) ∈ jm_tb := List.mem_filter.mpr ⟨List.mem_of_getElem? (i := 1139) (by decide +kernel), by decide +kernel⟩
theorem qX9_194 : jm_CS "WeighedInBooksModel" 194 yX9_stepOf cX9_stepOf 1 (some .int) 1 := ⟨tw_1137, tw_1138, tw_89, tw_1139, by decide, by decide, by decide +kernel⟩
theorem tw_982 : Cond.fieldLink "WeighedInBooksModel" 67 "WeighedInBooksModel" "lawKind" "[I" ∈ jm_tb := List.mem_filter.mpr ⟨List.mem_of_getElem? (i := 982) (by decide +kernel), by decide +kernel⟩
theorem fl_X9_67 : jm_Fl "WeighedInBooksModel" 67 7 24 := ⟨_, _, _, rfl, by decide, inX9, tw_982⟩
theorem tw_983 : Cond.fieldLink "WeighedInBooksModel" 70 "WeighedInBooksModel" "lawN" "[I" ∈ jm_tb := List.mem_filter.mpr ⟨List.mem_of_getElem? (i := 983) (by decide +kernel), by decide +kernel⟩
theorem fl_X9_70 : jm_Fl "WeighedInBooksModel" 70 7 25 := ⟨_, _, _, rfl, by decide, inX9, tw_983⟩
theorem fp_X9_191 : jm_Fp "WeighedInBooksModel" 191 7 30 .int := ⟨_, _, _, tyX9, rfl, by decide, inX9, tw_988, tyX9_ok, nmX9, rfl, by decide +kernel⟩
theorem tw_1118 : Cond.methodLink "WeighedInBooksModel" 197 yX9_readsDigits ∈ jm_tb := List.mem_filter.mpr ⟨List.mem_of_getElem? (i := 1118) (by decide +kernel), by decide +kernel⟩
theorem tw_1120 : Cond.instanceMethod yX9_readsDigits ∈ jm_tb := List.mem_filter.mpr ⟨List.mem_of_getElem? (i := 1120) (by decide +kernel), by decide +kernel⟩
theorem tw_9 : Cond.selects yX9_readsDigits.cls yX9_readsDigits yX9_readsDigits ∈ jm_tb := List.mem_filter.mpr ⟨List.mem_of_getElem? (i := 9) (by decide +kernel), by decide +kernel⟩
theorem tw_1121 : Cond.code yX9_readsDigits cX9_readsDigits 2 (some .boolean) ∈ jm_tb := List.mem_filter.mpr ⟨List.mem_of_getElem? (i := 1121) (by decide +kernel), by decide +kernel⟩
theorem qX9_197 : jm_CV "WeighedInBooksModel" 197 yX9_readsDigits cX9_readsDigits 2 (some .boolean) 1 := ⟨tw_1118, tw_1120, tw_9, tw_89, tw_1121, by decide, by decide, by decide +kernel⟩
theorem tw_1129 : Cond.methodLink "WeighedInBooksModel" 200 yX9_readsTitle ∈ jm_tb := List.mem_filter.mpr ⟨List.mem_of_getElem? (i := 1129) (by decide +kernel), by decide +kernel⟩
theorem tw_1131 : Cond.instanceMethod yX9_readsTitle ∈ jm_tb := List.mem_filter.mpr ⟨List.mem_of_getElem? (i := 1131) (by decide +kernel), by decide +kernel⟩
theorem tw_11 : Cond.selects yX9_readsTitle.cls yX9_readsTitle yX9_readsTitle ∈ jm_tb := List.mem_filter.mpr ⟨List.mem_of_getElem? (i := 11) (by decide +kernel), by decide +kernel⟩
theorem tw_1132 : Cond.code yX9_readsTitle cX9_readsTitle 1 (some .boolean) ∈ jm_tb := List.mem_filter.mpr ⟨List.mem_of_getElem? (i := 1132) (by decide +kernel), by decide +kernel⟩
theorem qX9_200 : jm_CV "WeighedInBooksModel" 200 yX9_readsTitle cX9_readsTitle 1 (some .boolean) 0 := ⟨tw_1129, tw_1131, tw_11, tw_89, tw_1132, by decide, by decide, by decide +kernel⟩
theorem tw_1133 : Cond.methodLink "WeighedInBooksModel" 204 yX9_readsSteps ∈ jm_tb := List.mem_filter.mpr ⟨List.mem_of_getElem? (i := 1133) (by decide +kernel), by decide +kernel⟩
theorem tw_1135 : Cond.instanceMethod yX9_readsSteps ∈ jm_tb := List.mem_filter.mpr ⟨List.mem_of_getElem? (i := 1135) (by decide +kernel), by decide +kernel⟩
theorem tw_12 : Cond.selects yX9_readsSteps.cls yX9_readsSteps yX9_readsSteps ∈ jm_tb := List.mem_filter.mpr ⟨List.mem_of_getElem? (i := 12) (by decide +kernel), by decide +kernel⟩
theorem tw_1136 : Cond.code yX9_readsSteps cX9_readsSteps 2 (some .boolean) ∈ jm_tb := List.mem_filter.mpr ⟨List.mem_of_getElem? (i := 1136) (by decide +kernel), by decide +kernel⟩
theorem qX9_204 : jm_CV "WeighedInBooksModel" 204 yX9_readsSteps cX9_readsSteps 2 (some .boolean) 0 := ⟨tw_1133, tw_1135, tw_12, tw_89, tw_1136, by decide, by decide, by decide +kernel⟩
theorem tw_977 : Cond.fieldLink "WeighedInBooksModel" 52 "WeighedInBooksModel" "sort" "[I" ∈ jm_tb := List.mem_filter.mpr ⟨List.mem_of_getElem? (i := 977) (by decide +kernel), by decide +kernel⟩
theorem fl_X9_52 : jm_Fl "WeighedInBooksModel" 52 7 19 := ⟨_, _, _, rfl, by decide, inX9, tw_977⟩
theorem tw_978 : Cond.fieldLink "WeighedInBooksModel" 55 "WeighedInBooksModel" "sortAt" "[I" ∈ jm_tb := List.mem_filter.mpr ⟨List.mem_of_getElem? (i := 978) (by decide +kernel), by decide +kernel⟩
theorem fl_X9_55 : jm_Fl "WeighedInBooksModel" 55 7 20 := ⟨_, _, _, rfl, by decide, inX9, tw_978⟩
theorem tw_1114 : Cond.methodLink "WeighedInBooksModel" 207 yX9_readsAll ∈ jm_tb := List.mem_filter.mpr ⟨List.mem_of_getElem? (i := 1114) (by decide +kernel), by decide +kernel⟩
theorem tw_1116 : Cond.instanceMethod yX9_readsAll ∈ jm_tb := List.mem_filter.mpr ⟨List.mem_of_getElem? (i := 1116) (by decide +kernel), by decide +kernel⟩
theorem tw_8 : Cond.selects yX9_readsAll.cls yX9_readsAll yX9_readsAll ∈ jm_tb := List.mem_filter.mpr ⟨List.mem_of_getElem? (i := 8) (by decide +kernel), by decide +kernel⟩
theorem tw_1117 : Cond.code yX9_readsAll cX9_readsAll 2 (some .boolean) ∈ jm_tb := List.mem_filter.mpr ⟨List.mem_of_getElem? (i := 1117) (by decide +kernel), by decide +kernel⟩
theorem qX9_207 : jm_CV "WeighedInBooksModel" 207 yX9_readsAll cX9_readsAll 2 (some .boolean) 1 := ⟨tw_1114, tw_1116, tw_8, tw_89, tw_1117, by decide, by decide, by decide +kernel⟩
theorem tw_1180 : Cond.methodLink "WeighedInBooksModel" 210 yX9_isTitled ∈ jm_tb := List.mem_filter.mpr ⟨List.mem_of_getElem? (i := 1180) (by decide +kernel), by decide +kernel⟩
theorem tw_1182 : Cond.instanceMethod yX9_isTitled ∈ jm_tb := List.mem_filter.mpr ⟨List.mem_of_getElem? (i := 1182) (by decide +kernel), by decide +kernel⟩
theorem tw_23 : Cond.selects yX9_isTitled.cls yX9_isTitled yX9_isTitled ∈ jm_tb := List.mem_filter.mpr ⟨List.mem_of_getElem? (i := 23) (by decide +kernel), by decide +kernel⟩
theorem tw_1183 : Cond.code yX9_isTitled cX9_isTitled 6 (some .boolean) ∈ jm_tb := List.mem_filter.mpr ⟨List.mem_of_getElem? (i := 1183) (by decide +kernel), by decide +kernel⟩
theorem qX9_210 : jm_CV "WeighedInBooksModel" 210 yX9_isTitled cX9_isTitled 6 (some .boolean) 3 := ⟨tw_1180, tw_1182, tw_23, tw_89, tw_1183, by decide, by decide, by decide +kernel⟩
theorem tw_961 : Cond.fieldLink "WeighedInBooksModel" 19 "WeighedInBooksModel" "purse" "[I" ∈ jm_tb := List.mem_filter.mpr ⟨List.mem_of_getElem? (i := 961) (by decide +kernel), by decide +kernel⟩
theorem fl_X9_19 : jm_Fl "WeighedInBooksModel" 19 7 3 := ⟨_, _, _, rfl, by decide, inX9, tw_961⟩
theorem fp_X9_91 : jm_Fp "WeighedInBooksModel" 91 7 13 .int := ⟨_, _, _, tyX9, rfl, by decide, inX9, tw_971, tyX9_ok, nmX9, rfl, by decide +kernel⟩
theorem fp_X9_106 : jm_Fp "WeighedInBooksModel" 106 7 14 .int := ⟨_, _, _, tyX9, rfl, by decide, inX9, tw_972, tyX9_ok, nmX9, rfl, by decide +kernel⟩
theorem tw_1160 : Cond.methodLink "WeighedInBooksModel" 213 yX9_isMore ∈ jm_tb := List.mem_filter.mpr ⟨List.mem_of_getElem? (i := 1160) (by decide +kernel), by decide +kernel⟩
theorem tw_1162 : Cond.instanceMethod yX9_isMore ∈ jm_tb := List.mem_filter.mpr ⟨List.mem_of_getElem? (i := 1162) (by decide +kernel), by decide +kernel⟩
theorem tw_18 : Cond.selects yX9_isMore.cls yX9_isMore yX9_isMore ∈ jm_tb := List.mem_filter.mpr ⟨List.mem_of_getElem? (i := 18) (by decide +kernel), by decide +kernel⟩
theorem tw_1163 : Cond.code yX9_isMore cX9_isMore 4 none ∈ jm_tb := List.mem_filter.mpr ⟨List.mem_of_getElem? (i := 1163) (by decide +kernel), by decide +kernel⟩
theorem qX9_213 : jm_CV "WeighedInBooksModel" 213 yX9_isMore cX9_isMore 4 none 3 := ⟨tw_1160, tw_1162, tw_18, tw_89, tw_1163, by decide, by decide, by decide +kernel⟩
theorem tw_1168 : Cond.methodLink "WeighedInBooksModel" 217 yX9_isPlace ∈ jm_tb := List.mem_filter.mpr ⟨List.mem_of_getElem? (i := 1168) (by decide +kernel), by decide +kernel⟩
theorem tw_1170 : Cond.instanceMethod yX9_isPlace ∈ jm_tb := List.mem_filter.mpr ⟨List.mem_of_getElem? (i := 1170) (by decide +kernel), by decide +kernel⟩
theorem tw_20 : Cond.selects yX9_isPlace.cls yX9_isPlace yX9_isPlace ∈ jm_tb := List.mem_filter.mpr ⟨List.mem_of_getElem? (i := 20) (by decide +kernel), by decide +kernel⟩
theorem tw_1171 : Cond.code yX9_isPlace cX9_isPlace 2 (some .boolean) ∈ jm_tb := List.mem_filter.mpr ⟨List.mem_of_getElem? (i := 1171) (by decide +kernel), by decide +kernel⟩
theorem qX9_217 : jm_CV "WeighedInBooksModel" 217 yX9_isPlace cX9_isPlace 2 (some .boolean) 1 := ⟨tw_1168, tw_1170, tw_20, tw_89, tw_1171, by decide, by decide, by decide +kernel⟩
theorem tw_1176 : Cond.methodLink "WeighedInBooksModel" 220 yX9_titledBy ∈ jm_tb := List.mem_filter.mpr ⟨List.mem_of_getElem? (i := 1176) (by decide +kernel), by decide +kernel⟩
theorem tw_1178 : Cond.instanceMethod yX9_titledBy ∈ jm_tb := List.mem_filter.mpr ⟨List.mem_of_getElem? (i := 1178) (by decide +kernel), by decide +kernel⟩
theorem tw_22 : Cond.selects yX9_titledBy.cls yX9_titledBy yX9_titledBy ∈ jm_tb := List.mem_filter.mpr ⟨List.mem_of_getElem? (i := 22) (by decide +kernel), by decide +kernel⟩
theorem tw_1179 : Cond.code yX9_titledBy cX9_titledBy 3 (some .int) ∈ jm_tb := List.mem_filter.mpr ⟨List.mem_of_getElem? (i := 1179) (by decide +kernel), by decide +kernel⟩
theorem qX9_220 : jm_CV "WeighedInBooksModel" 220 yX9_titledBy cX9_titledBy 3 (some .int) 1 := ⟨tw_1176, tw_1178, tw_22, tw_89, tw_1179, by decide, by decide, by decide +kernel⟩
theorem tw_1184 : Cond.methodLink "WeighedInBooksModel" 223 yX9_isBrought ∈ jm_tb := List.mem_filter.mpr ⟨List.mem_of_getElem? (i := 1184) (by decide +kernel), by decide +kernel⟩
theorem tw_1186 : Cond.instanceMethod yX9_isBrought ∈ jm_tb := List.mem_filter.mpr ⟨List.mem_of_getElem? (i := 1186) (by decide +kernel), by decide +kernel⟩
theorem tw_24 : Cond.selects yX9_isBrought.cls yX9_isBrought yX9_isBrought ∈ jm_tb := List.mem_filter.mpr ⟨List.mem_of_getElem? (i := 24) (by decide +kernel), by decide +kernel⟩
theorem tw_1187 : Cond.code yX9_isBrought cX9_isBrought 4 none ∈ jm_tb := List.mem_filter.mpr ⟨List.mem_of_getElem? (i := 1187) (by decide +kernel), by decide +kernel⟩
theorem qX9_223 : jm_CV "WeighedInBooksModel" 223 yX9_isBrought cX9_isBrought 4 none 3 := ⟨tw_1184, tw_1186, tw_24, tw_89, tw_1187, by decide, by decide, by decide +kernel⟩
theorem tw_1188 : Cond.methodLink "WeighedInBooksModel" 226 yX9_isTitledMore ∈ jm_tb := List.mem_filter.mpr ⟨List.mem_of_getElem? (i := 1188) (by decide +kernel), by decide +kernel⟩
theorem tw_1190 : Cond.instanceMethod yX9_isTitledMore ∈ jm_tb := List.mem_filter.mpr ⟨List.mem_of_getElem? (i := 1190) (by decide +kernel), by decide +kernel⟩
theorem tw_25 : Cond.selects yX9_isTitledMore.cls yX9_isTitledMore yX9_isTitledMore ∈ jm_tb := List.mem_filter.mpr ⟨List.mem_of_getElem? (i := 25) (by decide +kernel), by decide +kernel⟩
theorem tw_1191 : Cond.code yX9_isTitledMore cX9_isTitledMore 3 none ∈ jm_tb := List.mem_filter.mpr ⟨List.mem_of_getElem? (i := 1191) (by decide +kernel), by decide +kernel⟩
theorem qX9_226 : jm_CV "WeighedInBooksModel" 226 yX9_isTitledMore cX9_isTitledMore 3 none 1 := ⟨tw_1188, tw_1190, tw_25, tw_89, tw_1191, by decide, by decide, by decide +kernel⟩
theorem fp_X9_122 : jm_Fp "WeighedInBooksModel" 122 7 16 .int := ⟨_, _, _, tyX9, rfl, by decide, inX9, tw_974, tyX9_ok, nmX9, rfl, by decide +kernel⟩
theorem tw_1208 : Cond.methodLink "WeighedInBooksModel" 229 yX9_goes ∈ jm_tb := List.mem_filter.mpr ⟨List.mem_of_getElem? (i := 1208) (by decide +kernel), by decide +kernel⟩
theorem tw_1210 : Cond.instanceMethod yX9_goes ∈ jm_tb := List.mem_filter.mpr ⟨List.mem_of_getElem? (i := 1210) (by decide +kernel), by decide +kernel⟩
theorem tw_30 : Cond.selects yX9_goes.cls yX9_goes yX9_goes ∈ jm_tb := List.mem_filter.mpr ⟨List.mem_of_getElem? (i := 30) (by decide +kernel), by decide +kernel⟩
theorem tw_1211 : Cond.code yX9_goes cX9_goes 3 none ∈ jm_tb := List.mem_filter.mpr ⟨List.mem_of_getElem? (i := 1211) (by decide +kernel), by decide +kernel⟩
theorem qX9_229 : jm_CV "WeighedInBooksModel" 229 yX9_goes cX9_goes 3 none 1 := ⟨tw_1208, tw_1210, tw_30, tw_89, tw_1211, by decide, by decide, by decide +kernel⟩
theorem tw_1164 : Cond.methodLink "WeighedInBooksModel" 235 yX9_comesBook ∈ jm_tb := List.mem_filter.mpr ⟨List.mem_of_getElem? (i := 1164) (by decide +kernel), by decide +kernel⟩
theorem tw_1166 : Cond.instanceMethod yX9_comesBook ∈ jm_tb := List.mem_filter.mpr ⟨List.mem_of_getElem? (i := 1166) (by decide +kernel), by decide +kernel⟩
theorem tw_19 : Cond.selects yX9_comesBook.cls yX9_comesBook yX9_comesBook ∈ jm_tb := List.mem_filter.mpr ⟨List.mem_of_getElem? (i := 19) (by decide +kernel), by decide +kernel⟩
theorem tw_1167 : Cond.code yX9_comesBook cX9_comesBook 4 (some .boolean) ∈ jm_tb := List.mem_filter.mpr ⟨List.mem_of_getElem? (i := 1167) (by decide +kernel), by decide +kernel⟩
theorem qX9_235 : jm_CV "WeighedInBooksModel" 235 yX9_comesBook cX9_comesBook 4 (some .boolean) 2 := ⟨tw_1164, tw_1166, tw_19, tw_89, tw_1167, by decide, by decide, by decide +kernel⟩
theorem tw_1196 : Cond.methodLink "WeighedInBooksModel" 241 yX9_comesHolding ∈ jm_tb := List.mem_filter.mpr ⟨List.mem_of_getElem? (i := 1196) (by decide +kernel), by decide +kernel⟩
theorem tw_1198 : Cond.instanceMethod yX9_comesHolding ∈ jm_tb := List.mem_filter.mpr ⟨List.mem_of_getElem? (i := 1198) (by decide +kernel), by decide +kernel⟩
theorem tw_27 : Cond.selects yX9_comesHolding.cls yX9_comesHolding yX9_comesHolding ∈ jm_tb := List.mem_filter.mpr ⟨List.mem_of_getElem? (i := 27) (by decide +kernel), by decide +kernel⟩
theorem tw_1199 : Cond.code yX9_comesHolding cX9_comesHolding 4 (some .boolean) ∈ jm_tb := List.mem_filter.mpr ⟨List.mem_of_getElem? (i := 1199) (by decide +kernel), by decide +kernel⟩
theorem qX9_241 : jm_CV "WeighedInBooksModel" 241 yX9_comesHolding cX9_comesHolding 4 (some .boolean) 2 := ⟨tw_1196, tw_1198, tw_27, tw_89, tw_1199, by decide, by decide, by decide +kernel⟩
theorem tw_1200 : Cond.methodLink "WeighedInBooksModel" 244 yX9_comesLaw ∈ jm_tb := List.mem_filter.mpr ⟨List.mem_of_getElem? (i := 1200) (by decide +kernel), by decide +kernel⟩
theorem tw_1202 : Cond.instanceMethod yX9_comesLaw ∈ jm_tb := List.mem_filter.mpr ⟨List.mem_of_getElem? (i := 1202) (by decide +kernel), by decide +kernel⟩
theorem tw_28 : Cond.selects yX9_comesLaw.cls yX9_comesLaw yX9_comesLaw ∈ jm_tb := List.mem_filter.mpr ⟨List.mem_of_getElem? (i := 28) (by decide +kernel), by decide +kernel⟩
theorem tw_1203 : Cond.code yX9_comesLaw cX9_comesLaw 3 (some .boolean) ∈ jm_tb := List.mem_filter.mpr ⟨List.mem_of_getElem? (i := 1203) (by decide +kernel), by decide +kernel⟩
theorem qX9_244 : jm_CV "WeighedInBooksModel" 244 yX9_comesLaw cX9_comesLaw 3 (some .boolean) 1 := ⟨tw_1200, tw_1202, tw_28, tw_89, tw_1203, by decide, by decide, by decide +kernel⟩
theorem tw_1156 : Cond.methodLink "WeighedInBooksModel" 232 yX9_comesPerson ∈ jm_tb := List.mem_filter.mpr ⟨List.mem_of_getElem? (i := 1156) (by decide +kernel), by decide +kernel⟩
theorem tw_1158 : Cond.instanceMethod yX9_comesPerson ∈ jm_tb := List.mem_filter.mpr ⟨List.mem_of_getElem? (i := 1158) (by decide +kernel), by decide +kernel⟩
theorem tw_17 : Cond.selects yX9_comesPerson.cls yX9_comesPerson yX9_comesPerson ∈ jm_tb := List.mem_filter.mpr ⟨List.mem_of_getElem? (i := 17) (by decide +kernel), by decide +kernel⟩
theorem tw_1159 : Cond.code yX9_comesPerson cX9_comesPerson 2 (some .boolean) ∈ jm_tb := List.mem_filter.mpr ⟨List.mem_of_getElem? (i := 1159) (by decide +kernel), by decide +kernel⟩
theorem qX9_232 : jm_CV "WeighedInBooksModel" 232 yX9_comesPerson cX9_comesPerson 2 (some .boolean) 1 := ⟨tw_1156, tw_1158, tw_17, tw_89, tw_1159, by decide, by decide, by decide +kernel⟩
theorem tw_1192 : Cond.methodLink "WeighedInBooksModel" 238 yX9_comesReading ∈ jm_tb := List.mem_filter.mpr ⟨List.mem_of_getElem? (i := 1192) (by decide +kernel), by decide +kernel⟩
theorem tw_1194 : Cond.instanceMethod yX9_comesReading ∈ jm_tb := List.mem_filter.mpr ⟨List.mem_of_getElem? (i := 1194) (by decide +kernel), by decide +kernel⟩
theorem tw_26 : Cond.selects yX9_comesReading.cls yX9_comesReading yX9_comesReading ∈ jm_tb := List.mem_filter.mpr ⟨List.mem_of_getElem? (i := 26) (by decide +kernel), by decide +kernel⟩
theorem tw_1195 : Cond.code yX9_comesReading cX9_comesReading 4 (some .boolean) ∈ jm_tb := List.mem_filter.mpr ⟨List.mem_of_getElem? (i := 1195) (by decide +kernel), by decide +kernel⟩
theorem qX9_238 : jm_CV "WeighedInBooksModel" 238 yX9_comesReading cX9_comesReading 4 (some .boolean) 2 := ⟨tw_1192, tw_1194, tw_26, tw_89, tw_1195, by decide, by decide, by decide +kernel⟩
theorem tw_1204 : Cond.methodLink "WeighedInBooksModel" 247 yX9_comesWeeks ∈ jm_tb := List.mem_filter.mpr ⟨List.mem_of_getElem? (i := 1204) (by decide +kernel), by decide +kernel⟩
theorem tw_1206 : Cond.instanceMethod yX9_comesWeeks ∈ jm_tb := List.mem_filter.mpr ⟨List.mem_of_getElem? (i := 1206) (by decide +kernel), by decide +kernel⟩
theorem tw_29 : Cond.selects yX9_comesWeeks.cls yX9_comesWeeks yX9_comesWeeks ∈ jm_tb := List.mem_filter.mpr ⟨List.mem_of_getElem? (i := 29) (by decide +kernel), by decide +kernel⟩
theorem tw_1207 : Cond.code yX9_comesWeeks cX9_comesWeeks 2 (some .boolean) ∈ jm_tb := List.mem_filter.mpr ⟨List.mem_of_getElem? (i := 1207) (by decide +kernel), by decide +kernel⟩
theorem qX9_247 : jm_CV "WeighedInBooksModel" 247 yX9_comesWeeks cX9_comesWeeks 2 (some .boolean) 1 := ⟨tw_1204, tw_1206, tw_29, tw_89, tw_1207, by decide, by decide, by decide +kernel⟩
theorem tw_991 : Cond.fieldLink "WeighedInBooksModel" 263 "WeighedInBooksModel" "isKeeping" "Z" ∈ jm_tb := List.mem_filter.mpr ⟨List.mem_of_getElem? (i := 991) (by decide +kernel), by decide +kernel⟩
theorem fl_X9_263 : jm_Fl "WeighedInBooksModel" 263 7 33 := ⟨_, _, _, rfl, by decide, inX9, tw_991⟩
theorem tw_989 : Cond.fieldLink "WeighedInBooksModel" 73 "WeighedInBooksModel" "kept" "[I" ∈ jm_tb := List.mem_filter.mpr ⟨List.mem_of_getElem? (i := 989) (by decide +kernel), by decide +kernel⟩
theorem fl_X9_73 : jm_Fl "WeighedInBooksModel" 73 7 31 := ⟨_, _, _, rfl, by decide, inX9, tw_989⟩
theorem tw_992 : Cond.fieldLink "WeighedInBooksModel" 266 "WeighedInBooksModel" "cursor" "I" ∈ jm_tb := List.mem_filter.mpr ⟨List.mem_of_getElem? (i := 992) (by decide +kernel), by decide +kernel⟩
theorem fl_X9_266 : jm_Fl "WeighedInBooksModel" 266 7 34 := ⟨_, _, _, rfl, by decide, inX9, tw_992⟩
theorem fp_X9_266 : jm_Fp "WeighedInBooksModel" 266 7 34 .int := ⟨_, _, _, tyX9, rfl, by decide, inX9, tw_992, tyX9_ok, nmX9, rfl, by decide +kernel⟩
theorem fp_X9_263 : jm_Fp "WeighedInBooksModel" 263 7 33 .boolean := ⟨_, _, _, tyX9, rfl, by decide, inX9, tw_991, tyX9_ok, nmX9, rfl, by decide +kernel⟩
theorem tw_1144 : Cond.methodLink "WeighedInBooksModel" 269 yX9_passes ∈ jm_tb := List.mem_filter.mpr ⟨List.mem_of_getElem? (i := 1144) (by decide +kernel), by decide +kernel⟩
theorem tw_1146 : Cond.instanceMethod yX9_passes ∈ jm_tb := List.mem_filter.mpr ⟨List.mem_of_getElem? (i := 1146) (by decide +kernel), by decide +kernel⟩
theorem tw_14 : Cond.selects yX9_passes.cls yX9_passes yX9_passes ∈ jm_tb := List.mem_filter.mpr ⟨List.mem_of_getElem? (i := 14) (by decide +kernel), by decide +kernel⟩
theorem tw_1147 : Cond.code yX9_passes cX9_passes 3 none ∈ jm_tb := List.mem_filter.mpr ⟨List.mem_of_getElem? (i := 1147) (by decide +kernel), by decide +kernel⟩
theorem qX9_269 : jm_CV "WeighedInBooksModel" 269 yX9_passes cX9_passes 3 none 1 := ⟨tw_1144, tw_1146, tw_14, tw_89, tw_1147, by decide, by decide, by decide +kernel⟩
theorem tw_1148 : Cond.methodLink "WeighedInBooksModel" 273 yX9_passOne ∈ jm_tb := List.mem_filter.mpr ⟨List.mem_of_getElem? (i := 1148) (by decide +kernel), by decide +kernel⟩
theorem tw_1150 : Cond.instanceMethod yX9_passOne ∈ jm_tb := List.mem_filter.mpr ⟨List.mem_of_getElem? (i := 1150) (by decide +kernel), by decide +kernel⟩
theorem tw_15 : Cond.selects yX9_passOne.cls yX9_passOne yX9_passOne ∈ jm_tb := List.mem_filter.mpr ⟨List.mem_of_getElem? (i := 15) (by decide +kernel), by decide +kernel⟩
theorem tw_1151 : Cond.code yX9_passOne cX9_passOne 3 (some .int) ∈ jm_tb := List.mem_filter.mpr ⟨List.mem_of_getElem? (i := 1151) (by decide +kernel), by decide +kernel⟩
theorem qX9_273 : jm_CV "WeighedInBooksModel" 273 yX9_passOne cX9_passOne 3 (some .int) 1 := ⟨tw_1148, tw_1150, tw_15, tw_89, tw_1151, by decide, by decide, by decide +kernel⟩
theorem fp_X9_188 : jm_Fp "WeighedInBooksModel" 188 7 28 .int := ⟨_, _, _, tyX9, rfl, by decide, inX9, tw_986, tyX9_ok, nmX9, rfl, by decide +kernel⟩
theorem tw_1106 : Cond.methodLink "WeighedInBooksModel" 250 yX9_statement ∈ jm_tb := List.mem_filter.mpr ⟨List.mem_of_getElem? (i := 1106) (by decide +kernel), by decide +kernel⟩
theorem tw_1108 : Cond.instanceMethod yX9_statement ∈ jm_tb := List.mem_filter.mpr ⟨List.mem_of_getElem? (i := 1108) (by decide +kernel), by decide +kernel⟩
theorem tw_6 : Cond.selects yX9_statement.cls yX9_statement yX9_statement ∈ jm_tb := List.mem_filter.mpr ⟨List.mem_of_getElem? (i := 6) (by decide +kernel), by decide +kernel⟩
theorem tw_1109 : Cond.code yX9_statement cX9_statement 2 (some .boolean) ∈ jm_tb := List.mem_filter.mpr ⟨List.mem_of_getElem? (i := 1109) (by decide +kernel), by decide +kernel⟩
theorem qX9_250 : jm_CV "WeighedInBooksModel" 250 yX9_statement cX9_statement 2 (some .boolean) 0 := ⟨tw_1106, tw_1108, tw_6, tw_89, tw_1109, by decide, by decide, by decide +kernel⟩
theorem tw_1140 : Cond.methodLink "WeighedInBooksModel" 253 yX9_passesAll ∈ jm_tb := List.mem_filter.mpr ⟨List.mem_of_getElem? (i := 1140) (by decide +kernel), by decide +kernel⟩
theorem tw_1142 : Cond.instanceMethod yX9_passesAll ∈ jm_tb := List.mem_filter.mpr ⟨List.mem_of_getElem? (i := 1142) (by decide +kernel), by decide +kernel⟩
theorem tw_13 : Cond.selects yX9_passesAll.cls yX9_passesAll yX9_passesAll ∈ jm_tb := List.mem_filter.mpr ⟨List.mem_of_getElem? (i := 13) (by decide +kernel), by decide +kernel⟩
theorem tw_1143 : Cond.code yX9_passesAll cX9_passesAll 3 none ∈ jm_tb := List.mem_filter.mpr ⟨List.mem_of_getElem? (i := 1143) (by decide +kernel), by decide +kernel⟩
theorem qX9_253 : jm_CV "WeighedInBooksModel" 253 yX9_passesAll cX9_passesAll 3 none 2 := ⟨tw_1140, tw_1142, tw_13, tw_89, tw_1143, by decide, by decide, by decide +kernel⟩
theorem tw_1152 : Cond.methodLink "WeighedInBooksModel" 257 yX9_comesTold ∈ jm_tb := List.mem_filter.mpr ⟨List.mem_of_getElem? (i := 1152) (by decide +kernel), by decide +kernel⟩
theorem tw_1154 : Cond.instanceMethod yX9_comesTold ∈ jm_tb := List.mem_filter.mpr ⟨List.mem_of_getElem? (i := 1154) (by decide +kernel), by decide +kernel⟩
theorem tw_16 : Cond.selects yX9_comesTold.cls yX9_comesTold yX9_comesTold ∈ jm_tb := List.mem_filter.mpr ⟨List.mem_of_getElem? (i := 16) (by decide +kernel), by decide +kernel⟩
theorem tw_1155 : Cond.code yX9_comesTold cX9_comesTold 3 (some .boolean) ∈ jm_tb := List.mem_filter.mpr ⟨List.mem_of_getElem? (i := 1155) (by decide +kernel), by decide +kernel⟩
theorem qX9_257 : jm_CV "WeighedInBooksModel" 257 yX9_comesTold cX9_comesTold 3 (some .boolean) 1 := ⟨tw_1152, tw_1154, tw_16, tw_89, tw_1155, by decide, by decide, by decide +kernel⟩
theorem tw_994 : Cond.fieldLink "WeighedInBooksModel" 260 "WeighedInBooksModel" "backs" "I" ∈ jm_tb := List.mem_filter.mpr ⟨List.mem_of_getElem? (i := 994) (by decide +kernel), by decide +kernel⟩
theorem fp_X9_260 : jm_Fp "WeighedInBooksModel" 260 7 36 .int := ⟨_, _, _, tyX9, rfl, by decide, inX9, tw_994, tyX9_ok, nmX9, rfl, by decide +kernel⟩
theorem fp_X9_152 : jm_Fp "WeighedInBooksModel" 152 7 17 .boolean := ⟨_, _, _, tyX9, rfl, by decide, inX9, tw_975, tyX9_ok, nmX9, rfl, by decide +kernel⟩
theorem fl_X9_260 : jm_Fl "WeighedInBooksModel" 260 7 36 := ⟨_, _, _, rfl, by decide, inX9, tw_994⟩
theorem tw_993 : Cond.fieldLink "WeighedInBooksModel" 276 "WeighedInBooksModel" "firstBack" "I" ∈ jm_tb := List.mem_filter.mpr ⟨List.mem_of_getElem? (i := 993) (by decide +kernel), by decide +kernel⟩
theorem fl_X9_276 : jm_Fl "WeighedInBooksModel" 276 7 35 := ⟨_, _, _, rfl, by decide, inX9, tw_993⟩
theorem fp_X9_276 : jm_Fp "WeighedInBooksModel" 276 7 35 .int := ⟨_, _, _, tyX9, rfl, by decide, inX9, tw_993, tyX9_ok, nmX9, rfl, by decide +kernel⟩
theorem tw_990 : Cond.fieldLink "WeighedInBooksModel" 279 "WeighedInBooksModel" "hasImage" "Z" ∈ jm_tb := List.mem_filter.mpr ⟨List.mem_of_getElem? (i := 990) (by decide +kernel), by decide +kernel⟩
theorem fp_X9_279 : jm_Fp "WeighedInBooksModel" 279 7 32 .boolean := ⟨_, _, _, tyX9, rfl, by decide, inX9, tw_990, tyX9_ok, nmX9, rfl, by decide +kernel⟩
theorem fl_X9_279 : jm_Fl "WeighedInBooksModel" 279 7 32 := ⟨_, _, _, rfl, by decide, inX9, tw_990⟩
theorem tw_1247 : Cond.methodLink "WeighedInBooksModel" 282 yX9_manyRead ∈ jm_tb := List.mem_filter.mpr ⟨List.mem_of_getElem? (i := 1247) (by decide +kernel), by decide +kernel⟩
theorem tw_1249 : Cond.instanceMethod yX9_manyRead ∈ jm_tb := List.mem_filter.mpr ⟨List.mem_of_getElem? (i := 1249) (by decide +kernel), by decide +kernel⟩
theorem tw_35 : Cond.selects yX9_manyRead.cls yX9_manyRead yX9_manyRead ∈ jm_tb := List.mem_filter.mpr ⟨List.mem_of_getElem? (i := 35) (by decide +kernel), by decide +kernel⟩
theorem tw_1250 : Cond.code yX9_manyRead cX9_manyRead 4 (some .int) ∈ jm_tb := List.mem_filter.mpr ⟨List.mem_of_getElem? (i := 1250) (by decide +kernel), by decide +kernel⟩
theorem qX9_282 : jm_CV "WeighedInBooksModel" 282 yX9_manyRead cX9_manyRead 4 (some .int) 1 := ⟨tw_1247, tw_1249, tw_35, tw_89, tw_1250, by decide, by decide, by decide +kernel⟩
theorem tw_1251 : Cond.methodLink "WeighedInBooksModel" 285 yX9_manyIn ∈ jm_tb := List.mem_filter.mpr ⟨List.mem_of_getElem? (i := 1251) (by decide +kernel), by decide +kernel⟩
theorem tw_1252 : Cond.static yX9_manyIn ∈ jm_tb := List.mem_filter.mpr ⟨List.mem_of_getElem? (i := 1252) (by decide +kernel), by decide +kernel⟩
theorem tw_1253 : Cond.code yX9_manyIn cX9_manyIn 5 (some .int) ∈ jm_tb := List.mem_filter.mpr ⟨List.mem_of_getElem? (i := 1253) (by decide +kernel), by decide +kernel⟩
theorem qX9_285 : jm_CS "WeighedInBooksModel" 285 yX9_manyIn cX9_manyIn 5 (some .int) 3 := ⟨tw_1251, tw_1252, tw_89, tw_1253, by decide, by decide, by decide +kernel⟩
theorem tw_1258 : Cond.methodLink "WeighedInBooksModel" 289 yX9_isBook ∈ jm_tb := List.mem_filter.mpr ⟨List.mem_of_getElem? (i := 1258) (by decide +kernel), by decide +kernel⟩
theorem tw_1260 : Cond.instanceMethod yX9_isBook ∈ jm_tb := List.mem_filter.mpr ⟨List.mem_of_getElem? (i := 1260) (by decide +kernel), by decide +kernel⟩
theorem tw_36 : Cond.selects yX9_isBook.cls yX9_isBook yX9_isBook ∈ jm_tb := List.mem_filter.mpr ⟨List.mem_of_getElem? (i := 36) (by decide +kernel), by decide +kernel⟩
theorem tw_1261 : Cond.code yX9_isBook cX9_isBook 2 (some .boolean) ∈ jm_tb := List.mem_filter.mpr ⟨List.mem_of_getElem? (i := 1261) (by decide +kernel), by decide +kernel⟩
theorem qX9_289 : jm_CV "WeighedInBooksModel" 289 yX9_isBook cX9_isBook 2 (some .boolean) 1 := ⟨tw_1258, tw_1260, tw_36, tw_89, tw_1261, by decide, by decide, by decide +kernel⟩
theorem tw_1273 : Cond.methodLink "WeighedInBooksModel" 292 yX9_price ∈ jm_tb := List.mem_filter.mpr ⟨List.mem_of_getElem? (i := 1273) (by decide +kernel), by decide +kernel⟩
theorem tw_1275 : Cond.instanceMethod yX9_price ∈ jm_tb := List.mem_filter.mpr ⟨List.mem_of_getElem? (i := 1275) (by decide +kernel), by decide +kernel⟩
theorem tw_39 : Cond.selects yX9_price.cls yX9_price yX9_price ∈ jm_tb := List.mem_filter.mpr ⟨List.mem_of_getElem? (i := 39) (by decide +kernel), by decide +kernel⟩
theorem tw_1276 : Cond.code yX9_price cX9_price 3 (some .int) ∈ jm_tb := List.mem_filter.mpr ⟨List.mem_of_getElem? (i := 1276) (by decide +kernel), by decide +kernel⟩
theorem qX9_292 : jm_CV "WeighedInBooksModel" 292 yX9_price cX9_price 3 (some .int) 1 := ⟨tw_1273, tw_1275, tw_39, tw_89, tw_1276, by decide, by decide, by decide +kernel⟩
theorem tw_1289 : Cond.methodLink "WeighedInBooksModel" 295 yX9_isLetterTitle ∈ jm_tb := List.mem_filter.mpr ⟨List.mem_of_getElem? (i := 1289) (by decide +kernel), by decide +kernel⟩
theorem tw_1291 : Cond.instanceMethod yX9_isLetterTitle ∈ jm_tb := List.mem_filter.mpr ⟨List.mem_of_getElem? (i := 1291) (by decide +kernel), by decide +kernel⟩
theorem tw_40 : Cond.selects yX9_isLetterTitle.cls yX9_isLetterTitle yX9_isLetterTitle ∈ jm_tb := List.mem_filter.mpr ⟨List.mem_of_getElem? (i := 40) (by decide +kernel), by decide +kernel⟩
theorem tw_1292 : Cond.code yX9_isLetterTitle cX9_isLetterTitle 3 (some .boolean) ∈ jm_tb := List.mem_filter.mpr ⟨List.mem_of_getElem? (i := 1292) (by decide +kernel), by decide +kernel⟩
theorem qX9_295 : jm_CV "WeighedInBooksModel" 295 yX9_isLetterTitle cX9_isLetterTitle 3 (some .boolean) 1 := ⟨tw_1289, tw_1291, tw_40, tw_89, tw_1292, by decide, by decide, by decide +kernel⟩
theorem tw_1297 : Cond.methodLink "WeighedInBooksModel" 298 yX9_remembers ∈ jm_tb := List.mem_filter.mpr ⟨List.mem_of_getElem? (i := 1297) (by decide +kernel), by decide +kernel⟩
theorem tw_1299 : Cond.instanceMethod yX9_remembers ∈ jm_tb := List.mem_filter.mpr ⟨List.mem_of_getElem? (i := 1299) (by decide +kernel), by decide +kernel⟩
theorem tw_41 : Cond.selects yX9_remembers.cls yX9_remembers yX9_remembers ∈ jm_tb := List.mem_filter.mpr ⟨List.mem_of_getElem? (i := 41) (by decide +kernel), by decide +kernel⟩
theorem tw_1300 : Cond.code yX9_remembers cX9_remembers 1 none ∈ jm_tb := List.mem_filter.mpr ⟨List.mem_of_getElem? (i := 1300) (by decide +kernel), by decide +kernel⟩
theorem qX9_298 : jm_CV "WeighedInBooksModel" 298 yX9_remembers cX9_remembers 1 none 0 := ⟨tw_1297, tw_1299, tw_41, tw_89, tw_1300, by decide, by decide, by decide +kernel⟩
theorem tw_1329 : Cond.methodLink "WeighedInBooksModel" 301 yX9_areTwo ∈ jm_tb := List.mem_filter.mpr ⟨List.mem_of_getElem? (i := 1329) (by decide +kernel), by decide +kernel⟩
theorem tw_1331 : Cond.instanceMethod yX9_areTwo ∈ jm_tb := List.mem_filter.mpr ⟨List.mem_of_getElem? (i := 1331) (by decide +kernel), by decide +kernel⟩
theorem tw_42 : Cond.selects yX9_areTwo.cls yX9_areTwo yX9_areTwo ∈ jm_tb := List.mem_filter.mpr ⟨List.mem_of_getElem? (i := 42) (by decide +kernel), by decide +kernel⟩
theorem tw_1332 : Cond.code yX9_areTwo cX9_areTwo 3 (some .boolean) ∈ jm_tb := List.mem_filter.mpr ⟨List.mem_of_getElem? (i := 1332) (by decide +kernel), by decide +kernel⟩
theorem qX9_301 : jm_CV "WeighedInBooksModel" 301 yX9_areTwo cX9_areTwo 3 (some .boolean) 2 := ⟨tw_1329, tw_1331, tw_42, tw_89, tw_1332, by decide, by decide, by decide +kernel⟩
theorem tw_1353 : Cond.methodLink "WeighedInBooksModel" 304 yX9_lower ∈ jm_tb := List.mem_filter.mpr ⟨List.mem_of_getElem? (i := 1353) (by decide +kernel), by decide +kernel⟩
theorem tw_1355 : Cond.instanceMethod yX9_lower ∈ jm_tb := List.mem_filter.mpr ⟨List.mem_of_getElem? (i := 1355) (by decide +kernel), by decide +kernel⟩
theorem tw_48 : Cond.selects yX9_lower.cls yX9_lower yX9_lower ∈ jm_tb := List.mem_filter.mpr ⟨List.mem_of_getElem? (i := 48) (by decide +kernel), by decide +kernel⟩
theorem tw_1356 : Cond.code yX9_lower cX9_lower 2 (some .int) ∈ jm_tb := List.mem_filter.mpr ⟨List.mem_of_getElem? (i := 1356) (by decide +kernel), by decide +kernel⟩
theorem qX9_304 : jm_CV "WeighedInBooksModel" 304 yX9_lower cX9_lower 2 (some .int) 1 := ⟨tw_1353, tw_1355, tw_48, tw_89, tw_1356, by decide, by decide, by decide +kernel⟩
theorem tw_1366 : Cond.methodLink "WeighedInBooksModel" 307 yX9_minds ∈ jm_tb := List.mem_filter.mpr ⟨List.mem_of_getElem? (i := 1366) (by decide +kernel), by decide +kernel⟩
theorem tw_1368 : Cond.instanceMethod yX9_minds ∈ jm_tb := List.mem_filter.mpr ⟨List.mem_of_getElem? (i := 1368) (by decide +kernel), by decide +kernel⟩
theorem tw_49 : Cond.selects yX9_minds.cls yX9_minds yX9_minds ∈ jm_tb := List.mem_filter.mpr ⟨List.mem_of_getElem? (i := 49) (by decide +kernel), by decide +kernel⟩
theorem tw_1369 : Cond.code yX9_minds cX9_minds 1 none ∈ jm_tb := List.mem_filter.mpr ⟨List.mem_of_getElem? (i := 1369) (by decide +kernel), by decide +kernel⟩
theorem qX9_307 : jm_CV "WeighedInBooksModel" 307 yX9_minds cX9_minds 1 none 0 := ⟨tw_1366, tw_1368, tw_49, tw_89, tw_1369, by decide, by decide, by decide +kernel⟩
theorem tw_1370 : Cond.methodLink "WeighedInBooksModel" 310 yX9_forgets ∈ jm_tb := List.mem_filter.mpr ⟨List.mem_of_getElem? (i := 1370) (by decide +kernel), by decide +kernel⟩
theorem tw_1372 : Cond.instanceMethod yX9_forgets ∈ jm_tb := List.mem_filter.mpr ⟨List.mem_of_getElem? (i := 1372) (by decide +kernel), by decide +kernel⟩
theorem tw_50 : Cond.selects yX9_forgets.cls yX9_forgets yX9_forgets ∈ jm_tb := List.mem_filter.mpr ⟨List.mem_of_getElem? (i := 50) (by decide +kernel), by decide +kernel⟩
theorem tw_1373 : Cond.code yX9_forgets cX9_forgets 1 none ∈ jm_tb := List.mem_filter.mpr ⟨List.mem_of_getElem? (i := 1373) (by decide +kernel), by decide +kernel⟩
theorem qX9_310 : jm_CV "WeighedInBooksModel" 310 yX9_forgets cX9_forgets 1 none 0 := ⟨tw_1370, tw_1372, tw_50, tw_89, tw_1373, by decide, by decide, by decide +kernel⟩
theorem tw_1386 : Cond.methodLink "WeighedInBooksModel" 313 yX9_comesDown ∈ jm_tb := List.mem_filter.mpr ⟨List.mem_of_getElem? (i := 1386) (by decide +kernel), by decide +kernel⟩
theorem tw_1388 : Cond.instanceMethod yX9_comesDown ∈ jm_tb := List.mem_filter.mpr ⟨List.mem_of_getElem? (i := 1388) (by decide +kernel), by decide +kernel⟩
theorem tw_52 : Cond.selects yX9_comesDown.cls yX9_comesDown yX9_comesDown ∈ jm_tb := List.mem_filter.mpr ⟨List.mem_of_getElem? (i := 52) (by decide +kernel), by decide +kernel⟩
theorem tw_1389 : Cond.code yX9_comesDown cX9_comesDown 3 (some .boolean) ∈ jm_tb := List.mem_filter.mpr ⟨List.mem_of_getElem? (i := 1389) (by decide +kernel), by decide +kernel⟩
theorem qX9_313 : jm_CV "WeighedInBooksModel" 313 yX9_comesDown cX9_comesDown 3 (some .boolean) 2 := ⟨tw_1386, tw_1388, tw_52, tw_89, tw_1389, by decide, by decide, by decide +kernel⟩
theorem tw_1382 : Cond.methodLink "WeighedInBooksModel" 316 yX9_whenFrom ∈ jm_tb := List.mem_filter.mpr ⟨List.mem_of_getElem? (i := 1382) (by decide +kernel), by decide +kernel⟩
theorem tw_1384 : Cond.instanceMethod yX9_whenFrom ∈ jm_tb := List.mem_filter.mpr ⟨List.mem_of_getElem? (i := 1384) (by decide +kernel), by decide +kernel⟩
theorem tw_51 : Cond.selects yX9_whenFrom.cls yX9_whenFrom yX9_whenFrom ∈ jm_tb := List.mem_filter.mpr ⟨List.mem_of_getElem? (i := 51) (by decide +kernel), by decide +kernel⟩
theorem tw_1385 : Cond.code yX9_whenFrom cX9_whenFrom 4 (some .int) ∈ jm_tb := List.mem_filter.mpr ⟨List.mem_of_getElem? (i := 1385) (by decide +kernel), by decide +kernel⟩
theorem qX9_316 : jm_CV "WeighedInBooksModel" 316 yX9_whenFrom cX9_whenFrom 4 (some .int) 2 := ⟨tw_1382, tw_1384, tw_51, tw_89, tw_1385, by decide, by decide, by decide +kernel⟩
theorem tw_995 : Cond.fieldLink "WeighedInBooksModel" 76 "WeighedInBooksModel" "wasDown" "[I" ∈ jm_tb := List.mem_filter.mpr ⟨List.mem_of_getElem? (i := 995) (by decide +kernel), by decide +kernel⟩
theorem fl_X9_76 : jm_Fl "WeighedInBooksModel" 76 7 37 := ⟨_, _, _, rfl, by decide, inX9, tw_995⟩
theorem tw_1394 : Cond.methodLink "WeighedInBooksModel" 319 yX9_marksDown ∈ jm_tb := List.mem_filter.mpr ⟨List.mem_of_getElem? (i := 1394) (by decide +kernel), by decide +kernel⟩
theorem tw_1396 : Cond.instanceMethod yX9_marksDown ∈ jm_tb := List.mem_filter.mpr ⟨List.mem_of_getElem? (i := 1396) (by decide +kernel), by decide +kernel⟩
theorem tw_53 : Cond.selects yX9_marksDown.cls yX9_marksDown yX9_marksDown ∈ jm_tb := List.mem_filter.mpr ⟨List.mem_of_getElem? (i := 53) (by decide +kernel), by decide +kernel⟩
theorem tw_1397 : Cond.code yX9_marksDown cX9_marksDown 3 none ∈ jm_tb := List.mem_filter.mpr ⟨List.mem_of_getElem? (i := 1397) (by decide +kernel), by decide +kernel⟩
theorem qX9_319 : jm_CV "WeighedInBooksModel" 319 yX9_marksDown cX9_marksDown 3 none 0 := ⟨tw_1394, tw_1396, tw_53, tw_89, tw_1397, by decide, by decide, by decide +kernel⟩
theorem tw_1398 : Cond.methodLink "WeighedInBooksModel" 322 yX9_firstDown ∈ jm_tb := List.mem_filter.mpr ⟨List.mem_of_getElem? (i := 1398) (by decide +kernel), by decide +kernel⟩
theorem tw_1400 : Cond.instanceMethod yX9_firstDown ∈ jm_tb := List.mem_filter.mpr ⟨List.mem_of_getElem? (i := 1400) (by decide +kernel), by decide +kernel⟩
theorem tw_54 : Cond.selects yX9_firstDown.cls yX9_firstDown yX9_firstDown ∈ jm_tb := List.mem_filter.mpr ⟨List.mem_of_getElem? (i := 54) (by decide +kernel), by decide +kernel⟩
theorem tw_1401 : Cond.code yX9_firstDown cX9_firstDown 3 (some .int) ∈ jm_tb := List.mem_filter.mpr ⟨List.mem_of_getElem? (i := 1401) (by decide +kernel), by decide +kernel⟩
theorem qX9_322 : jm_CV "WeighedInBooksModel" 322 yX9_firstDown cX9_firstDown 3 (some .int) 0 := ⟨tw_1398, tw_1400, tw_54, tw_89, tw_1401, by decide, by decide, by decide +kernel⟩
theorem tw_1414 : Cond.methodLink "WeighedInBooksModel" 325 yX9_pricesOf ∈ jm_tb := List.mem_filter.mpr ⟨List.mem_of_getElem? (i := 1414) (by decide +kernel), by decide +kernel⟩
theorem tw_1416 : Cond.instanceMethod yX9_pricesOf ∈ jm_tb := List.mem_filter.mpr ⟨List.mem_of_getElem? (i := 1416) (by decide +kernel), by decide +kernel⟩
theorem tw_57 : Cond.selects yX9_pricesOf.cls yX9_pricesOf yX9_pricesOf ∈ jm_tb := List.mem_filter.mpr ⟨List.mem_of_getElem? (i := 57) (by decide +kernel), by decide +kernel⟩
theorem tw_1417 : Cond.code yX9_pricesOf cX9_pricesOf 4 (some .int) ∈ jm_tb := List.mem_filter.mpr ⟨List.mem_of_getElem? (i := 1417) (by decide +kernel), by decide +kernel⟩
theorem qX9_325 : jm_CV "WeighedInBooksModel" 325 yX9_pricesOf cX9_pricesOf 4 (some .int) 1 := ⟨tw_1414, tw_1416, tw_57, tw_89, tw_1417, by decide, by decide, by decide +kernel⟩
theorem tw_1406 : Cond.methodLink "WeighedInBooksModel" 328 yX9_ownedBy ∈ jm_tb := List.mem_filter.mpr ⟨List.mem_of_getElem? (i := 1406) (by decide +kernel), by decide +kernel⟩
theorem tw_1408 : Cond.instanceMethod yX9_ownedBy ∈ jm_tb := List.mem_filter.mpr ⟨List.mem_of_getElem? (i := 1408) (by decide +kernel), by decide +kernel⟩
theorem tw_55 : Cond.selects yX9_ownedBy.cls yX9_ownedBy yX9_ownedBy ∈ jm_tb := List.mem_filter.mpr ⟨List.mem_of_getElem? (i := 55) (by decide +kernel), by decide +kernel⟩
theorem tw_1409 : Cond.code yX9_ownedBy cX9_ownedBy 4 (some .int) ∈ jm_tb := List.mem_filter.mpr ⟨List.mem_of_getElem? (i := 1409) (by decide +kernel), by decide +kernel⟩
theorem qX9_328 : jm_CV "WeighedInBooksModel" 328 yX9_ownedBy cX9_ownedBy 4 (some .int) 1 := ⟨tw_1406, tw_1408, tw_55, tw_89, tw_1409, by decide, by decide, by decide +kernel⟩
theorem tw_1410 : Cond.methodLink "WeighedInBooksModel" 331 yX9_isBetter ∈ jm_tb := List.mem_filter.mpr ⟨List.mem_of_getElem? (i := 1410) (by decide +kernel), by decide +kernel⟩
theorem tw_1412 : Cond.instanceMethod yX9_isBetter ∈ jm_tb := List.mem_filter.mpr ⟨List.mem_of_getElem? (i := 1412) (by decide +kernel), by decide +kernel⟩
theorem tw_56 : Cond.selects yX9_isBetter.cls yX9_isBetter yX9_isBetter ∈ jm_tb := List.mem_filter.mpr ⟨List.mem_of_getElem? (i := 56) (by decide +kernel), by decide +kernel⟩
theorem tw_1413 : Cond.code yX9_isBetter cX9_isBetter 3 (some .boolean) ∈ jm_tb := List.mem_filter.mpr ⟨List.mem_of_getElem? (i := 1413) (by decide +kernel), by decide +kernel⟩
theorem qX9_331 : jm_CV "WeighedInBooksModel" 331 yX9_isBetter cX9_isBetter 3 (some .boolean) 2 := ⟨tw_1410, tw_1412, tw_56, tw_89, tw_1413, by decide, by decide, by decide +kernel⟩
theorem tw_996 : Cond.fieldLink "WeighedInBooksModel" 79 "WeighedInBooksModel" "most" "[I" ∈ jm_tb := List.mem_filter.mpr ⟨List.mem_of_getElem? (i := 996) (by decide +kernel), by decide +kernel⟩
theorem fl_X9_79 : jm_Fl "WeighedInBooksModel" 79 7 38 := ⟨_, _, _, rfl, by decide, inX9, tw_996⟩
theorem tw_1434 : Cond.methodLink "WeighedInBooksModel" 334 yX9_leastIn ∈ jm_tb := List.mem_filter.mpr ⟨List.mem_of_getElem? (i := 1434) (by decide +kernel), by decide +kernel⟩
theorem tw_1435 : Cond.static yX9_leastIn ∈ jm_tb := List.mem_filter.mpr ⟨List.mem_of_getElem? (i := 1435) (by decide +kernel), by decide +kernel⟩
theorem tw_1436 : Cond.code yX9_leastIn cX9_leastIn 2 (some .int) ∈ jm_tb := List.mem_filter.mpr ⟨List.mem_of_getElem? (i := 1436) (by decide +kernel), by decide +kernel⟩
theorem qX9_334 : jm_CS "WeighedInBooksModel" 334 yX9_leastIn cX9_leastIn 2 (some .int) 1 := ⟨tw_1434, tw_1435, tw_89, tw_1436, by decide, by decide, by decide +kernel⟩
theorem tw_1441 : Cond.methodLink "WeighedInBooksModel" 337 yX9_partnerFor ∈ jm_tb := List.mem_filter.mpr ⟨List.mem_of_getElem? (i := 1441) (by decide +kernel), by decide +kernel⟩
theorem tw_1443 : Cond.instanceMethod yX9_partnerFor ∈ jm_tb := List.mem_filter.mpr ⟨List.mem_of_getElem? (i := 1443) (by decide +kernel), by decide +kernel⟩
theorem tw_60 : Cond.selects yX9_partnerFor.cls yX9_partnerFor yX9_partnerFor ∈ jm_tb := List.mem_filter.mpr ⟨List.mem_of_getElem? (i := 60) (by decide +kernel), by decide +kernel⟩
theorem tw_1444 : Cond.code yX9_partnerFor cX9_partnerFor 5 (some .int) ∈ jm_tb := List.mem_filter.mpr ⟨List.mem_of_getElem? (i := 1444) (by decide +kernel), by decide +kernel⟩
theorem qX9_337 : jm_CV "WeighedInBooksModel" 337 yX9_partnerFor cX9_partnerFor 5 (some .int) 3 := ⟨tw_1441, tw_1443, tw_60, tw_89, tw_1444, by decide, by decide, by decide +kernel⟩
theorem tw_997 : Cond.fieldLink "WeighedInBooksModel" 82 "WeighedInBooksModel" "partner" "[I" ∈ jm_tb := List.mem_filter.mpr ⟨List.mem_of_getElem? (i := 997) (by decide +kernel), by decide +kernel⟩
theorem fl_X9_82 : jm_Fl "WeighedInBooksModel" 82 7 39 := ⟨_, _, _, rfl, by decide, inX9, tw_997⟩
theorem tw_1430 : Cond.methodLink "WeighedInBooksModel" 340 yX9_findMost ∈ jm_tb := List.mem_filter.mpr ⟨List.mem_of_getElem? (i := 1430) (by decide +kernel), by decide +kernel⟩
theorem tw_1432 : Cond.instanceMethod yX9_findMost ∈ jm_tb := List.mem_filter.mpr ⟨List.mem_of_getElem? (i := 1432) (by decide +kernel), by decide +kernel⟩
theorem tw_58 : Cond.selects yX9_findMost.cls yX9_findMost yX9_findMost ∈ jm_tb := List.mem_filter.mpr ⟨List.mem_of_getElem? (i := 58) (by decide +kernel), by decide +kernel⟩
theorem tw_1433 : Cond.code yX9_findMost cX9_findMost 5 none ∈ jm_tb := List.mem_filter.mpr ⟨List.mem_of_getElem? (i := 1433) (by decide +kernel), by decide +kernel⟩
theorem qX9_340 : jm_CV "WeighedInBooksModel" 340 yX9_findMost cX9_findMost 5 none 0 := ⟨tw_1430, tw_1432, tw_58, tw_89, tw_1433, by decide, by decide, by decide +kernel⟩
theorem tw_1437 : Cond.methodLink "WeighedInBooksModel" 343 yX9_findPartners ∈ jm_tb := List.mem_filter.mpr ⟨List.mem_of_getElem? (i := 1437) (by decide +kernel), by decide +kernel⟩
theorem tw_1439 : Cond.instanceMethod yX9_findPartners ∈ jm_tb := List.mem_filter.mpr ⟨List.mem_of_getElem? (i := 1439) (by decide +kernel), by decide +kernel⟩
theorem tw_59 : Cond.selects yX9_findPartners.cls yX9_findPartners yX9_findPartners ∈ jm_tb := List.mem_filter.mpr ⟨List.mem_of_getElem? (i := 59) (by decide +kernel), by decide +kernel⟩
theorem tw_1440 : Cond.code yX9_findPartners cX9_findPartners 4 none ∈ jm_tb := List.mem_filter.mpr ⟨List.mem_of_getElem? (i := 1440) (by decide +kernel), by decide +kernel⟩
theorem qX9_343 : jm_CV "WeighedInBooksModel" 343 yX9_findPartners cX9_findPartners 4 none 0 := ⟨tw_1437, tw_1439, tw_59, tw_89, tw_1440, by decide, by decide, by decide +kernel⟩
theorem tw_1453 : Cond.methodLink "WeighedInBooksModel" 346 yX9_isHeavier ∈ jm_tb := List.mem_filter.mpr ⟨List.mem_of_getElem? (i := 1453) (by decide +kernel), by decide +kernel⟩
theorem tw_1455 : Cond.instanceMethod yX9_isHeavier ∈ jm_tb := List.mem_filter.mpr ⟨List.mem_of_getElem? (i := 1455) (by decide +kernel), by decide +kernel⟩
theorem tw_62 : Cond.selects yX9_isHeavier.cls yX9_isHeavier yX9_isHeavier ∈ jm_tb := List.mem_filter.mpr ⟨List.mem_of_getElem? (i := 62) (by decide +kernel), by decide +kernel⟩
theorem tw_1456 : Cond.code yX9_isHeavier cX9_isHeavier 7 (some .boolean) ∈ jm_tb := List.mem_filter.mpr ⟨List.mem_of_getElem? (i := 1456) (by decide +kernel), by decide +kernel⟩
theorem qX9_346 : jm_CV "WeighedInBooksModel" 346 yX9_isHeavier cX9_isHeavier 7 (some .boolean) 4 := ⟨tw_1453, tw_1455, tw_62, tw_89, tw_1456, by decide, by decide, by decide +kernel⟩
theorem tw_1449 : Cond.methodLink "WeighedInBooksModel" 350 yX9_heavierThan ∈ jm_tb := List.mem_filter.mpr ⟨List.mem_of_getElem? (i := 1449) (by decide +kernel), by decide +kernel⟩
theorem tw_1451 : Cond.instanceMethod yX9_heavierThan ∈ jm_tb := List.mem_filter.mpr ⟨List.mem_of_getElem? (i := 1451) (by decide +kernel), by decide +kernel⟩
theorem tw_61 : Cond.selects yX9_heavierThan.cls yX9_heavierThan yX9_heavierThan ∈ jm_tb := List.mem_filter.mpr ⟨List.mem_of_getElem? (i := 61) (by decide +kernel), by decide +kernel⟩
theorem tw_1452 : Cond.code yX9_heavierThan cX9_heavierThan 6 (some .int) ∈ jm_tb := List.mem_filter.mpr ⟨List.mem_of_getElem? (i := 1452) (by decide +kernel), by decide +kernel⟩
theorem qX9_350 : jm_CV "WeighedInBooksModel" 350 yX9_heavierThan cX9_heavierThan 6 (some .int) 3 := ⟨tw_1449, tw_1451, tw_61, tw_89, tw_1452, by decide, by decide, by decide +kernel⟩
theorem tw_999 : Cond.fieldLink "WeighedInBooksModel" 353 "WeighedInBooksModel" "rowMany" "I" ∈ jm_tb := List.mem_filter.mpr ⟨List.mem_of_getElem? (i := 999) (by decide +kernel), by decide +kernel⟩
theorem fl_X9_353 : jm_Fl "WeighedInBooksModel" 353 7 41 := ⟨_, _, _, rfl, by decide, inX9, tw_999⟩
theorem tw_998 : Cond.fieldLink "WeighedInBooksModel" 85 "WeighedInBooksModel" "row" "[I" ∈ jm_tb := List.mem_filter.mpr ⟨List.mem_of_getElem? (i := 998) (by decide +kernel), by decide +kernel⟩
theorem fl_X9_85 : jm_Fl "WeighedInBooksModel" 85 7 40 := ⟨_, _, _, rfl, by decide, inX9, tw_998⟩
theorem tw_1461 : Cond.methodLink "WeighedInBooksModel" 356 yX9_wasSo ∈ jm_tb := List.mem_filter.mpr ⟨List.mem_of_getElem? (i := 1461) (by decide +kernel), by decide +kernel⟩
theorem tw_1463 : Cond.instanceMethod yX9_wasSo ∈ jm_tb := List.mem_filter.mpr ⟨List.mem_of_getElem? (i := 1463) (by decide +kernel), by decide +kernel⟩
theorem tw_63 : Cond.selects yX9_wasSo.cls yX9_wasSo yX9_wasSo ∈ jm_tb := List.mem_filter.mpr ⟨List.mem_of_getElem? (i := 63) (by decide +kernel), by decide +kernel⟩
theorem tw_1464 : Cond.code yX9_wasSo cX9_wasSo 4 (some .boolean) ∈ jm_tb := List.mem_filter.mpr ⟨List.mem_of_getElem? (i := 1464) (by decide +kernel), by decide +kernel⟩
theorem qX9_356 : jm_CV "WeighedInBooksModel" 356 yX9_wasSo cX9_wasSo 4 (some .boolean) 2 := ⟨tw_1461, tw_1463, tw_63, tw_89, tw_1464, by decide, by decide, by decide +kernel⟩
theorem tw_1473 : Cond.methodLink "WeighedInBooksModel" 359 yX9_gives ∈ jm_tb := List.mem_filter.mpr ⟨List.mem_of_getElem? (i := 1473) (by decide +kernel), by decide +kernel⟩
theorem tw_1475 : Cond.instanceMethod yX9_gives ∈ jm_tb := List.mem_filter.mpr ⟨List.mem_of_getElem? (i := 1475) (by decide +kernel), by decide +kernel⟩
theorem tw_65 : Cond.selects yX9_gives.cls yX9_gives yX9_gives ∈ jm_tb := List.mem_filter.mpr ⟨List.mem_of_getElem? (i := 65) (by decide +kernel), by decide +kernel⟩
theorem tw_1476 : Cond.code yX9_gives cX9_gives 3 none ∈ jm_tb := List.mem_filter.mpr ⟨List.mem_of_getElem? (i := 1476) (by decide +kernel), by decide +kernel⟩
theorem qX9_359 : jm_CV "WeighedInBooksModel" 359 yX9_gives cX9_gives 3 none 1 := ⟨tw_1473, tw_1475, tw_65, tw_89, tw_1476, by decide, by decide, by decide +kernel⟩
theorem tw_1000 : Cond.fieldLink "WeighedInBooksModel" 88 "WeighedInBooksModel" "ends" "[I" ∈ jm_tb := List.mem_filter.mpr ⟨List.mem_of_getElem? (i := 1000) (by decide +kernel), by decide +kernel⟩
theorem fl_X9_88 : jm_Fl "WeighedInBooksModel" 88 7 42 := ⟨_, _, _, rfl, by decide, inX9, tw_1000⟩
theorem tw_1469 : Cond.methodLink "WeighedInBooksModel" 362 yX9_findEnds ∈ jm_tb := List.mem_filter.mpr ⟨List.mem_of_getElem? (i := 1469) (by decide +kernel), by decide +kernel⟩
theorem tw_1471 : Cond.instanceMethod yX9_findEnds ∈ jm_tb := List.mem_filter.mpr ⟨List.mem_of_getElem? (i := 1471) (by decide +kernel), by decide +kernel⟩
theorem tw_64 : Cond.selects yX9_findEnds.cls yX9_findEnds yX9_findEnds ∈ jm_tb := List.mem_filter.mpr ⟨List.mem_of_getElem? (i := 64) (by decide +kernel), by decide +kernel⟩
theorem tw_1472 : Cond.code yX9_findEnds cX9_findEnds 5 none ∈ jm_tb := List.mem_filter.mpr ⟨List.mem_of_getElem? (i := 1472) (by decide +kernel), by decide +kernel⟩
theorem qX9_362 : jm_CV "WeighedInBooksModel" 362 yX9_findEnds cX9_findEnds 5 none 3 := ⟨tw_1469, tw_1471, tw_64, tw_89, tw_1472, by decide, by decide, by decide +kernel⟩
theorem tw_1489 : Cond.methodLink "WeighedInBooksModel" 365 yX9_divisor ∈ jm_tb := List.mem_filter.mpr ⟨List.mem_of_getElem? (i := 1489) (by decide +kernel), by decide +kernel⟩
theorem tw_1490 : Cond.static yX9_divisor ∈ jm_tb := List.mem_filter.mpr ⟨List.mem_of_getElem? (i := 1490) (by decide +kernel), by decide +kernel⟩
theorem tw_1491 : Cond.code yX9_divisor cX9_divisor 10 (some .long) ∈ jm_tb := List.mem_filter.mpr ⟨List.mem_of_getElem? (i := 1491) (by decide +kernel), by decide +kernel⟩
theorem qX9_365 : jm_CS "WeighedInBooksModel" 365 yX9_divisor cX9_divisor 10 (some .long) 2 := ⟨tw_1489, tw_1490, tw_89, tw_1491, by decide, by decide, by decide +kernel⟩
theorem tw_1486 : Cond.methodLink "WeighedInBooksModel" 373 yX9_partOf ∈ jm_tb := List.mem_filter.mpr ⟨List.mem_of_getElem? (i := 1486) (by decide +kernel), by decide +kernel⟩
theorem tw_1487 : Cond.static yX9_partOf ∈ jm_tb := List.mem_filter.mpr ⟨List.mem_of_getElem? (i := 1487) (by decide +kernel), by decide +kernel⟩
theorem tw_1488 : Cond.code yX9_partOf cX9_partOf 5 (some .long) ∈ jm_tb := List.mem_filter.mpr ⟨List.mem_of_getElem? (i := 1488) (by decide +kernel), by decide +kernel⟩
theorem qX9_373 : jm_CS "WeighedInBooksModel" 373 yX9_partOf cX9_partOf 5 (some .long) 3 := ⟨tw_1486, tw_1487, tw_89, tw_1488, by decide, by decide, by decide +kernel⟩
theorem tw_1481 : Cond.methodLink "WeighedInBooksModel" 369 yX9_lowestOf ∈ jm_tb := List.mem_filter.mpr ⟨List.mem_of_getElem? (i := 1481) (by decide +kernel), by decide +kernel⟩
theorem tw_1483 : Cond.instanceMethod yX9_lowestOf ∈ jm_tb := List.mem_filter.mpr ⟨List.mem_of_getElem? (i := 1483) (by decide +kernel), by decide +kernel⟩
theorem tw_66 : Cond.selects yX9_lowestOf.cls yX9_lowestOf yX9_lowestOf ∈ jm_tb := List.mem_filter.mpr ⟨List.mem_of_getElem? (i := 66) (by decide +kernel), by decide +kernel⟩
theorem tw_1484 : Cond.code yX9_lowestOf cX9_lowestOf 2 (some .long) ∈ jm_tb := List.mem_filter.mpr ⟨List.mem_of_getElem? (i := 1484) (by decide +kernel), by decide +kernel⟩
theorem qX9_369 : jm_CV "WeighedInBooksModel" 369 yX9_lowestOf cX9_lowestOf 2 (some .long) 1 := ⟨tw_1481, tw_1483, tw_66, tw_89, tw_1484, by decide, by decide, by decide +kernel⟩
theorem tw_1500 : Cond.methodLink "WeighedInBooksModel" 377 yX9_ofRank ∈ jm_tb := List.mem_filter.mpr ⟨List.mem_of_getElem? (i := 1500) (by decide +kernel), by decide +kernel⟩
theorem tw_1502 : Cond.instanceMethod yX9_ofRank ∈ jm_tb := List.mem_filter.mpr ⟨List.mem_of_getElem? (i := 1502) (by decide +kernel), by decide +kernel⟩
theorem tw_68 : Cond.selects yX9_ofRank.cls yX9_ofRank yX9_ofRank ∈ jm_tb := List.mem_filter.mpr ⟨List.mem_of_getElem? (i := 68) (by decide +kernel), by decide +kernel⟩
theorem tw_1503 : Cond.code yX9_ofRank cX9_ofRank 3 (some .int) ∈ jm_tb := List.mem_filter.mpr ⟨List.mem_of_getElem? (i := 1503) (by decide +kernel), by decide +kernel⟩
theorem qX9_377 : jm_CV "WeighedInBooksModel" 377 yX9_ofRank cX9_ofRank 3 (some .int) 1 := ⟨tw_1500, tw_1502, tw_68, tw_89, tw_1503, by decide, by decide, by decide +kernel⟩
theorem tw_1524 : Cond.methodLink "WeighedInBooksModel" 380 yX9_manyOn ∈ jm_tb := List.mem_filter.mpr ⟨List.mem_of_getElem? (i := 1524) (by decide +kernel), by decide +kernel⟩
theorem tw_1526 : Cond.instanceMethod yX9_manyOn ∈ jm_tb := List.mem_filter.mpr ⟨List.mem_of_getElem? (i := 1526) (by decide +kernel), by decide +kernel⟩
theorem tw_72 : Cond.selects yX9_manyOn.cls yX9_manyOn yX9_manyOn ∈ jm_tb := List.mem_filter.mpr ⟨List.mem_of_getElem? (i := 72) (by decide +kernel), by decide +kernel⟩
theorem tw_1527 : Cond.code yX9_manyOn cX9_manyOn 5 (some .int) ∈ jm_tb := List.mem_filter.mpr ⟨List.mem_of_getElem? (i := 1527) (by decide +kernel), by decide +kernel⟩
theorem qX9_380 : jm_CV "WeighedInBooksModel" 380 yX9_manyOn cX9_manyOn 5 (some .int) 2 := ⟨tw_1524, tw_1526, tw_72, tw_89, tw_1527, by decide, by decide, by decide +kernel⟩
theorem tw_1512 : Cond.methodLink "WeighedInBooksModel" 383 yX9_kindsOn ∈ jm_tb := List.mem_filter.mpr ⟨List.mem_of_getElem? (i := 1512) (by decide +kernel), by decide +kernel⟩
theorem tw_1514 : Cond.instanceMethod yX9_kindsOn ∈ jm_tb := List.mem_filter.mpr ⟨List.mem_of_getElem? (i := 1514) (by decide +kernel), by decide +kernel⟩
theorem tw_69 : Cond.selects yX9_kindsOn.cls yX9_kindsOn yX9_kindsOn ∈ jm_tb := List.mem_filter.mpr ⟨List.mem_of_getElem? (i := 69) (by decide +kernel), by decide +kernel⟩
theorem tw_1515 : Cond.code yX9_kindsOn cX9_kindsOn 4 (some .int) ∈ jm_tb := List.mem_filter.mpr ⟨List.mem_of_getElem? (i := 1515) (by decide +kernel), by decide +kernel⟩
theorem qX9_383 : jm_CV "WeighedInBooksModel" 383 yX9_kindsOn cX9_kindsOn 4 (some .int) 1 := ⟨tw_1512, tw_1514, tw_69, tw_89, tw_1515, by decide, by decide, by decide +kernel⟩
theorem tw_1516 : Cond.methodLink "WeighedInBooksModel" 386 yX9_pricesOn ∈ jm_tb := List.mem_filter.mpr ⟨List.mem_of_getElem? (i := 1516) (by decide +kernel), by decide +kernel⟩
theorem tw_1518 : Cond.instanceMethod yX9_pricesOn ∈ jm_tb := List.mem_filter.mpr ⟨List.mem_of_getElem? (i := 1518) (by decide +kernel), by decide +kernel⟩
theorem tw_70 : Cond.selects yX9_pricesOn.cls yX9_pricesOn yX9_pricesOn ∈ jm_tb := List.mem_filter.mpr ⟨List.mem_of_getElem? (i := 70) (by decide +kernel), by decide +kernel⟩
theorem tw_1519 : Cond.code yX9_pricesOn cX9_pricesOn 4 (some .int) ∈ jm_tb := List.mem_filter.mpr ⟨List.mem_of_getElem? (i := 1519) (by decide +kernel), by decide +kernel⟩
theorem qX9_386 : jm_CV "WeighedInBooksModel" 386 yX9_pricesOn cX9_pricesOn 4 (some .int) 1 := ⟨tw_1516, tw_1518, tw_70, tw_89, tw_1519, by decide, by decide, by decide +kernel⟩
theorem tw_1520 : Cond.methodLink "WeighedInBooksModel" 389 yX9_mostOn ∈ jm_tb := List.mem_filter.mpr ⟨List.mem_of_getElem? (i := 1520) (by decide +kernel), by decide +kernel⟩
theorem tw_1522 : Cond.instanceMethod yX9_mostOn ∈ jm_tb := List.mem_filter.mpr ⟨List.mem_of_getElem? (i := 1522) (by decide +kernel), by decide +kernel⟩
theorem tw_71 : Cond.selects yX9_mostOn.cls yX9_mostOn yX9_mostOn ∈ jm_tb := List.mem_filter.mpr ⟨List.mem_of_getElem? (i := 71) (by decide +kernel), by decide +kernel⟩
theorem tw_1523 : Cond.code yX9_mostOn cX9_mostOn 4 (some .int) ∈ jm_tb := List.mem_filter.mpr ⟨List.mem_of_getElem? (i := 1523) (by decide +kernel), by decide +kernel⟩
theorem qX9_389 : jm_CV "WeighedInBooksModel" 389 yX9_mostOn cX9_mostOn 4 (some .int) 1 := ⟨tw_1520, tw_1522, tw_71, tw_89, tw_1523, by decide, by decide, by decide +kernel⟩
theorem tw_1536 : Cond.methodLink "WeighedInBooksModel" 392 yX9_sizeOf ∈ jm_tb := List.mem_filter.mpr ⟨List.mem_of_getElem? (i := 1536) (by decide +kernel), by decide +kernel⟩
theorem tw_1537 : Cond.static yX9_sizeOf ∈ jm_tb := List.mem_filter.mpr ⟨List.mem_of_getElem? (i := 1537) (by decide +kernel), by decide +kernel⟩
theorem tw_1538 : Cond.code yX9_sizeOf cX9_sizeOf 1 (some .int) ∈ jm_tb := List.mem_filter.mpr ⟨List.mem_of_getElem? (i := 1538) (by decide +kernel), by decide +kernel⟩
theorem qX9_392 : jm_CS "WeighedInBooksModel" 392 yX9_sizeOf cX9_sizeOf 1 (some .int) 1 := ⟨tw_1536, tw_1537, tw_89, tw_1538, by decide, by decide, by decide +kernel⟩
theorem tw_1532 : Cond.methodLink "WeighedInBooksModel" 395 yX9_closest ∈ jm_tb := List.mem_filter.mpr ⟨List.mem_of_getElem? (i := 1532) (by decide +kernel), by decide +kernel⟩
theorem tw_1534 : Cond.instanceMethod yX9_closest ∈ jm_tb := List.mem_filter.mpr ⟨List.mem_of_getElem? (i := 1534) (by decide +kernel), by decide +kernel⟩
theorem tw_73 : Cond.selects yX9_closest.cls yX9_closest yX9_closest ∈ jm_tb := List.mem_filter.mpr ⟨List.mem_of_getElem? (i := 73) (by decide +kernel), by decide +kernel⟩
theorem tw_1535 : Cond.code yX9_closest cX9_closest 6 (some .int) ∈ jm_tb := List.mem_filter.mpr ⟨List.mem_of_getElem? (i := 1535) (by decide +kernel), by decide +kernel⟩
theorem qX9_395 : jm_CV "WeighedInBooksModel" 395 yX9_closest cX9_closest 6 (some .int) 0 := ⟨tw_1532, tw_1534, tw_73, tw_89, tw_1535, by decide, by decide, by decide +kernel⟩
theorem tw_1539 : Cond.methodLink "WeighedInBooksModel" 398 yX9_poor ∈ jm_tb := List.mem_filter.mpr ⟨List.mem_of_getElem? (i := 1539) (by decide +kernel), by decide +kernel⟩
theorem tw_1541 : Cond.instanceMethod yX9_poor ∈ jm_tb := List.mem_filter.mpr ⟨List.mem_of_getElem? (i := 1541) (by decide +kernel), by decide +kernel⟩
theorem tw_74 : Cond.selects yX9_poor.cls yX9_poor yX9_poor ∈ jm_tb := List.mem_filter.mpr ⟨List.mem_of_getElem? (i := 74) (by decide +kernel), by decide +kernel⟩
theorem tw_1542 : Cond.code yX9_poor cX9_poor 4 (some .int) ∈ jm_tb := List.mem_filter.mpr ⟨List.mem_of_getElem? (i := 1542) (by decide +kernel), by decide +kernel⟩
theorem qX9_398 : jm_CV "WeighedInBooksModel" 398 yX9_poor cX9_poor 4 (some .int) 0 := ⟨tw_1539, tw_1541, tw_74, tw_89, tw_1542, by decide, by decide, by decide +kernel⟩
theorem tw_1543 : Cond.methodLink "WeighedInBooksModel" 401 yX9_unread ∈ jm_tb := List.mem_filter.mpr ⟨List.mem_of_getElem? (i := 1543) (by decide +kernel), by decide +kernel⟩
theorem tw_1545 : Cond.instanceMethod yX9_unread ∈ jm_tb := List.mem_filter.mpr ⟨List.mem_of_getElem? (i := 1545) (by decide +kernel), by decide +kernel⟩
theorem tw_75 : Cond.selects yX9_unread.cls yX9_unread yX9_unread ∈ jm_tb := List.mem_filter.mpr ⟨List.mem_of_getElem? (i := 75) (by decide +kernel), by decide +kernel⟩
theorem tw_1546 : Cond.code yX9_unread cX9_unread 3 (some .int) ∈ jm_tb := List.mem_filter.mpr ⟨List.mem_of_getElem? (i := 1546) (by decide +kernel), by decide +kernel⟩
theorem qX9_401 : jm_CV "WeighedInBooksModel" 401 yX9_unread cX9_unread 3 (some .int) 0 := ⟨tw_1543, tw_1545, tw_75, tw_89, tw_1546, by decide, by decide, by decide +kernel⟩
theorem tw_1547 : Cond.methodLink "WeighedInBooksModel" 404 yX9_lent ∈ jm_tb := List.mem_filter.mpr ⟨List.mem_of_getElem? (i := 1547) (by decide +kernel), by decide +kernel⟩
theorem tw_1549 : Cond.instanceMethod yX9_lent ∈ jm_tb := List.mem_filter.mpr ⟨List.mem_of_getElem? (i := 1549) (by decide +kernel), by decide +kernel⟩
theorem tw_76 : Cond.selects yX9_lent.cls yX9_lent yX9_lent ∈ jm_tb := List.mem_filter.mpr ⟨List.mem_of_getElem? (i := 76) (by decide +kernel), by decide +kernel⟩
theorem tw_1550 : Cond.code yX9_lent cX9_lent 3 (some .int) ∈ jm_tb := List.mem_filter.mpr ⟨List.mem_of_getElem? (i := 1550) (by decide +kernel), by decide +kernel⟩
theorem qX9_404 : jm_CV "WeighedInBooksModel" 404 yX9_lent cX9_lent 3 (some .int) 0 := ⟨tw_1547, tw_1549, tw_76, tw_89, tw_1550, by decide, by decide, by decide +kernel⟩
theorem fp_X9_353 : jm_Fp "WeighedInBooksModel" 353 7 41 .int := ⟨_, _, _, tyX9, rfl, by decide, inX9, tw_999, tyX9_ok, nmX9, rfl, by decide +kernel⟩
theorem tw_1001 : Cond.fieldLink "WeighedInBooksModel" 407 "WeighedInBooksModel" "lots" "I" ∈ jm_tb := List.mem_filter.mpr ⟨List.mem_of_getElem? (i := 1001) (by decide +kernel), by decide +kernel⟩
theorem fl_X9_407 : jm_Fl "WeighedInBooksModel" 407 7 43 := ⟨_, _, _, rfl, by decide, inX9, tw_1001⟩
theorem tw_1587 : Cond.constant "WeighedInBooksModel" 410 (1103515245) ∈ jm_tb := List.mem_filter.mpr ⟨List.mem_of_getElem? (i := 1587) (by decide +kernel), by decide +kernel⟩
theorem fp_X9_407 : jm_Fp "WeighedInBooksModel" 407 7 43 .int := ⟨_, _, _, tyX9, rfl, by decide, inX9, tw_1001, tyX9_ok, nmX9, rfl, by decide +kernel⟩
theorem tw_1588 : Cond.constant "WeighedInBooksModel" 411 (2147483647) ∈ jm_tb := List.mem_filter.mpr ⟨List.mem_of_getElem? (i := 1588) (by decide +kernel), by decide +kernel⟩
theorem tw_1589 : Cond.constant "WeighedInBooksModel" 412 (65536) ∈ jm_tb := List.mem_filter.mpr ⟨List.mem_of_getElem? (i := 1589) (by decide +kernel), by decide +kernel⟩
theorem tw_1579 : Cond.methodLink "WeighedInBooksModel" 413 yX9_allRead ∈ jm_tb := List.mem_filter.mpr ⟨List.mem_of_getElem? (i := 1579) (by decide +kernel), by decide +kernel⟩
theorem tw_1581 : Cond.instanceMethod yX9_allRead ∈ jm_tb := List.mem_filter.mpr ⟨List.mem_of_getElem? (i := 1581) (by decide +kernel), by decide +kernel⟩
theorem tw_77 : Cond.selects yX9_allRead.cls yX9_allRead yX9_allRead ∈ jm_tb := List.mem_filter.mpr ⟨List.mem_of_getElem? (i := 77) (by decide +kernel), by decide +kernel⟩
theorem tw_1582 : Cond.code yX9_allRead cX9_allRead 3 (some .int) ∈ jm_tb := List.mem_filter.mpr ⟨List.mem_of_getElem? (i := 1582) (by decide +kernel), by decide +kernel⟩
theorem qX9_413 : jm_CV "WeighedInBooksModel" 413 yX9_allRead cX9_allRead 3 (some .int) 0 := ⟨tw_1579, tw_1581, tw_77, tw_89, tw_1582, by decide, by decide, by decide +kernel⟩
theorem tw_1583 : Cond.methodLink "WeighedInBooksModel" 416 yX9_draw ∈ jm_tb := List.mem_filter.mpr ⟨List.mem_of_getElem? (i := 1583) (by decide +kernel), by decide +kernel⟩
theorem tw_1585 : Cond.instanceMethod yX9_draw ∈ jm_tb := List.mem_filter.mpr ⟨List.mem_of_getElem? (i := 1585) (by decide +kernel), by decide +kernel⟩
theorem tw_78 : Cond.selects yX9_draw.cls yX9_draw yX9_draw ∈ jm_tb := List.mem_filter.mpr ⟨List.mem_of_getElem? (i := 78) (by decide +kernel), by decide +kernel⟩
theorem tw_1586 : Cond.code yX9_draw cX9_draw 2 (some .int) ∈ jm_tb := List.mem_filter.mpr ⟨List.mem_of_getElem? (i := 1586) (by decide +kernel), by decide +kernel⟩
theorem qX9_416 : jm_CV "WeighedInBooksModel" 416 yX9_draw cX9_draw 2 (some .int) 1 := ⟨tw_1583, tw_1585, tw_78, tw_89, tw_1586, by decide, by decide, by decide +kernel⟩
theorem tw_1590 : Cond.methodLink "WeighedInBooksModel" 419 yX9_manyDown ∈ jm_tb := List.mem_filter.mpr ⟨List.mem_of_getElem? (i := 1590) (by decide +kernel), by decide +kernel⟩
theorem tw_1592 : Cond.instanceMethod yX9_manyDown ∈ jm_tb := List.mem_filter.mpr ⟨List.mem_of_getElem? (i := 1592) (by decide +kernel), by decide +kernel⟩
theorem tw_79 : Cond.selects yX9_manyDown.cls yX9_manyDown yX9_manyDown ∈ jm_tb := List.mem_filter.mpr ⟨List.mem_of_getElem? (i := 79) (by decide +kernel), by decide +kernel⟩
theorem tw_1593 : Cond.code yX9_manyDown cX9_manyDown 4 (some .int) ∈ jm_tb := List.mem_filter.mpr ⟨List.mem_of_getElem? (i := 1593) (by decide +kernel), by decide +kernel⟩
theorem qX9_419 : jm_CV "WeighedInBooksModel" 419 yX9_manyDown cX9_manyDown 4 (some .int) 0 := ⟨tw_1590, tw_1592, tw_79, tw_89, tw_1593, by decide, by decide, by decide +kernel⟩
theorem tw_1598 : Cond.methodLink "WeighedInBooksModel" 422 yX9_allWeights ∈ jm_tb := List.mem_filter.mpr ⟨List.mem_of_getElem? (i := 1598) (by decide +kernel), by decide +kernel⟩
theorem tw_1600 : Cond.instanceMethod yX9_allWeights ∈ jm_tb := List.mem_filter.mpr ⟨List.mem_of_getElem? (i := 1600) (by decide +kernel), by decide +kernel⟩
theorem tw_80 : Cond.selects yX9_allWeights.cls yX9_allWeights yX9_allWeights ∈ jm_tb := List.mem_filter.mpr ⟨List.mem_of_getElem? (i := 80) (by decide +kernel), by decide +kernel⟩
theorem tw_1601 : Cond.code yX9_allWeights cX9_allWeights 3 (some .int) ∈ jm_tb := List.mem_filter.mpr ⟨List.mem_of_getElem? (i := 1601) (by decide +kernel), by decide +kernel⟩
theorem qX9_422 : jm_CV "WeighedInBooksModel" 422 yX9_allWeights cX9_allWeights 3 (some .int) 0 := ⟨tw_1598, tw_1600, tw_80, tw_89, tw_1601, by decide, by decide, by decide +kernel⟩
