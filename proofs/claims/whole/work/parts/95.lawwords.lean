theorem tw_339 : Cond.methodLink "WeighedInBooksLaw" 13 yX8_feed ∈ jm_tb := List.mem_filter.mpr ⟨List.mem_of_getElem? (i := 339) (by decide +kernel), by decide +kernel⟩
theorem tw_340 : Cond.instanceMethod yX8_feed ∈ jm_tb := List.mem_filter.mpr ⟨List.mem_of_getElem? (i := 340) (by decide +kernel), by decide +kernel⟩
theorem tw_341 : Cond.selects yX8_feed.cls yX8_feed yX8_feed ∈ jm_tb := List.mem_filter.mpr ⟨List.mem_of_getElem? (i := 341) (by decide +kernel), by decide +kernel⟩
theorem tw_342 : Cond.code yX8_feed cX8_feed 2 (some .int) ∈ jm_tb := List.mem_filter.mpr ⟨List.mem_of_getElem? (i := 342) (by decide +kernel), by decide +kernel⟩
theorem qL_13 : jm_CV "WeighedInBooksLaw" 13 yX8_feed cX8_feed 2 (some .int) 1 := ⟨tw_339, tw_340, tw_341, tw_82, tw_342, by decide, by decide, by decide +kernel⟩
theorem tw_1091 : Cond.methodLink "WeighedInBooksLaw" 17 yX9_feed ∈ jm_tb := List.mem_filter.mpr ⟨List.mem_of_getElem? (i := 1091) (by decide +kernel), by decide +kernel⟩
theorem tw_1092 : Cond.instanceMethod yX9_feed ∈ jm_tb := List.mem_filter.mpr ⟨List.mem_of_getElem? (i := 1092) (by decide +kernel), by decide +kernel⟩
theorem tw_1093 : Cond.selects yX9_feed.cls yX9_feed yX9_feed ∈ jm_tb := List.mem_filter.mpr ⟨List.mem_of_getElem? (i := 1093) (by decide +kernel), by decide +kernel⟩
theorem tw_1094 : Cond.code yX9_feed cX9_feed 3 (some .int) ∈ jm_tb := List.mem_filter.mpr ⟨List.mem_of_getElem? (i := 1094) (by decide +kernel), by decide +kernel⟩
theorem qL_17 : jm_CV "WeighedInBooksLaw" 17 yX9_feed cX9_feed 3 (some .int) 1 := ⟨tw_1091, tw_1092, tw_1093, tw_89, tw_1094, by decide, by decide, by decide +kernel⟩
theorem tw_351 : Cond.methodLink "WeighedInBooksLaw" 18 yX8_town ∈ jm_tb := List.mem_filter.mpr ⟨List.mem_of_getElem? (i := 351) (by decide +kernel), by decide +kernel⟩
theorem tw_352 : Cond.instanceMethod yX8_town ∈ jm_tb := List.mem_filter.mpr ⟨List.mem_of_getElem? (i := 352) (by decide +kernel), by decide +kernel⟩
theorem tw_353 : Cond.selects yX8_town.cls yX8_town yX8_town ∈ jm_tb := List.mem_filter.mpr ⟨List.mem_of_getElem? (i := 353) (by decide +kernel), by decide +kernel⟩
theorem tw_354 : Cond.code yX8_town cX8_town 2 (some .int) ∈ jm_tb := List.mem_filter.mpr ⟨List.mem_of_getElem? (i := 354) (by decide +kernel), by decide +kernel⟩
theorem qL_18 : jm_CV "WeighedInBooksLaw" 18 yX8_town cX8_town 2 (some .int) 0 := ⟨tw_351, tw_352, tw_353, tw_82, tw_354, by decide, by decide, by decide +kernel⟩
theorem tw_1102 : Cond.methodLink "WeighedInBooksLaw" 22 yX9_town ∈ jm_tb := List.mem_filter.mpr ⟨List.mem_of_getElem? (i := 1102) (by decide +kernel), by decide +kernel⟩
theorem tw_1103 : Cond.instanceMethod yX9_town ∈ jm_tb := List.mem_filter.mpr ⟨List.mem_of_getElem? (i := 1103) (by decide +kernel), by decide +kernel⟩
theorem tw_1104 : Cond.selects yX9_town.cls yX9_town yX9_town ∈ jm_tb := List.mem_filter.mpr ⟨List.mem_of_getElem? (i := 1104) (by decide +kernel), by decide +kernel⟩
theorem tw_1105 : Cond.code yX9_town cX9_town 3 (some .int) ∈ jm_tb := List.mem_filter.mpr ⟨List.mem_of_getElem? (i := 1105) (by decide +kernel), by decide +kernel⟩
theorem qL_22 : jm_CV "WeighedInBooksLaw" 22 yX9_town cX9_town 3 (some .int) 0 := ⟨tw_1102, tw_1103, tw_1104, tw_89, tw_1105, by decide, by decide, by decide +kernel⟩
theorem tw_515 : Cond.methodLink "WeighedInBooksLaw" 23 yX8_person ∈ jm_tb := List.mem_filter.mpr ⟨List.mem_of_getElem? (i := 515) (by decide +kernel), by decide +kernel⟩
theorem tw_516 : Cond.instanceMethod yX8_person ∈ jm_tb := List.mem_filter.mpr ⟨List.mem_of_getElem? (i := 516) (by decide +kernel), by decide +kernel⟩
theorem tw_517 : Cond.selects yX8_person.cls yX8_person yX8_person ∈ jm_tb := List.mem_filter.mpr ⟨List.mem_of_getElem? (i := 517) (by decide +kernel), by decide +kernel⟩
theorem tw_518 : Cond.code yX8_person cX8_person 3 (some .int) ∈ jm_tb := List.mem_filter.mpr ⟨List.mem_of_getElem? (i := 518) (by decide +kernel), by decide +kernel⟩
theorem qL_23 : jm_CV "WeighedInBooksLaw" 23 yX8_person cX8_person 3 (some .int) 2 := ⟨tw_515, tw_516, tw_517, tw_82, tw_518, by decide, by decide, by decide +kernel⟩
theorem tw_1243 : Cond.methodLink "WeighedInBooksLaw" 27 yX9_person ∈ jm_tb := List.mem_filter.mpr ⟨List.mem_of_getElem? (i := 1243) (by decide +kernel), by decide +kernel⟩
theorem tw_1244 : Cond.instanceMethod yX9_person ∈ jm_tb := List.mem_filter.mpr ⟨List.mem_of_getElem? (i := 1244) (by decide +kernel), by decide +kernel⟩
theorem tw_1245 : Cond.selects yX9_person.cls yX9_person yX9_person ∈ jm_tb := List.mem_filter.mpr ⟨List.mem_of_getElem? (i := 1245) (by decide +kernel), by decide +kernel⟩
theorem tw_1246 : Cond.code yX9_person cX9_person 3 (some .int) ∈ jm_tb := List.mem_filter.mpr ⟨List.mem_of_getElem? (i := 1246) (by decide +kernel), by decide +kernel⟩
theorem qL_27 : jm_CV "WeighedInBooksLaw" 27 yX9_person cX9_person 3 (some .int) 2 := ⟨tw_1243, tw_1244, tw_1245, tw_89, tw_1246, by decide, by decide, by decide +kernel⟩
theorem tw_538 : Cond.methodLink "WeighedInBooksLaw" 28 yX8_book ∈ jm_tb := List.mem_filter.mpr ⟨List.mem_of_getElem? (i := 538) (by decide +kernel), by decide +kernel⟩
theorem tw_539 : Cond.instanceMethod yX8_book ∈ jm_tb := List.mem_filter.mpr ⟨List.mem_of_getElem? (i := 539) (by decide +kernel), by decide +kernel⟩
theorem tw_540 : Cond.selects yX8_book.cls yX8_book yX8_book ∈ jm_tb := List.mem_filter.mpr ⟨List.mem_of_getElem? (i := 540) (by decide +kernel), by decide +kernel⟩
theorem tw_541 : Cond.code yX8_book cX8_book 3 (some .int) ∈ jm_tb := List.mem_filter.mpr ⟨List.mem_of_getElem? (i := 541) (by decide +kernel), by decide +kernel⟩
theorem qL_28 : jm_CV "WeighedInBooksLaw" 28 yX8_book cX8_book 3 (some .int) 2 := ⟨tw_538, tw_539, tw_540, tw_82, tw_541, by decide, by decide, by decide +kernel⟩
theorem tw_1254 : Cond.methodLink "WeighedInBooksLaw" 31 yX9_book ∈ jm_tb := List.mem_filter.mpr ⟨List.mem_of_getElem? (i := 1254) (by decide +kernel), by decide +kernel⟩
theorem tw_1255 : Cond.instanceMethod yX9_book ∈ jm_tb := List.mem_filter.mpr ⟨List.mem_of_getElem? (i := 1255) (by decide +kernel), by decide +kernel⟩
theorem tw_1256 : Cond.selects yX9_book.cls yX9_book yX9_book ∈ jm_tb := List.mem_filter.mpr ⟨List.mem_of_getElem? (i := 1256) (by decide +kernel), by decide +kernel⟩
theorem tw_1257 : Cond.code yX9_book cX9_book 3 (some .int) ∈ jm_tb := List.mem_filter.mpr ⟨List.mem_of_getElem? (i := 1257) (by decide +kernel), by decide +kernel⟩
theorem qL_31 : jm_CV "WeighedInBooksLaw" 31 yX9_book cX9_book 3 (some .int) 2 := ⟨tw_1254, tw_1255, tw_1256, tw_89, tw_1257, by decide, by decide, by decide +kernel⟩
theorem tw_558 : Cond.methodLink "WeighedInBooksLaw" 32 yX8_title ∈ jm_tb := List.mem_filter.mpr ⟨List.mem_of_getElem? (i := 558) (by decide +kernel), by decide +kernel⟩
theorem tw_559 : Cond.instanceMethod yX8_title ∈ jm_tb := List.mem_filter.mpr ⟨List.mem_of_getElem? (i := 559) (by decide +kernel), by decide +kernel⟩
theorem tw_560 : Cond.selects yX8_title.cls yX8_title yX8_title ∈ jm_tb := List.mem_filter.mpr ⟨List.mem_of_getElem? (i := 560) (by decide +kernel), by decide +kernel⟩
theorem tw_561 : Cond.code yX8_title cX8_title 3 (some .int) ∈ jm_tb := List.mem_filter.mpr ⟨List.mem_of_getElem? (i := 561) (by decide +kernel), by decide +kernel⟩
theorem qL_32 : jm_CV "WeighedInBooksLaw" 32 yX8_title cX8_title 3 (some .int) 2 := ⟨tw_558, tw_559, tw_560, tw_82, tw_561, by decide, by decide, by decide +kernel⟩
theorem tw_1277 : Cond.methodLink "WeighedInBooksLaw" 35 yX9_title ∈ jm_tb := List.mem_filter.mpr ⟨List.mem_of_getElem? (i := 1277) (by decide +kernel), by decide +kernel⟩
theorem tw_1278 : Cond.instanceMethod yX9_title ∈ jm_tb := List.mem_filter.mpr ⟨List.mem_of_getElem? (i := 1278) (by decide +kernel), by decide +kernel⟩
theorem tw_1279 : Cond.selects yX9_title.cls yX9_title yX9_title ∈ jm_tb := List.mem_filter.mpr ⟨List.mem_of_getElem? (i := 1279) (by decide +kernel), by decide +kernel⟩
theorem tw_1280 : Cond.code yX9_title cX9_title 4 (some .int) ∈ jm_tb := List.mem_filter.mpr ⟨List.mem_of_getElem? (i := 1280) (by decide +kernel), by decide +kernel⟩
theorem qL_35 : jm_CV "WeighedInBooksLaw" 35 yX9_title cX9_title 4 (some .int) 2 := ⟨tw_1277, tw_1278, tw_1279, tw_89, tw_1280, by decide, by decide, by decide +kernel⟩
theorem tw_499 : Cond.methodLink "WeighedInBooksLaw" 36 yX8_comes ∈ jm_tb := List.mem_filter.mpr ⟨List.mem_of_getElem? (i := 499) (by decide +kernel), by decide +kernel⟩
theorem tw_500 : Cond.instanceMethod yX8_comes ∈ jm_tb := List.mem_filter.mpr ⟨List.mem_of_getElem? (i := 500) (by decide +kernel), by decide +kernel⟩
theorem tw_501 : Cond.selects yX8_comes.cls yX8_comes yX8_comes ∈ jm_tb := List.mem_filter.mpr ⟨List.mem_of_getElem? (i := 501) (by decide +kernel), by decide +kernel⟩
theorem tw_502 : Cond.code yX8_comes cX8_comes 4 (some .int) ∈ jm_tb := List.mem_filter.mpr ⟨List.mem_of_getElem? (i := 502) (by decide +kernel), by decide +kernel⟩
theorem qL_36 : jm_CV "WeighedInBooksLaw" 36 yX8_comes cX8_comes 4 (some .int) 3 := ⟨tw_499, tw_500, tw_501, tw_82, tw_502, by decide, by decide, by decide +kernel⟩
theorem tw_1281 : Cond.methodLink "WeighedInBooksLaw" 40 yX9_comes ∈ jm_tb := List.mem_filter.mpr ⟨List.mem_of_getElem? (i := 1281) (by decide +kernel), by decide +kernel⟩
theorem tw_1282 : Cond.instanceMethod yX9_comes ∈ jm_tb := List.mem_filter.mpr ⟨List.mem_of_getElem? (i := 1282) (by decide +kernel), by decide +kernel⟩
theorem tw_1283 : Cond.selects yX9_comes.cls yX9_comes yX9_comes ∈ jm_tb := List.mem_filter.mpr ⟨List.mem_of_getElem? (i := 1283) (by decide +kernel), by decide +kernel⟩
theorem tw_1284 : Cond.code yX9_comes cX9_comes 5 (some .int) ∈ jm_tb := List.mem_filter.mpr ⟨List.mem_of_getElem? (i := 1284) (by decide +kernel), by decide +kernel⟩
theorem qL_40 : jm_CV "WeighedInBooksLaw" 40 yX9_comes cX9_comes 5 (some .int) 3 := ⟨tw_1281, tw_1282, tw_1283, tw_89, tw_1284, by decide, by decide, by decide +kernel⟩
theorem tw_504 : Cond.methodLink "WeighedInBooksLaw" 41 yX8_brings ∈ jm_tb := List.mem_filter.mpr ⟨List.mem_of_getElem? (i := 504) (by decide +kernel), by decide +kernel⟩
theorem tw_505 : Cond.instanceMethod yX8_brings ∈ jm_tb := List.mem_filter.mpr ⟨List.mem_of_getElem? (i := 505) (by decide +kernel), by decide +kernel⟩
theorem tw_506 : Cond.selects yX8_brings.cls yX8_brings yX8_brings ∈ jm_tb := List.mem_filter.mpr ⟨List.mem_of_getElem? (i := 506) (by decide +kernel), by decide +kernel⟩
theorem tw_507 : Cond.code yX8_brings cX8_brings 6 (some .int) ∈ jm_tb := List.mem_filter.mpr ⟨List.mem_of_getElem? (i := 507) (by decide +kernel), by decide +kernel⟩
theorem qL_41 : jm_CV "WeighedInBooksLaw" 41 yX8_brings cX8_brings 6 (some .int) 4 := ⟨tw_504, tw_505, tw_506, tw_82, tw_507, by decide, by decide, by decide +kernel⟩
theorem tw_1285 : Cond.methodLink "WeighedInBooksLaw" 45 yX9_brings ∈ jm_tb := List.mem_filter.mpr ⟨List.mem_of_getElem? (i := 1285) (by decide +kernel), by decide +kernel⟩
theorem tw_1286 : Cond.instanceMethod yX9_brings ∈ jm_tb := List.mem_filter.mpr ⟨List.mem_of_getElem? (i := 1286) (by decide +kernel), by decide +kernel⟩
theorem tw_1287 : Cond.selects yX9_brings.cls yX9_brings yX9_brings ∈ jm_tb := List.mem_filter.mpr ⟨List.mem_of_getElem? (i := 1287) (by decide +kernel), by decide +kernel⟩
theorem tw_1288 : Cond.code yX9_brings cX9_brings 6 (some .int) ∈ jm_tb := List.mem_filter.mpr ⟨List.mem_of_getElem? (i := 1288) (by decide +kernel), by decide +kernel⟩
theorem qL_45 : jm_CV "WeighedInBooksLaw" 45 yX9_brings cX9_brings 6 (some .int) 4 := ⟨tw_1285, tw_1286, tw_1287, tw_89, tw_1288, by decide, by decide, by decide +kernel⟩
theorem tw_565 : Cond.methodLink "WeighedInBooksLaw" 46 yX8_eats ∈ jm_tb := List.mem_filter.mpr ⟨List.mem_of_getElem? (i := 565) (by decide +kernel), by decide +kernel⟩
theorem tw_566 : Cond.instanceMethod yX8_eats ∈ jm_tb := List.mem_filter.mpr ⟨List.mem_of_getElem? (i := 566) (by decide +kernel), by decide +kernel⟩
theorem tw_567 : Cond.selects yX8_eats.cls yX8_eats yX8_eats ∈ jm_tb := List.mem_filter.mpr ⟨List.mem_of_getElem? (i := 567) (by decide +kernel), by decide +kernel⟩
theorem tw_568 : Cond.code yX8_eats cX8_eats 4 (some .int) ∈ jm_tb := List.mem_filter.mpr ⟨List.mem_of_getElem? (i := 568) (by decide +kernel), by decide +kernel⟩
theorem qL_46 : jm_CV "WeighedInBooksLaw" 46 yX8_eats cX8_eats 4 (some .int) 2 := ⟨tw_565, tw_566, tw_567, tw_82, tw_568, by decide, by decide, by decide +kernel⟩
theorem tw_1293 : Cond.methodLink "WeighedInBooksLaw" 49 yX9_eats ∈ jm_tb := List.mem_filter.mpr ⟨List.mem_of_getElem? (i := 1293) (by decide +kernel), by decide +kernel⟩
theorem tw_1294 : Cond.instanceMethod yX9_eats ∈ jm_tb := List.mem_filter.mpr ⟨List.mem_of_getElem? (i := 1294) (by decide +kernel), by decide +kernel⟩
theorem tw_1295 : Cond.selects yX9_eats.cls yX9_eats yX9_eats ∈ jm_tb := List.mem_filter.mpr ⟨List.mem_of_getElem? (i := 1295) (by decide +kernel), by decide +kernel⟩
theorem tw_1296 : Cond.code yX9_eats cX9_eats 5 (some .int) ∈ jm_tb := List.mem_filter.mpr ⟨List.mem_of_getElem? (i := 1296) (by decide +kernel), by decide +kernel⟩
theorem qL_49 : jm_CV "WeighedInBooksLaw" 49 yX9_eats cX9_eats 5 (some .int) 2 := ⟨tw_1293, tw_1294, tw_1295, tw_89, tw_1296, by decide, by decide, by decide +kernel⟩
theorem tw_575 : Cond.methodLink "WeighedInBooksLaw" 50 yX8_reads ∈ jm_tb := List.mem_filter.mpr ⟨List.mem_of_getElem? (i := 575) (by decide +kernel), by decide +kernel⟩
theorem tw_576 : Cond.instanceMethod yX8_reads ∈ jm_tb := List.mem_filter.mpr ⟨List.mem_of_getElem? (i := 576) (by decide +kernel), by decide +kernel⟩
theorem tw_577 : Cond.selects yX8_reads.cls yX8_reads yX8_reads ∈ jm_tb := List.mem_filter.mpr ⟨List.mem_of_getElem? (i := 577) (by decide +kernel), by decide +kernel⟩
theorem tw_578 : Cond.code yX8_reads cX8_reads 4 (some .int) ∈ jm_tb := List.mem_filter.mpr ⟨List.mem_of_getElem? (i := 578) (by decide +kernel), by decide +kernel⟩
theorem qL_50 : jm_CV "WeighedInBooksLaw" 50 yX8_reads cX8_reads 4 (some .int) 2 := ⟨tw_575, tw_576, tw_577, tw_82, tw_578, by decide, by decide, by decide +kernel⟩
theorem tw_1301 : Cond.methodLink "WeighedInBooksLaw" 53 yX9_reads ∈ jm_tb := List.mem_filter.mpr ⟨List.mem_of_getElem? (i := 1301) (by decide +kernel), by decide +kernel⟩
theorem tw_1302 : Cond.instanceMethod yX9_reads ∈ jm_tb := List.mem_filter.mpr ⟨List.mem_of_getElem? (i := 1302) (by decide +kernel), by decide +kernel⟩
theorem tw_1303 : Cond.selects yX9_reads.cls yX9_reads yX9_reads ∈ jm_tb := List.mem_filter.mpr ⟨List.mem_of_getElem? (i := 1303) (by decide +kernel), by decide +kernel⟩
theorem tw_1304 : Cond.code yX9_reads cX9_reads 4 (some .int) ∈ jm_tb := List.mem_filter.mpr ⟨List.mem_of_getElem? (i := 1304) (by decide +kernel), by decide +kernel⟩
theorem qL_53 : jm_CV "WeighedInBooksLaw" 53 yX9_reads cX9_reads 4 (some .int) 2 := ⟨tw_1301, tw_1302, tw_1303, tw_89, tw_1304, by decide, by decide, by decide +kernel⟩
theorem tw_580 : Cond.methodLink "WeighedInBooksLaw" 54 yX8_lends ∈ jm_tb := List.mem_filter.mpr ⟨List.mem_of_getElem? (i := 580) (by decide +kernel), by decide +kernel⟩
theorem tw_581 : Cond.instanceMethod yX8_lends ∈ jm_tb := List.mem_filter.mpr ⟨List.mem_of_getElem? (i := 581) (by decide +kernel), by decide +kernel⟩
theorem tw_582 : Cond.selects yX8_lends.cls yX8_lends yX8_lends ∈ jm_tb := List.mem_filter.mpr ⟨List.mem_of_getElem? (i := 582) (by decide +kernel), by decide +kernel⟩
theorem tw_583 : Cond.code yX8_lends cX8_lends 4 (some .int) ∈ jm_tb := List.mem_filter.mpr ⟨List.mem_of_getElem? (i := 583) (by decide +kernel), by decide +kernel⟩
theorem qL_54 : jm_CV "WeighedInBooksLaw" 54 yX8_lends cX8_lends 4 (some .int) 2 := ⟨tw_580, tw_581, tw_582, tw_82, tw_583, by decide, by decide, by decide +kernel⟩
theorem tw_1305 : Cond.methodLink "WeighedInBooksLaw" 57 yX9_lends ∈ jm_tb := List.mem_filter.mpr ⟨List.mem_of_getElem? (i := 1305) (by decide +kernel), by decide +kernel⟩
theorem tw_1306 : Cond.instanceMethod yX9_lends ∈ jm_tb := List.mem_filter.mpr ⟨List.mem_of_getElem? (i := 1306) (by decide +kernel), by decide +kernel⟩
theorem tw_1307 : Cond.selects yX9_lends.cls yX9_lends yX9_lends ∈ jm_tb := List.mem_filter.mpr ⟨List.mem_of_getElem? (i := 1307) (by decide +kernel), by decide +kernel⟩
theorem tw_1308 : Cond.code yX9_lends cX9_lends 4 (some .int) ∈ jm_tb := List.mem_filter.mpr ⟨List.mem_of_getElem? (i := 1308) (by decide +kernel), by decide +kernel⟩
theorem qL_57 : jm_CV "WeighedInBooksLaw" 57 yX9_lends cX9_lends 4 (some .int) 2 := ⟨tw_1305, tw_1306, tw_1307, tw_89, tw_1308, by decide, by decide, by decide +kernel⟩
theorem tw_584 : Cond.methodLink "WeighedInBooksLaw" 58 yX8_buys ∈ jm_tb := List.mem_filter.mpr ⟨List.mem_of_getElem? (i := 584) (by decide +kernel), by decide +kernel⟩
theorem tw_585 : Cond.instanceMethod yX8_buys ∈ jm_tb := List.mem_filter.mpr ⟨List.mem_of_getElem? (i := 585) (by decide +kernel), by decide +kernel⟩
theorem tw_586 : Cond.selects yX8_buys.cls yX8_buys yX8_buys ∈ jm_tb := List.mem_filter.mpr ⟨List.mem_of_getElem? (i := 586) (by decide +kernel), by decide +kernel⟩
theorem tw_587 : Cond.code yX8_buys cX8_buys 4 (some .int) ∈ jm_tb := List.mem_filter.mpr ⟨List.mem_of_getElem? (i := 587) (by decide +kernel), by decide +kernel⟩
theorem qL_58 : jm_CV "WeighedInBooksLaw" 58 yX8_buys cX8_buys 4 (some .int) 2 := ⟨tw_584, tw_585, tw_586, tw_82, tw_587, by decide, by decide, by decide +kernel⟩
theorem tw_1309 : Cond.methodLink "WeighedInBooksLaw" 61 yX9_buys ∈ jm_tb := List.mem_filter.mpr ⟨List.mem_of_getElem? (i := 1309) (by decide +kernel), by decide +kernel⟩
theorem tw_1310 : Cond.instanceMethod yX9_buys ∈ jm_tb := List.mem_filter.mpr ⟨List.mem_of_getElem? (i := 1310) (by decide +kernel), by decide +kernel⟩
theorem tw_1311 : Cond.selects yX9_buys.cls yX9_buys yX9_buys ∈ jm_tb := List.mem_filter.mpr ⟨List.mem_of_getElem? (i := 1311) (by decide +kernel), by decide +kernel⟩
theorem tw_1312 : Cond.code yX9_buys cX9_buys 4 (some .int) ∈ jm_tb := List.mem_filter.mpr ⟨List.mem_of_getElem? (i := 1312) (by decide +kernel), by decide +kernel⟩
theorem qL_61 : jm_CV "WeighedInBooksLaw" 61 yX9_buys cX9_buys 4 (some .int) 2 := ⟨tw_1309, tw_1310, tw_1311, tw_89, tw_1312, by decide, by decide, by decide +kernel⟩
theorem tw_588 : Cond.methodLink "WeighedInBooksLaw" 62 yX8_step ∈ jm_tb := List.mem_filter.mpr ⟨List.mem_of_getElem? (i := 588) (by decide +kernel), by decide +kernel⟩
theorem tw_589 : Cond.instanceMethod yX8_step ∈ jm_tb := List.mem_filter.mpr ⟨List.mem_of_getElem? (i := 589) (by decide +kernel), by decide +kernel⟩
theorem tw_590 : Cond.selects yX8_step.cls yX8_step yX8_step ∈ jm_tb := List.mem_filter.mpr ⟨List.mem_of_getElem? (i := 590) (by decide +kernel), by decide +kernel⟩
theorem tw_591 : Cond.code yX8_step cX8_step 3 (some .int) ∈ jm_tb := List.mem_filter.mpr ⟨List.mem_of_getElem? (i := 591) (by decide +kernel), by decide +kernel⟩
theorem qL_62 : jm_CV "WeighedInBooksLaw" 62 yX8_step cX8_step 3 (some .int) 2 := ⟨tw_588, tw_589, tw_590, tw_82, tw_591, by decide, by decide, by decide +kernel⟩
theorem tw_1313 : Cond.methodLink "WeighedInBooksLaw" 65 yX9_step ∈ jm_tb := List.mem_filter.mpr ⟨List.mem_of_getElem? (i := 1313) (by decide +kernel), by decide +kernel⟩
theorem tw_1314 : Cond.instanceMethod yX9_step ∈ jm_tb := List.mem_filter.mpr ⟨List.mem_of_getElem? (i := 1314) (by decide +kernel), by decide +kernel⟩
theorem tw_1315 : Cond.selects yX9_step.cls yX9_step yX9_step ∈ jm_tb := List.mem_filter.mpr ⟨List.mem_of_getElem? (i := 1315) (by decide +kernel), by decide +kernel⟩
theorem tw_1316 : Cond.code yX9_step cX9_step 4 (some .int) ∈ jm_tb := List.mem_filter.mpr ⟨List.mem_of_getElem? (i := 1316) (by decide +kernel), by decide +kernel⟩
theorem qL_65 : jm_CV "WeighedInBooksLaw" 65 yX9_step cX9_step 4 (some .int) 2 := ⟨tw_1313, tw_1314, tw_1315, tw_89, tw_1316, by decide, by decide, by decide +kernel⟩
theorem tw_593 : Cond.methodLink "WeighedInBooksLaw" 66 yX8_clearLaw ∈ jm_tb := List.mem_filter.mpr ⟨List.mem_of_getElem? (i := 593) (by decide +kernel), by decide +kernel⟩
theorem tw_594 : Cond.instanceMethod yX8_clearLaw ∈ jm_tb := List.mem_filter.mpr ⟨List.mem_of_getElem? (i := 594) (by decide +kernel), by decide +kernel⟩
theorem tw_595 : Cond.selects yX8_clearLaw.cls yX8_clearLaw yX8_clearLaw ∈ jm_tb := List.mem_filter.mpr ⟨List.mem_of_getElem? (i := 595) (by decide +kernel), by decide +kernel⟩
theorem tw_596 : Cond.code yX8_clearLaw cX8_clearLaw 2 (some .int) ∈ jm_tb := List.mem_filter.mpr ⟨List.mem_of_getElem? (i := 596) (by decide +kernel), by decide +kernel⟩
theorem qL_66 : jm_CV "WeighedInBooksLaw" 66 yX8_clearLaw cX8_clearLaw 2 (some .int) 0 := ⟨tw_593, tw_594, tw_595, tw_82, tw_596, by decide, by decide, by decide +kernel⟩
theorem tw_1317 : Cond.methodLink "WeighedInBooksLaw" 69 yX9_clearLaw ∈ jm_tb := List.mem_filter.mpr ⟨List.mem_of_getElem? (i := 1317) (by decide +kernel), by decide +kernel⟩
theorem tw_1318 : Cond.instanceMethod yX9_clearLaw ∈ jm_tb := List.mem_filter.mpr ⟨List.mem_of_getElem? (i := 1318) (by decide +kernel), by decide +kernel⟩
theorem tw_1319 : Cond.selects yX9_clearLaw.cls yX9_clearLaw yX9_clearLaw ∈ jm_tb := List.mem_filter.mpr ⟨List.mem_of_getElem? (i := 1319) (by decide +kernel), by decide +kernel⟩
theorem tw_1320 : Cond.code yX9_clearLaw cX9_clearLaw 2 (some .int) ∈ jm_tb := List.mem_filter.mpr ⟨List.mem_of_getElem? (i := 1320) (by decide +kernel), by decide +kernel⟩
theorem qL_69 : jm_CV "WeighedInBooksLaw" 69 yX9_clearLaw cX9_clearLaw 2 (some .int) 0 := ⟨tw_1317, tw_1318, tw_1319, tw_89, tw_1320, by decide, by decide, by decide +kernel⟩
theorem tw_597 : Cond.methodLink "WeighedInBooksLaw" 70 yX8_weeks ∈ jm_tb := List.mem_filter.mpr ⟨List.mem_of_getElem? (i := 597) (by decide +kernel), by decide +kernel⟩
theorem tw_598 : Cond.instanceMethod yX8_weeks ∈ jm_tb := List.mem_filter.mpr ⟨List.mem_of_getElem? (i := 598) (by decide +kernel), by decide +kernel⟩
theorem tw_599 : Cond.selects yX8_weeks.cls yX8_weeks yX8_weeks ∈ jm_tb := List.mem_filter.mpr ⟨List.mem_of_getElem? (i := 599) (by decide +kernel), by decide +kernel⟩
theorem tw_600 : Cond.code yX8_weeks cX8_weeks 2 (some .int) ∈ jm_tb := List.mem_filter.mpr ⟨List.mem_of_getElem? (i := 600) (by decide +kernel), by decide +kernel⟩
theorem qL_70 : jm_CV "WeighedInBooksLaw" 70 yX8_weeks cX8_weeks 2 (some .int) 1 := ⟨tw_597, tw_598, tw_599, tw_82, tw_600, by decide, by decide, by decide +kernel⟩
theorem tw_1321 : Cond.methodLink "WeighedInBooksLaw" 73 yX9_weeks ∈ jm_tb := List.mem_filter.mpr ⟨List.mem_of_getElem? (i := 1321) (by decide +kernel), by decide +kernel⟩
theorem tw_1322 : Cond.instanceMethod yX9_weeks ∈ jm_tb := List.mem_filter.mpr ⟨List.mem_of_getElem? (i := 1322) (by decide +kernel), by decide +kernel⟩
theorem tw_1323 : Cond.selects yX9_weeks.cls yX9_weeks yX9_weeks ∈ jm_tb := List.mem_filter.mpr ⟨List.mem_of_getElem? (i := 1323) (by decide +kernel), by decide +kernel⟩
theorem tw_1324 : Cond.code yX9_weeks cX9_weeks 3 (some .int) ∈ jm_tb := List.mem_filter.mpr ⟨List.mem_of_getElem? (i := 1324) (by decide +kernel), by decide +kernel⟩
theorem qL_73 : jm_CV "WeighedInBooksLaw" 73 yX9_weeks cX9_weeks 3 (some .int) 1 := ⟨tw_1321, tw_1322, tw_1323, tw_89, tw_1324, by decide, by decide, by decide +kernel⟩
theorem tw_602 : Cond.methodLink "WeighedInBooksLaw" 74 yX8_back ∈ jm_tb := List.mem_filter.mpr ⟨List.mem_of_getElem? (i := 602) (by decide +kernel), by decide +kernel⟩
theorem tw_603 : Cond.instanceMethod yX8_back ∈ jm_tb := List.mem_filter.mpr ⟨List.mem_of_getElem? (i := 603) (by decide +kernel), by decide +kernel⟩
theorem tw_604 : Cond.selects yX8_back.cls yX8_back yX8_back ∈ jm_tb := List.mem_filter.mpr ⟨List.mem_of_getElem? (i := 604) (by decide +kernel), by decide +kernel⟩
theorem tw_605 : Cond.code yX8_back cX8_back 1 (some .int) ∈ jm_tb := List.mem_filter.mpr ⟨List.mem_of_getElem? (i := 605) (by decide +kernel), by decide +kernel⟩
theorem qL_74 : jm_CV "WeighedInBooksLaw" 74 yX8_back cX8_back 1 (some .int) 0 := ⟨tw_602, tw_603, tw_604, tw_82, tw_605, by decide, by decide, by decide +kernel⟩
theorem tw_1231 : Cond.methodLink "WeighedInBooksLaw" 77 yX9_back ∈ jm_tb := List.mem_filter.mpr ⟨List.mem_of_getElem? (i := 1231) (by decide +kernel), by decide +kernel⟩
theorem tw_1232 : Cond.instanceMethod yX9_back ∈ jm_tb := List.mem_filter.mpr ⟨List.mem_of_getElem? (i := 1232) (by decide +kernel), by decide +kernel⟩
theorem tw_1233 : Cond.selects yX9_back.cls yX9_back yX9_back ∈ jm_tb := List.mem_filter.mpr ⟨List.mem_of_getElem? (i := 1233) (by decide +kernel), by decide +kernel⟩
theorem tw_1234 : Cond.code yX9_back cX9_back 1 (some .int) ∈ jm_tb := List.mem_filter.mpr ⟨List.mem_of_getElem? (i := 1234) (by decide +kernel), by decide +kernel⟩
theorem qL_77 : jm_CV "WeighedInBooksLaw" 77 yX9_back cX9_back 1 (some .int) 0 := ⟨tw_1231, tw_1232, tw_1233, tw_89, tw_1234, by decide, by decide, by decide +kernel⟩
theorem tw_610 : Cond.methodLink "WeighedInBooksLaw" 78 yX8_over ∈ jm_tb := List.mem_filter.mpr ⟨List.mem_of_getElem? (i := 610) (by decide +kernel), by decide +kernel⟩
theorem tw_611 : Cond.instanceMethod yX8_over ∈ jm_tb := List.mem_filter.mpr ⟨List.mem_of_getElem? (i := 611) (by decide +kernel), by decide +kernel⟩
theorem tw_612 : Cond.selects yX8_over.cls yX8_over yX8_over ∈ jm_tb := List.mem_filter.mpr ⟨List.mem_of_getElem? (i := 612) (by decide +kernel), by decide +kernel⟩
theorem tw_613 : Cond.code yX8_over cX8_over 3 (some .int) ∈ jm_tb := List.mem_filter.mpr ⟨List.mem_of_getElem? (i := 613) (by decide +kernel), by decide +kernel⟩
theorem qL_78 : jm_CV "WeighedInBooksLaw" 78 yX8_over cX8_over 3 (some .int) 2 := ⟨tw_610, tw_611, tw_612, tw_82, tw_613, by decide, by decide, by decide +kernel⟩
theorem tw_1325 : Cond.methodLink "WeighedInBooksLaw" 81 yX9_over ∈ jm_tb := List.mem_filter.mpr ⟨List.mem_of_getElem? (i := 1325) (by decide +kernel), by decide +kernel⟩
theorem tw_1326 : Cond.instanceMethod yX9_over ∈ jm_tb := List.mem_filter.mpr ⟨List.mem_of_getElem? (i := 1326) (by decide +kernel), by decide +kernel⟩
theorem tw_1327 : Cond.selects yX9_over.cls yX9_over yX9_over ∈ jm_tb := List.mem_filter.mpr ⟨List.mem_of_getElem? (i := 1327) (by decide +kernel), by decide +kernel⟩
theorem tw_1328 : Cond.code yX9_over cX9_over 3 (some .int) ∈ jm_tb := List.mem_filter.mpr ⟨List.mem_of_getElem? (i := 1328) (by decide +kernel), by decide +kernel⟩
theorem qL_81 : jm_CV "WeighedInBooksLaw" 81 yX9_over cX9_over 3 (some .int) 2 := ⟨tw_1325, tw_1326, tw_1327, tw_89, tw_1328, by decide, by decide, by decide +kernel⟩
theorem tw_636 : Cond.methodLink "WeighedInBooksLaw" 82 yX8_pan ∈ jm_tb := List.mem_filter.mpr ⟨List.mem_of_getElem? (i := 636) (by decide +kernel), by decide +kernel⟩
theorem tw_637 : Cond.instanceMethod yX8_pan ∈ jm_tb := List.mem_filter.mpr ⟨List.mem_of_getElem? (i := 637) (by decide +kernel), by decide +kernel⟩
theorem tw_638 : Cond.selects yX8_pan.cls yX8_pan yX8_pan ∈ jm_tb := List.mem_filter.mpr ⟨List.mem_of_getElem? (i := 638) (by decide +kernel), by decide +kernel⟩
theorem tw_639 : Cond.code yX8_pan cX8_pan 4 (some .int) ∈ jm_tb := List.mem_filter.mpr ⟨List.mem_of_getElem? (i := 639) (by decide +kernel), by decide +kernel⟩
theorem qL_82 : jm_CV "WeighedInBooksLaw" 82 yX8_pan cX8_pan 4 (some .int) 3 := ⟨tw_636, tw_637, tw_638, tw_82, tw_639, by decide, by decide, by decide +kernel⟩
theorem tw_1358 : Cond.methodLink "WeighedInBooksLaw" 85 yX9_pan ∈ jm_tb := List.mem_filter.mpr ⟨List.mem_of_getElem? (i := 1358) (by decide +kernel), by decide +kernel⟩
theorem tw_1359 : Cond.instanceMethod yX9_pan ∈ jm_tb := List.mem_filter.mpr ⟨List.mem_of_getElem? (i := 1359) (by decide +kernel), by decide +kernel⟩
theorem tw_1360 : Cond.selects yX9_pan.cls yX9_pan yX9_pan ∈ jm_tb := List.mem_filter.mpr ⟨List.mem_of_getElem? (i := 1360) (by decide +kernel), by decide +kernel⟩
theorem tw_1361 : Cond.code yX9_pan cX9_pan 4 (some .int) ∈ jm_tb := List.mem_filter.mpr ⟨List.mem_of_getElem? (i := 1361) (by decide +kernel), by decide +kernel⟩
theorem qL_85 : jm_CV "WeighedInBooksLaw" 85 yX9_pan cX9_pan 4 (some .int) 3 := ⟨tw_1358, tw_1359, tw_1360, tw_89, tw_1361, by decide, by decide, by decide +kernel⟩
theorem tw_717 : Cond.methodLink "WeighedInBooksLaw" 86 yX8_overThen ∈ jm_tb := List.mem_filter.mpr ⟨List.mem_of_getElem? (i := 717) (by decide +kernel), by decide +kernel⟩
theorem tw_718 : Cond.instanceMethod yX8_overThen ∈ jm_tb := List.mem_filter.mpr ⟨List.mem_of_getElem? (i := 718) (by decide +kernel), by decide +kernel⟩
theorem tw_719 : Cond.selects yX8_overThen.cls yX8_overThen yX8_overThen ∈ jm_tb := List.mem_filter.mpr ⟨List.mem_of_getElem? (i := 719) (by decide +kernel), by decide +kernel⟩
theorem tw_720 : Cond.code yX8_overThen cX8_overThen 4 (some .int) ∈ jm_tb := List.mem_filter.mpr ⟨List.mem_of_getElem? (i := 720) (by decide +kernel), by decide +kernel⟩
theorem qL_86 : jm_CV "WeighedInBooksLaw" 86 yX8_overThen cX8_overThen 4 (some .int) 3 := ⟨tw_717, tw_718, tw_719, tw_82, tw_720, by decide, by decide, by decide +kernel⟩
theorem tw_1362 : Cond.methodLink "WeighedInBooksLaw" 89 yX9_overThen ∈ jm_tb := List.mem_filter.mpr ⟨List.mem_of_getElem? (i := 1362) (by decide +kernel), by decide +kernel⟩
theorem tw_1363 : Cond.instanceMethod yX9_overThen ∈ jm_tb := List.mem_filter.mpr ⟨List.mem_of_getElem? (i := 1363) (by decide +kernel), by decide +kernel⟩
theorem tw_1364 : Cond.selects yX9_overThen.cls yX9_overThen yX9_overThen ∈ jm_tb := List.mem_filter.mpr ⟨List.mem_of_getElem? (i := 1364) (by decide +kernel), by decide +kernel⟩
theorem tw_1365 : Cond.code yX9_overThen cX9_overThen 6 (some .int) ∈ jm_tb := List.mem_filter.mpr ⟨List.mem_of_getElem? (i := 1365) (by decide +kernel), by decide +kernel⟩
theorem qL_89 : jm_CV "WeighedInBooksLaw" 89 yX9_overThen cX9_overThen 6 (some .int) 3 := ⟨tw_1362, tw_1363, tw_1364, tw_89, tw_1365, by decide, by decide, by decide +kernel⟩
theorem tw_731 : Cond.methodLink "WeighedInBooksLaw" 90 yX8_then ∈ jm_tb := List.mem_filter.mpr ⟨List.mem_of_getElem? (i := 731) (by decide +kernel), by decide +kernel⟩
theorem tw_732 : Cond.instanceMethod yX8_then ∈ jm_tb := List.mem_filter.mpr ⟨List.mem_of_getElem? (i := 732) (by decide +kernel), by decide +kernel⟩
theorem tw_733 : Cond.selects yX8_then.cls yX8_then yX8_then ∈ jm_tb := List.mem_filter.mpr ⟨List.mem_of_getElem? (i := 733) (by decide +kernel), by decide +kernel⟩
theorem tw_734 : Cond.code yX8_then cX8_then 5 (some .int) ∈ jm_tb := List.mem_filter.mpr ⟨List.mem_of_getElem? (i := 734) (by decide +kernel), by decide +kernel⟩
theorem qL_90 : jm_CV "WeighedInBooksLaw" 90 yX8_then cX8_then 5 (some .int) 3 := ⟨tw_731, tw_732, tw_733, tw_82, tw_734, by decide, by decide, by decide +kernel⟩
theorem tw_1374 : Cond.methodLink "WeighedInBooksLaw" 93 yX9_then ∈ jm_tb := List.mem_filter.mpr ⟨List.mem_of_getElem? (i := 1374) (by decide +kernel), by decide +kernel⟩
theorem tw_1375 : Cond.instanceMethod yX9_then ∈ jm_tb := List.mem_filter.mpr ⟨List.mem_of_getElem? (i := 1375) (by decide +kernel), by decide +kernel⟩
theorem tw_1376 : Cond.selects yX9_then.cls yX9_then yX9_then ∈ jm_tb := List.mem_filter.mpr ⟨List.mem_of_getElem? (i := 1376) (by decide +kernel), by decide +kernel⟩
theorem tw_1377 : Cond.code yX9_then cX9_then 6 (some .int) ∈ jm_tb := List.mem_filter.mpr ⟨List.mem_of_getElem? (i := 1377) (by decide +kernel), by decide +kernel⟩
theorem qL_93 : jm_CV "WeighedInBooksLaw" 93 yX9_then cX9_then 6 (some .int) 3 := ⟨tw_1374, tw_1375, tw_1376, tw_89, tw_1377, by decide, by decide, by decide +kernel⟩
theorem tw_736 : Cond.methodLink "WeighedInBooksLaw" 94 yX8_when ∈ jm_tb := List.mem_filter.mpr ⟨List.mem_of_getElem? (i := 736) (by decide +kernel), by decide +kernel⟩
theorem tw_737 : Cond.instanceMethod yX8_when ∈ jm_tb := List.mem_filter.mpr ⟨List.mem_of_getElem? (i := 737) (by decide +kernel), by decide +kernel⟩
theorem tw_738 : Cond.selects yX8_when.cls yX8_when yX8_when ∈ jm_tb := List.mem_filter.mpr ⟨List.mem_of_getElem? (i := 738) (by decide +kernel), by decide +kernel⟩
theorem tw_739 : Cond.code yX8_when cX8_when 3 (some .int) ∈ jm_tb := List.mem_filter.mpr ⟨List.mem_of_getElem? (i := 739) (by decide +kernel), by decide +kernel⟩
theorem qL_94 : jm_CV "WeighedInBooksLaw" 94 yX8_when cX8_when 3 (some .int) 2 := ⟨tw_736, tw_737, tw_738, tw_82, tw_739, by decide, by decide, by decide +kernel⟩
theorem tw_1378 : Cond.methodLink "WeighedInBooksLaw" 97 yX9_when ∈ jm_tb := List.mem_filter.mpr ⟨List.mem_of_getElem? (i := 1378) (by decide +kernel), by decide +kernel⟩
theorem tw_1379 : Cond.instanceMethod yX9_when ∈ jm_tb := List.mem_filter.mpr ⟨List.mem_of_getElem? (i := 1379) (by decide +kernel), by decide +kernel⟩
theorem tw_1380 : Cond.selects yX9_when.cls yX9_when yX9_when ∈ jm_tb := List.mem_filter.mpr ⟨List.mem_of_getElem? (i := 1380) (by decide +kernel), by decide +kernel⟩
theorem tw_1381 : Cond.code yX9_when cX9_when 4 (some .int) ∈ jm_tb := List.mem_filter.mpr ⟨List.mem_of_getElem? (i := 1381) (by decide +kernel), by decide +kernel⟩
theorem qL_97 : jm_CV "WeighedInBooksLaw" 97 yX9_when cX9_when 4 (some .int) 2 := ⟨tw_1378, tw_1379, tw_1380, tw_89, tw_1381, by decide, by decide, by decide +kernel⟩
theorem tw_750 : Cond.methodLink "WeighedInBooksLaw" 98 yX8_first ∈ jm_tb := List.mem_filter.mpr ⟨List.mem_of_getElem? (i := 750) (by decide +kernel), by decide +kernel⟩
theorem tw_751 : Cond.instanceMethod yX8_first ∈ jm_tb := List.mem_filter.mpr ⟨List.mem_of_getElem? (i := 751) (by decide +kernel), by decide +kernel⟩
theorem tw_752 : Cond.selects yX8_first.cls yX8_first yX8_first ∈ jm_tb := List.mem_filter.mpr ⟨List.mem_of_getElem? (i := 752) (by decide +kernel), by decide +kernel⟩
theorem tw_753 : Cond.code yX8_first cX8_first 1 (some .int) ∈ jm_tb := List.mem_filter.mpr ⟨List.mem_of_getElem? (i := 753) (by decide +kernel), by decide +kernel⟩
theorem qL_98 : jm_CV "WeighedInBooksLaw" 98 yX8_first cX8_first 1 (some .int) 0 := ⟨tw_750, tw_751, tw_752, tw_82, tw_753, by decide, by decide, by decide +kernel⟩
theorem tw_1390 : Cond.methodLink "WeighedInBooksLaw" 101 yX9_first ∈ jm_tb := List.mem_filter.mpr ⟨List.mem_of_getElem? (i := 1390) (by decide +kernel), by decide +kernel⟩
theorem tw_1391 : Cond.instanceMethod yX9_first ∈ jm_tb := List.mem_filter.mpr ⟨List.mem_of_getElem? (i := 1391) (by decide +kernel), by decide +kernel⟩
theorem tw_1392 : Cond.selects yX9_first.cls yX9_first yX9_first ∈ jm_tb := List.mem_filter.mpr ⟨List.mem_of_getElem? (i := 1392) (by decide +kernel), by decide +kernel⟩
theorem tw_1393 : Cond.code yX9_first cX9_first 3 (some .int) ∈ jm_tb := List.mem_filter.mpr ⟨List.mem_of_getElem? (i := 1393) (by decide +kernel), by decide +kernel⟩
theorem qL_101 : jm_CV "WeighedInBooksLaw" 101 yX9_first cX9_first 3 (some .int) 0 := ⟨tw_1390, tw_1391, tw_1392, tw_89, tw_1393, by decide, by decide, by decide +kernel⟩
theorem tw_641 : Cond.methodLink "WeighedInBooksLaw" 102 yX8_buy ∈ jm_tb := List.mem_filter.mpr ⟨List.mem_of_getElem? (i := 641) (by decide +kernel), by decide +kernel⟩
theorem tw_642 : Cond.instanceMethod yX8_buy ∈ jm_tb := List.mem_filter.mpr ⟨List.mem_of_getElem? (i := 642) (by decide +kernel), by decide +kernel⟩
theorem tw_643 : Cond.selects yX8_buy.cls yX8_buy yX8_buy ∈ jm_tb := List.mem_filter.mpr ⟨List.mem_of_getElem? (i := 643) (by decide +kernel), by decide +kernel⟩
theorem tw_644 : Cond.code yX8_buy cX8_buy 4 (some .int) ∈ jm_tb := List.mem_filter.mpr ⟨List.mem_of_getElem? (i := 644) (by decide +kernel), by decide +kernel⟩
theorem qL_102 : jm_CV "WeighedInBooksLaw" 102 yX8_buy cX8_buy 4 (some .int) 3 := ⟨tw_641, tw_642, tw_643, tw_82, tw_644, by decide, by decide, by decide +kernel⟩
theorem tw_1402 : Cond.methodLink "WeighedInBooksLaw" 105 yX9_buy ∈ jm_tb := List.mem_filter.mpr ⟨List.mem_of_getElem? (i := 1402) (by decide +kernel), by decide +kernel⟩
theorem tw_1403 : Cond.instanceMethod yX9_buy ∈ jm_tb := List.mem_filter.mpr ⟨List.mem_of_getElem? (i := 1403) (by decide +kernel), by decide +kernel⟩
theorem tw_1404 : Cond.selects yX9_buy.cls yX9_buy yX9_buy ∈ jm_tb := List.mem_filter.mpr ⟨List.mem_of_getElem? (i := 1404) (by decide +kernel), by decide +kernel⟩
theorem tw_1405 : Cond.code yX9_buy cX9_buy 8 (some .int) ∈ jm_tb := List.mem_filter.mpr ⟨List.mem_of_getElem? (i := 1405) (by decide +kernel), by decide +kernel⟩
theorem qL_105 : jm_CV "WeighedInBooksLaw" 105 yX9_buy cX9_buy 8 (some .int) 3 := ⟨tw_1402, tw_1403, tw_1404, tw_89, tw_1405, by decide, by decide, by decide +kernel⟩
theorem tw_762 : Cond.methodLink "WeighedInBooksLaw" 106 yX8_borrow ∈ jm_tb := List.mem_filter.mpr ⟨List.mem_of_getElem? (i := 762) (by decide +kernel), by decide +kernel⟩
theorem tw_763 : Cond.instanceMethod yX8_borrow ∈ jm_tb := List.mem_filter.mpr ⟨List.mem_of_getElem? (i := 763) (by decide +kernel), by decide +kernel⟩
theorem tw_764 : Cond.selects yX8_borrow.cls yX8_borrow yX8_borrow ∈ jm_tb := List.mem_filter.mpr ⟨List.mem_of_getElem? (i := 764) (by decide +kernel), by decide +kernel⟩
theorem tw_765 : Cond.code yX8_borrow cX8_borrow 4 (some .int) ∈ jm_tb := List.mem_filter.mpr ⟨List.mem_of_getElem? (i := 765) (by decide +kernel), by decide +kernel⟩
theorem qL_106 : jm_CV "WeighedInBooksLaw" 106 yX8_borrow cX8_borrow 4 (some .int) 3 := ⟨tw_762, tw_763, tw_764, tw_82, tw_765, by decide, by decide, by decide +kernel⟩
theorem tw_1418 : Cond.methodLink "WeighedInBooksLaw" 109 yX9_borrow ∈ jm_tb := List.mem_filter.mpr ⟨List.mem_of_getElem? (i := 1418) (by decide +kernel), by decide +kernel⟩
theorem tw_1419 : Cond.instanceMethod yX9_borrow ∈ jm_tb := List.mem_filter.mpr ⟨List.mem_of_getElem? (i := 1419) (by decide +kernel), by decide +kernel⟩
theorem tw_1420 : Cond.selects yX9_borrow.cls yX9_borrow yX9_borrow ∈ jm_tb := List.mem_filter.mpr ⟨List.mem_of_getElem? (i := 1420) (by decide +kernel), by decide +kernel⟩
theorem tw_1421 : Cond.code yX9_borrow cX9_borrow 9 (some .int) ∈ jm_tb := List.mem_filter.mpr ⟨List.mem_of_getElem? (i := 1421) (by decide +kernel), by decide +kernel⟩
theorem qL_109 : jm_CV "WeighedInBooksLaw" 109 yX9_borrow cX9_borrow 9 (some .int) 3 := ⟨tw_1418, tw_1419, tw_1420, tw_89, tw_1421, by decide, by decide, by decide +kernel⟩
theorem tw_771 : Cond.methodLink "WeighedInBooksLaw" 110 yX8_taught ∈ jm_tb := List.mem_filter.mpr ⟨List.mem_of_getElem? (i := 771) (by decide +kernel), by decide +kernel⟩
theorem tw_772 : Cond.instanceMethod yX8_taught ∈ jm_tb := List.mem_filter.mpr ⟨List.mem_of_getElem? (i := 772) (by decide +kernel), by decide +kernel⟩
theorem tw_773 : Cond.selects yX8_taught.cls yX8_taught yX8_taught ∈ jm_tb := List.mem_filter.mpr ⟨List.mem_of_getElem? (i := 773) (by decide +kernel), by decide +kernel⟩
theorem tw_774 : Cond.code yX8_taught cX8_taught 5 (some .int) ∈ jm_tb := List.mem_filter.mpr ⟨List.mem_of_getElem? (i := 774) (by decide +kernel), by decide +kernel⟩
theorem qL_110 : jm_CV "WeighedInBooksLaw" 110 yX8_taught cX8_taught 5 (some .int) 4 := ⟨tw_771, tw_772, tw_773, tw_82, tw_774, by decide, by decide, by decide +kernel⟩
theorem tw_1422 : Cond.methodLink "WeighedInBooksLaw" 113 yX9_taught ∈ jm_tb := List.mem_filter.mpr ⟨List.mem_of_getElem? (i := 1422) (by decide +kernel), by decide +kernel⟩
theorem tw_1423 : Cond.instanceMethod yX9_taught ∈ jm_tb := List.mem_filter.mpr ⟨List.mem_of_getElem? (i := 1423) (by decide +kernel), by decide +kernel⟩
theorem tw_1424 : Cond.selects yX9_taught.cls yX9_taught yX9_taught ∈ jm_tb := List.mem_filter.mpr ⟨List.mem_of_getElem? (i := 1424) (by decide +kernel), by decide +kernel⟩
theorem tw_1425 : Cond.code yX9_taught cX9_taught 10 (some .int) ∈ jm_tb := List.mem_filter.mpr ⟨List.mem_of_getElem? (i := 1425) (by decide +kernel), by decide +kernel⟩
theorem qL_113 : jm_CV "WeighedInBooksLaw" 113 yX9_taught cX9_taught 10 (some .int) 4 := ⟨tw_1422, tw_1423, tw_1424, tw_89, tw_1425, by decide, by decide, by decide +kernel⟩
theorem tw_670 : Cond.methodLink "WeighedInBooksLaw" 114 yX8_couples ∈ jm_tb := List.mem_filter.mpr ⟨List.mem_of_getElem? (i := 670) (by decide +kernel), by decide +kernel⟩
theorem tw_671 : Cond.instanceMethod yX8_couples ∈ jm_tb := List.mem_filter.mpr ⟨List.mem_of_getElem? (i := 671) (by decide +kernel), by decide +kernel⟩
theorem tw_672 : Cond.selects yX8_couples.cls yX8_couples yX8_couples ∈ jm_tb := List.mem_filter.mpr ⟨List.mem_of_getElem? (i := 672) (by decide +kernel), by decide +kernel⟩
theorem tw_673 : Cond.code yX8_couples cX8_couples 2 (some .int) ∈ jm_tb := List.mem_filter.mpr ⟨List.mem_of_getElem? (i := 673) (by decide +kernel), by decide +kernel⟩
theorem qL_114 : jm_CV "WeighedInBooksLaw" 114 yX8_couples cX8_couples 2 (some .int) 1 := ⟨tw_670, tw_671, tw_672, tw_82, tw_673, by decide, by decide, by decide +kernel⟩
theorem tw_1426 : Cond.methodLink "WeighedInBooksLaw" 117 yX9_couples ∈ jm_tb := List.mem_filter.mpr ⟨List.mem_of_getElem? (i := 1426) (by decide +kernel), by decide +kernel⟩
theorem tw_1427 : Cond.instanceMethod yX9_couples ∈ jm_tb := List.mem_filter.mpr ⟨List.mem_of_getElem? (i := 1427) (by decide +kernel), by decide +kernel⟩
theorem tw_1428 : Cond.selects yX9_couples.cls yX9_couples yX9_couples ∈ jm_tb := List.mem_filter.mpr ⟨List.mem_of_getElem? (i := 1428) (by decide +kernel), by decide +kernel⟩
theorem tw_1429 : Cond.code yX9_couples cX9_couples 2 (some .int) ∈ jm_tb := List.mem_filter.mpr ⟨List.mem_of_getElem? (i := 1429) (by decide +kernel), by decide +kernel⟩
theorem qL_117 : jm_CV "WeighedInBooksLaw" 117 yX9_couples cX9_couples 2 (some .int) 1 := ⟨tw_1426, tw_1427, tw_1428, tw_89, tw_1429, by decide, by decide, by decide +kernel⟩
theorem tw_704 : Cond.methodLink "WeighedInBooksLaw" 118 yX8_heaviest ∈ jm_tb := List.mem_filter.mpr ⟨List.mem_of_getElem? (i := 704) (by decide +kernel), by decide +kernel⟩
theorem tw_705 : Cond.instanceMethod yX8_heaviest ∈ jm_tb := List.mem_filter.mpr ⟨List.mem_of_getElem? (i := 705) (by decide +kernel), by decide +kernel⟩
theorem tw_706 : Cond.selects yX8_heaviest.cls yX8_heaviest yX8_heaviest ∈ jm_tb := List.mem_filter.mpr ⟨List.mem_of_getElem? (i := 706) (by decide +kernel), by decide +kernel⟩
theorem tw_707 : Cond.code yX8_heaviest cX8_heaviest 5 (some .int) ∈ jm_tb := List.mem_filter.mpr ⟨List.mem_of_getElem? (i := 707) (by decide +kernel), by decide +kernel⟩
theorem qL_118 : jm_CV "WeighedInBooksLaw" 118 yX8_heaviest cX8_heaviest 5 (some .int) 3 := ⟨tw_704, tw_705, tw_706, tw_82, tw_707, by decide, by decide, by decide +kernel⟩
theorem tw_1445 : Cond.methodLink "WeighedInBooksLaw" 121 yX9_heaviest ∈ jm_tb := List.mem_filter.mpr ⟨List.mem_of_getElem? (i := 1445) (by decide +kernel), by decide +kernel⟩
theorem tw_1446 : Cond.instanceMethod yX9_heaviest ∈ jm_tb := List.mem_filter.mpr ⟨List.mem_of_getElem? (i := 1446) (by decide +kernel), by decide +kernel⟩
theorem tw_1447 : Cond.selects yX9_heaviest.cls yX9_heaviest yX9_heaviest ∈ jm_tb := List.mem_filter.mpr ⟨List.mem_of_getElem? (i := 1447) (by decide +kernel), by decide +kernel⟩
theorem tw_1448 : Cond.code yX9_heaviest cX9_heaviest 6 (some .int) ∈ jm_tb := List.mem_filter.mpr ⟨List.mem_of_getElem? (i := 1448) (by decide +kernel), by decide +kernel⟩
theorem qL_121 : jm_CV "WeighedInBooksLaw" 121 yX9_heaviest cX9_heaviest 6 (some .int) 3 := ⟨tw_1445, tw_1446, tw_1447, tw_89, tw_1448, by decide, by decide, by decide +kernel⟩
theorem tw_781 : Cond.methodLink "WeighedInBooksLaw" 122 yX8_whatKind ∈ jm_tb := List.mem_filter.mpr ⟨List.mem_of_getElem? (i := 781) (by decide +kernel), by decide +kernel⟩
theorem tw_782 : Cond.instanceMethod yX8_whatKind ∈ jm_tb := List.mem_filter.mpr ⟨List.mem_of_getElem? (i := 782) (by decide +kernel), by decide +kernel⟩
theorem tw_783 : Cond.selects yX8_whatKind.cls yX8_whatKind yX8_whatKind ∈ jm_tb := List.mem_filter.mpr ⟨List.mem_of_getElem? (i := 783) (by decide +kernel), by decide +kernel⟩
theorem tw_784 : Cond.code yX8_whatKind cX8_whatKind 5 (some .int) ∈ jm_tb := List.mem_filter.mpr ⟨List.mem_of_getElem? (i := 784) (by decide +kernel), by decide +kernel⟩
theorem qL_122 : jm_CV "WeighedInBooksLaw" 122 yX8_whatKind cX8_whatKind 5 (some .int) 4 := ⟨tw_781, tw_782, tw_783, tw_82, tw_784, by decide, by decide, by decide +kernel⟩
theorem tw_1457 : Cond.methodLink "WeighedInBooksLaw" 125 yX9_whatKind ∈ jm_tb := List.mem_filter.mpr ⟨List.mem_of_getElem? (i := 1457) (by decide +kernel), by decide +kernel⟩
theorem tw_1458 : Cond.instanceMethod yX9_whatKind ∈ jm_tb := List.mem_filter.mpr ⟨List.mem_of_getElem? (i := 1458) (by decide +kernel), by decide +kernel⟩
theorem tw_1459 : Cond.selects yX9_whatKind.cls yX9_whatKind yX9_whatKind ∈ jm_tb := List.mem_filter.mpr ⟨List.mem_of_getElem? (i := 1459) (by decide +kernel), by decide +kernel⟩
theorem tw_1460 : Cond.code yX9_whatKind cX9_whatKind 8 (some .int) ∈ jm_tb := List.mem_filter.mpr ⟨List.mem_of_getElem? (i := 1460) (by decide +kernel), by decide +kernel⟩
theorem qL_125 : jm_CV "WeighedInBooksLaw" 125 yX9_whatKind cX9_whatKind 8 (some .int) 4 := ⟨tw_1457, tw_1458, tw_1459, tw_89, tw_1460, by decide, by decide, by decide +kernel⟩
theorem tw_790 : Cond.methodLink "WeighedInBooksLaw" 126 yX8_two ∈ jm_tb := List.mem_filter.mpr ⟨List.mem_of_getElem? (i := 790) (by decide +kernel), by decide +kernel⟩
theorem tw_791 : Cond.instanceMethod yX8_two ∈ jm_tb := List.mem_filter.mpr ⟨List.mem_of_getElem? (i := 791) (by decide +kernel), by decide +kernel⟩
theorem tw_792 : Cond.selects yX8_two.cls yX8_two yX8_two ∈ jm_tb := List.mem_filter.mpr ⟨List.mem_of_getElem? (i := 792) (by decide +kernel), by decide +kernel⟩
theorem tw_793 : Cond.code yX8_two cX8_two 4 (some .int) ∈ jm_tb := List.mem_filter.mpr ⟨List.mem_of_getElem? (i := 793) (by decide +kernel), by decide +kernel⟩
theorem qL_126 : jm_CV "WeighedInBooksLaw" 126 yX8_two cX8_two 4 (some .int) 3 := ⟨tw_790, tw_791, tw_792, tw_82, tw_793, by decide, by decide, by decide +kernel⟩
theorem tw_1465 : Cond.methodLink "WeighedInBooksLaw" 129 yX9_two ∈ jm_tb := List.mem_filter.mpr ⟨List.mem_of_getElem? (i := 1465) (by decide +kernel), by decide +kernel⟩
theorem tw_1466 : Cond.instanceMethod yX9_two ∈ jm_tb := List.mem_filter.mpr ⟨List.mem_of_getElem? (i := 1466) (by decide +kernel), by decide +kernel⟩
theorem tw_1467 : Cond.selects yX9_two.cls yX9_two yX9_two ∈ jm_tb := List.mem_filter.mpr ⟨List.mem_of_getElem? (i := 1467) (by decide +kernel), by decide +kernel⟩
theorem tw_1468 : Cond.code yX9_two cX9_two 6 (some .int) ∈ jm_tb := List.mem_filter.mpr ⟨List.mem_of_getElem? (i := 1468) (by decide +kernel), by decide +kernel⟩
theorem qL_129 : jm_CV "WeighedInBooksLaw" 129 yX9_two cX9_two 6 (some .int) 3 := ⟨tw_1465, tw_1466, tw_1467, tw_89, tw_1468, by decide, by decide, by decide +kernel⟩
theorem tw_807 : Cond.methodLink "WeighedInBooksLaw" 130 yX8_damp ∈ jm_tb := List.mem_filter.mpr ⟨List.mem_of_getElem? (i := 807) (by decide +kernel), by decide +kernel⟩
theorem tw_808 : Cond.instanceMethod yX8_damp ∈ jm_tb := List.mem_filter.mpr ⟨List.mem_of_getElem? (i := 808) (by decide +kernel), by decide +kernel⟩
theorem tw_809 : Cond.selects yX8_damp.cls yX8_damp yX8_damp ∈ jm_tb := List.mem_filter.mpr ⟨List.mem_of_getElem? (i := 809) (by decide +kernel), by decide +kernel⟩
theorem tw_810 : Cond.code yX8_damp cX8_damp 6 (some .long) ∈ jm_tb := List.mem_filter.mpr ⟨List.mem_of_getElem? (i := 810) (by decide +kernel), by decide +kernel⟩
theorem qL_130 : jm_CV "WeighedInBooksLaw" 130 yX8_damp cX8_damp 6 (some .long) 5 := ⟨tw_807, tw_808, tw_809, tw_82, tw_810, by decide, by decide, by decide +kernel⟩
theorem tw_1477 : Cond.methodLink "WeighedInBooksLaw" 134 yX9_damp ∈ jm_tb := List.mem_filter.mpr ⟨List.mem_of_getElem? (i := 1477) (by decide +kernel), by decide +kernel⟩
theorem tw_1478 : Cond.instanceMethod yX9_damp ∈ jm_tb := List.mem_filter.mpr ⟨List.mem_of_getElem? (i := 1478) (by decide +kernel), by decide +kernel⟩
theorem tw_1479 : Cond.selects yX9_damp.cls yX9_damp yX9_damp ∈ jm_tb := List.mem_filter.mpr ⟨List.mem_of_getElem? (i := 1479) (by decide +kernel), by decide +kernel⟩
theorem tw_1480 : Cond.code yX9_damp cX9_damp 15 (some .long) ∈ jm_tb := List.mem_filter.mpr ⟨List.mem_of_getElem? (i := 1480) (by decide +kernel), by decide +kernel⟩
theorem qL_134 : jm_CV "WeighedInBooksLaw" 134 yX9_damp cX9_damp 15 (some .long) 5 := ⟨tw_1477, tw_1478, tw_1479, tw_89, tw_1480, by decide, by decide, by decide +kernel⟩
theorem tw_849 : Cond.methodLink "WeighedInBooksLaw" 135 yX8_titles ∈ jm_tb := List.mem_filter.mpr ⟨List.mem_of_getElem? (i := 849) (by decide +kernel), by decide +kernel⟩
theorem tw_850 : Cond.instanceMethod yX8_titles ∈ jm_tb := List.mem_filter.mpr ⟨List.mem_of_getElem? (i := 850) (by decide +kernel), by decide +kernel⟩
theorem tw_851 : Cond.selects yX8_titles.cls yX8_titles yX8_titles ∈ jm_tb := List.mem_filter.mpr ⟨List.mem_of_getElem? (i := 851) (by decide +kernel), by decide +kernel⟩
theorem tw_852 : Cond.code yX8_titles cX8_titles 3 (some .int) ∈ jm_tb := List.mem_filter.mpr ⟨List.mem_of_getElem? (i := 852) (by decide +kernel), by decide +kernel⟩
theorem qL_135 : jm_CV "WeighedInBooksLaw" 135 yX8_titles cX8_titles 3 (some .int) 2 := ⟨tw_849, tw_850, tw_851, tw_82, tw_852, by decide, by decide, by decide +kernel⟩
theorem tw_1492 : Cond.methodLink "WeighedInBooksLaw" 138 yX9_titles ∈ jm_tb := List.mem_filter.mpr ⟨List.mem_of_getElem? (i := 1492) (by decide +kernel), by decide +kernel⟩
theorem tw_1493 : Cond.instanceMethod yX9_titles ∈ jm_tb := List.mem_filter.mpr ⟨List.mem_of_getElem? (i := 1493) (by decide +kernel), by decide +kernel⟩
theorem tw_1494 : Cond.selects yX9_titles.cls yX9_titles yX9_titles ∈ jm_tb := List.mem_filter.mpr ⟨List.mem_of_getElem? (i := 1494) (by decide +kernel), by decide +kernel⟩
theorem tw_1495 : Cond.code yX9_titles cX9_titles 4 (some .int) ∈ jm_tb := List.mem_filter.mpr ⟨List.mem_of_getElem? (i := 1495) (by decide +kernel), by decide +kernel⟩
theorem qL_138 : jm_CV "WeighedInBooksLaw" 138 yX9_titles cX9_titles 4 (some .int) 2 := ⟨tw_1492, tw_1493, tw_1494, tw_89, tw_1495, by decide, by decide, by decide +kernel⟩
theorem tw_861 : Cond.methodLink "WeighedInBooksLaw" 139 yX8_from ∈ jm_tb := List.mem_filter.mpr ⟨List.mem_of_getElem? (i := 861) (by decide +kernel), by decide +kernel⟩
theorem tw_862 : Cond.instanceMethod yX8_from ∈ jm_tb := List.mem_filter.mpr ⟨List.mem_of_getElem? (i := 862) (by decide +kernel), by decide +kernel⟩
theorem tw_863 : Cond.selects yX8_from.cls yX8_from yX8_from ∈ jm_tb := List.mem_filter.mpr ⟨List.mem_of_getElem? (i := 863) (by decide +kernel), by decide +kernel⟩
theorem tw_864 : Cond.code yX8_from cX8_from 2 (some .int) ∈ jm_tb := List.mem_filter.mpr ⟨List.mem_of_getElem? (i := 864) (by decide +kernel), by decide +kernel⟩
theorem qL_139 : jm_CV "WeighedInBooksLaw" 139 yX8_from cX8_from 2 (some .int) 1 := ⟨tw_861, tw_862, tw_863, tw_82, tw_864, by decide, by decide, by decide +kernel⟩
theorem tw_1504 : Cond.methodLink "WeighedInBooksLaw" 142 yX9_from ∈ jm_tb := List.mem_filter.mpr ⟨List.mem_of_getElem? (i := 1504) (by decide +kernel), by decide +kernel⟩
theorem tw_1505 : Cond.instanceMethod yX9_from ∈ jm_tb := List.mem_filter.mpr ⟨List.mem_of_getElem? (i := 1505) (by decide +kernel), by decide +kernel⟩
theorem tw_1506 : Cond.selects yX9_from.cls yX9_from yX9_from ∈ jm_tb := List.mem_filter.mpr ⟨List.mem_of_getElem? (i := 1506) (by decide +kernel), by decide +kernel⟩
theorem tw_1507 : Cond.code yX9_from cX9_from 5 (some .int) ∈ jm_tb := List.mem_filter.mpr ⟨List.mem_of_getElem? (i := 1507) (by decide +kernel), by decide +kernel⟩
theorem qL_142 : jm_CV "WeighedInBooksLaw" 142 yX9_from cX9_from 5 (some .int) 1 := ⟨tw_1504, tw_1505, tw_1506, tw_89, tw_1507, by decide, by decide, by decide +kernel⟩
theorem tw_865 : Cond.methodLink "WeighedInBooksLaw" 143 yX8_shelf ∈ jm_tb := List.mem_filter.mpr ⟨List.mem_of_getElem? (i := 865) (by decide +kernel), by decide +kernel⟩
theorem tw_866 : Cond.instanceMethod yX8_shelf ∈ jm_tb := List.mem_filter.mpr ⟨List.mem_of_getElem? (i := 866) (by decide +kernel), by decide +kernel⟩
theorem tw_867 : Cond.selects yX8_shelf.cls yX8_shelf yX8_shelf ∈ jm_tb := List.mem_filter.mpr ⟨List.mem_of_getElem? (i := 867) (by decide +kernel), by decide +kernel⟩
theorem tw_868 : Cond.code yX8_shelf cX8_shelf 3 (some .int) ∈ jm_tb := List.mem_filter.mpr ⟨List.mem_of_getElem? (i := 868) (by decide +kernel), by decide +kernel⟩
theorem qL_143 : jm_CV "WeighedInBooksLaw" 143 yX8_shelf cX8_shelf 3 (some .int) 2 := ⟨tw_865, tw_866, tw_867, tw_82, tw_868, by decide, by decide, by decide +kernel⟩
theorem tw_1508 : Cond.methodLink "WeighedInBooksLaw" 146 yX9_shelf ∈ jm_tb := List.mem_filter.mpr ⟨List.mem_of_getElem? (i := 1508) (by decide +kernel), by decide +kernel⟩
theorem tw_1509 : Cond.instanceMethod yX9_shelf ∈ jm_tb := List.mem_filter.mpr ⟨List.mem_of_getElem? (i := 1509) (by decide +kernel), by decide +kernel⟩
theorem tw_1510 : Cond.selects yX9_shelf.cls yX9_shelf yX9_shelf ∈ jm_tb := List.mem_filter.mpr ⟨List.mem_of_getElem? (i := 1510) (by decide +kernel), by decide +kernel⟩
theorem tw_1511 : Cond.code yX9_shelf cX9_shelf 3 (some .int) ∈ jm_tb := List.mem_filter.mpr ⟨List.mem_of_getElem? (i := 1511) (by decide +kernel), by decide +kernel⟩
theorem qL_146 : jm_CV "WeighedInBooksLaw" 146 yX9_shelf cX9_shelf 3 (some .int) 2 := ⟨tw_1508, tw_1509, tw_1510, tw_89, tw_1511, by decide, by decide, by decide +kernel⟩
theorem tw_882 : Cond.methodLink "WeighedInBooksLaw" 147 yX8_sight ∈ jm_tb := List.mem_filter.mpr ⟨List.mem_of_getElem? (i := 882) (by decide +kernel), by decide +kernel⟩
theorem tw_883 : Cond.instanceMethod yX8_sight ∈ jm_tb := List.mem_filter.mpr ⟨List.mem_of_getElem? (i := 883) (by decide +kernel), by decide +kernel⟩
theorem tw_884 : Cond.selects yX8_sight.cls yX8_sight yX8_sight ∈ jm_tb := List.mem_filter.mpr ⟨List.mem_of_getElem? (i := 884) (by decide +kernel), by decide +kernel⟩
theorem tw_885 : Cond.code yX8_sight cX8_sight 2 (some .int) ∈ jm_tb := List.mem_filter.mpr ⟨List.mem_of_getElem? (i := 885) (by decide +kernel), by decide +kernel⟩
theorem qL_147 : jm_CV "WeighedInBooksLaw" 147 yX8_sight cX8_sight 2 (some .int) 1 := ⟨tw_882, tw_883, tw_884, tw_82, tw_885, by decide, by decide, by decide +kernel⟩
theorem tw_1528 : Cond.methodLink "WeighedInBooksLaw" 150 yX9_sight ∈ jm_tb := List.mem_filter.mpr ⟨List.mem_of_getElem? (i := 1528) (by decide +kernel), by decide +kernel⟩
theorem tw_1529 : Cond.instanceMethod yX9_sight ∈ jm_tb := List.mem_filter.mpr ⟨List.mem_of_getElem? (i := 1529) (by decide +kernel), by decide +kernel⟩
theorem tw_1530 : Cond.selects yX9_sight.cls yX9_sight yX9_sight ∈ jm_tb := List.mem_filter.mpr ⟨List.mem_of_getElem? (i := 1530) (by decide +kernel), by decide +kernel⟩
theorem tw_1531 : Cond.code yX9_sight cX9_sight 2 (some .int) ∈ jm_tb := List.mem_filter.mpr ⟨List.mem_of_getElem? (i := 1531) (by decide +kernel), by decide +kernel⟩
theorem qL_150 : jm_CV "WeighedInBooksLaw" 150 yX9_sight cX9_sight 2 (some .int) 1 := ⟨tw_1528, tw_1529, tw_1530, tw_89, tw_1531, by decide, by decide, by decide +kernel⟩
theorem tw_909 : Cond.methodLink "WeighedInBooksLaw" 151 yX8_share ∈ jm_tb := List.mem_filter.mpr ⟨List.mem_of_getElem? (i := 909) (by decide +kernel), by decide +kernel⟩
theorem tw_910 : Cond.instanceMethod yX8_share ∈ jm_tb := List.mem_filter.mpr ⟨List.mem_of_getElem? (i := 910) (by decide +kernel), by decide +kernel⟩
theorem tw_911 : Cond.selects yX8_share.cls yX8_share yX8_share ∈ jm_tb := List.mem_filter.mpr ⟨List.mem_of_getElem? (i := 911) (by decide +kernel), by decide +kernel⟩
theorem tw_912 : Cond.code yX8_share cX8_share 3 (some .long) ∈ jm_tb := List.mem_filter.mpr ⟨List.mem_of_getElem? (i := 912) (by decide +kernel), by decide +kernel⟩
theorem qL_151 : jm_CV "WeighedInBooksLaw" 151 yX8_share cX8_share 3 (some .long) 2 := ⟨tw_909, tw_910, tw_911, tw_82, tw_912, by decide, by decide, by decide +kernel⟩
theorem tw_1551 : Cond.methodLink "WeighedInBooksLaw" 155 yX9_share ∈ jm_tb := List.mem_filter.mpr ⟨List.mem_of_getElem? (i := 1551) (by decide +kernel), by decide +kernel⟩
theorem tw_1552 : Cond.instanceMethod yX9_share ∈ jm_tb := List.mem_filter.mpr ⟨List.mem_of_getElem? (i := 1552) (by decide +kernel), by decide +kernel⟩
theorem tw_1553 : Cond.selects yX9_share.cls yX9_share yX9_share ∈ jm_tb := List.mem_filter.mpr ⟨List.mem_of_getElem? (i := 1553) (by decide +kernel), by decide +kernel⟩
theorem tw_1554 : Cond.code yX9_share cX9_share 4 (some .long) ∈ jm_tb := List.mem_filter.mpr ⟨List.mem_of_getElem? (i := 1554) (by decide +kernel), by decide +kernel⟩
theorem qL_155 : jm_CV "WeighedInBooksLaw" 155 yX9_share cX9_share 4 (some .long) 2 := ⟨tw_1551, tw_1552, tw_1553, tw_89, tw_1554, by decide, by decide, by decide +kernel⟩
theorem tw_913 : Cond.methodLink "WeighedInBooksLaw" 156 yX8_byHeart ∈ jm_tb := List.mem_filter.mpr ⟨List.mem_of_getElem? (i := 913) (by decide +kernel), by decide +kernel⟩
theorem tw_914 : Cond.instanceMethod yX8_byHeart ∈ jm_tb := List.mem_filter.mpr ⟨List.mem_of_getElem? (i := 914) (by decide +kernel), by decide +kernel⟩
theorem tw_915 : Cond.selects yX8_byHeart.cls yX8_byHeart yX8_byHeart ∈ jm_tb := List.mem_filter.mpr ⟨List.mem_of_getElem? (i := 915) (by decide +kernel), by decide +kernel⟩
theorem tw_916 : Cond.code yX8_byHeart cX8_byHeart 3 (some .int) ∈ jm_tb := List.mem_filter.mpr ⟨List.mem_of_getElem? (i := 916) (by decide +kernel), by decide +kernel⟩
theorem qL_156 : jm_CV "WeighedInBooksLaw" 156 yX8_byHeart cX8_byHeart 3 (some .int) 2 := ⟨tw_913, tw_914, tw_915, tw_82, tw_916, by decide, by decide, by decide +kernel⟩
theorem tw_1555 : Cond.methodLink "WeighedInBooksLaw" 159 yX9_byHeart ∈ jm_tb := List.mem_filter.mpr ⟨List.mem_of_getElem? (i := 1555) (by decide +kernel), by decide +kernel⟩
theorem tw_1556 : Cond.instanceMethod yX9_byHeart ∈ jm_tb := List.mem_filter.mpr ⟨List.mem_of_getElem? (i := 1556) (by decide +kernel), by decide +kernel⟩
theorem tw_1557 : Cond.selects yX9_byHeart.cls yX9_byHeart yX9_byHeart ∈ jm_tb := List.mem_filter.mpr ⟨List.mem_of_getElem? (i := 1557) (by decide +kernel), by decide +kernel⟩
theorem tw_1558 : Cond.code yX9_byHeart cX9_byHeart 5 (some .int) ∈ jm_tb := List.mem_filter.mpr ⟨List.mem_of_getElem? (i := 1558) (by decide +kernel), by decide +kernel⟩
theorem qL_159 : jm_CV "WeighedInBooksLaw" 159 yX9_byHeart cX9_byHeart 5 (some .int) 2 := ⟨tw_1555, tw_1556, tw_1557, tw_89, tw_1558, by decide, by decide, by decide +kernel⟩
theorem tw_918 : Cond.methodLink "WeighedInBooksLaw" 160 yX8_kinds ∈ jm_tb := List.mem_filter.mpr ⟨List.mem_of_getElem? (i := 918) (by decide +kernel), by decide +kernel⟩
theorem tw_919 : Cond.instanceMethod yX8_kinds ∈ jm_tb := List.mem_filter.mpr ⟨List.mem_of_getElem? (i := 919) (by decide +kernel), by decide +kernel⟩
theorem tw_920 : Cond.selects yX8_kinds.cls yX8_kinds yX8_kinds ∈ jm_tb := List.mem_filter.mpr ⟨List.mem_of_getElem? (i := 920) (by decide +kernel), by decide +kernel⟩
theorem tw_921 : Cond.code yX8_kinds cX8_kinds 2 (some .int) ∈ jm_tb := List.mem_filter.mpr ⟨List.mem_of_getElem? (i := 921) (by decide +kernel), by decide +kernel⟩
theorem qL_160 : jm_CV "WeighedInBooksLaw" 160 yX8_kinds cX8_kinds 2 (some .int) 1 := ⟨tw_918, tw_919, tw_920, tw_82, tw_921, by decide, by decide, by decide +kernel⟩
theorem tw_1559 : Cond.methodLink "WeighedInBooksLaw" 163 yX9_kinds ∈ jm_tb := List.mem_filter.mpr ⟨List.mem_of_getElem? (i := 1559) (by decide +kernel), by decide +kernel⟩
theorem tw_1560 : Cond.instanceMethod yX9_kinds ∈ jm_tb := List.mem_filter.mpr ⟨List.mem_of_getElem? (i := 1560) (by decide +kernel), by decide +kernel⟩
theorem tw_1561 : Cond.selects yX9_kinds.cls yX9_kinds yX9_kinds ∈ jm_tb := List.mem_filter.mpr ⟨List.mem_of_getElem? (i := 1561) (by decide +kernel), by decide +kernel⟩
theorem tw_1562 : Cond.code yX9_kinds cX9_kinds 2 (some .int) ∈ jm_tb := List.mem_filter.mpr ⟨List.mem_of_getElem? (i := 1562) (by decide +kernel), by decide +kernel⟩
theorem qL_163 : jm_CV "WeighedInBooksLaw" 163 yX9_kinds cX9_kinds 2 (some .int) 1 := ⟨tw_1559, tw_1560, tw_1561, tw_89, tw_1562, by decide, by decide, by decide +kernel⟩
theorem tw_922 : Cond.methodLink "WeighedInBooksLaw" 164 yX8_row ∈ jm_tb := List.mem_filter.mpr ⟨List.mem_of_getElem? (i := 922) (by decide +kernel), by decide +kernel⟩
theorem tw_923 : Cond.instanceMethod yX8_row ∈ jm_tb := List.mem_filter.mpr ⟨List.mem_of_getElem? (i := 923) (by decide +kernel), by decide +kernel⟩
theorem tw_924 : Cond.selects yX8_row.cls yX8_row yX8_row ∈ jm_tb := List.mem_filter.mpr ⟨List.mem_of_getElem? (i := 924) (by decide +kernel), by decide +kernel⟩
theorem tw_925 : Cond.code yX8_row cX8_row 2 (some .int) ∈ jm_tb := List.mem_filter.mpr ⟨List.mem_of_getElem? (i := 925) (by decide +kernel), by decide +kernel⟩
theorem qL_164 : jm_CV "WeighedInBooksLaw" 164 yX8_row cX8_row 2 (some .int) 1 := ⟨tw_922, tw_923, tw_924, tw_82, tw_925, by decide, by decide, by decide +kernel⟩
theorem tw_1563 : Cond.methodLink "WeighedInBooksLaw" 167 yX9_row ∈ jm_tb := List.mem_filter.mpr ⟨List.mem_of_getElem? (i := 1563) (by decide +kernel), by decide +kernel⟩
theorem tw_1564 : Cond.instanceMethod yX9_row ∈ jm_tb := List.mem_filter.mpr ⟨List.mem_of_getElem? (i := 1564) (by decide +kernel), by decide +kernel⟩
theorem tw_1565 : Cond.selects yX9_row.cls yX9_row yX9_row ∈ jm_tb := List.mem_filter.mpr ⟨List.mem_of_getElem? (i := 1565) (by decide +kernel), by decide +kernel⟩
theorem tw_1566 : Cond.code yX9_row cX9_row 3 (some .int) ∈ jm_tb := List.mem_filter.mpr ⟨List.mem_of_getElem? (i := 1566) (by decide +kernel), by decide +kernel⟩
theorem qL_167 : jm_CV "WeighedInBooksLaw" 167 yX9_row cX9_row 3 (some .int) 1 := ⟨tw_1563, tw_1564, tw_1565, tw_89, tw_1566, by decide, by decide, by decide +kernel⟩
theorem tw_926 : Cond.methodLink "WeighedInBooksLaw" 168 yX8_judge ∈ jm_tb := List.mem_filter.mpr ⟨List.mem_of_getElem? (i := 926) (by decide +kernel), by decide +kernel⟩
theorem tw_927 : Cond.instanceMethod yX8_judge ∈ jm_tb := List.mem_filter.mpr ⟨List.mem_of_getElem? (i := 927) (by decide +kernel), by decide +kernel⟩
theorem tw_928 : Cond.selects yX8_judge.cls yX8_judge yX8_judge ∈ jm_tb := List.mem_filter.mpr ⟨List.mem_of_getElem? (i := 928) (by decide +kernel), by decide +kernel⟩
theorem tw_929 : Cond.code yX8_judge cX8_judge 3 (some .int) ∈ jm_tb := List.mem_filter.mpr ⟨List.mem_of_getElem? (i := 929) (by decide +kernel), by decide +kernel⟩
theorem qL_168 : jm_CV "WeighedInBooksLaw" 168 yX8_judge cX8_judge 3 (some .int) 0 := ⟨tw_926, tw_927, tw_928, tw_82, tw_929, by decide, by decide, by decide +kernel⟩
theorem tw_1567 : Cond.methodLink "WeighedInBooksLaw" 171 yX9_judge ∈ jm_tb := List.mem_filter.mpr ⟨List.mem_of_getElem? (i := 1567) (by decide +kernel), by decide +kernel⟩
theorem tw_1568 : Cond.instanceMethod yX9_judge ∈ jm_tb := List.mem_filter.mpr ⟨List.mem_of_getElem? (i := 1568) (by decide +kernel), by decide +kernel⟩
theorem tw_1569 : Cond.selects yX9_judge.cls yX9_judge yX9_judge ∈ jm_tb := List.mem_filter.mpr ⟨List.mem_of_getElem? (i := 1569) (by decide +kernel), by decide +kernel⟩
theorem tw_1570 : Cond.code yX9_judge cX9_judge 3 (some .int) ∈ jm_tb := List.mem_filter.mpr ⟨List.mem_of_getElem? (i := 1570) (by decide +kernel), by decide +kernel⟩
theorem qL_171 : jm_CV "WeighedInBooksLaw" 171 yX9_judge cX9_judge 3 (some .int) 0 := ⟨tw_1567, tw_1568, tw_1569, tw_89, tw_1570, by decide, by decide, by decide +kernel⟩
theorem tw_930 : Cond.methodLink "WeighedInBooksLaw" 172 yX8_clear ∈ jm_tb := List.mem_filter.mpr ⟨List.mem_of_getElem? (i := 930) (by decide +kernel), by decide +kernel⟩
theorem tw_931 : Cond.instanceMethod yX8_clear ∈ jm_tb := List.mem_filter.mpr ⟨List.mem_of_getElem? (i := 931) (by decide +kernel), by decide +kernel⟩
theorem tw_932 : Cond.selects yX8_clear.cls yX8_clear yX8_clear ∈ jm_tb := List.mem_filter.mpr ⟨List.mem_of_getElem? (i := 932) (by decide +kernel), by decide +kernel⟩
theorem tw_933 : Cond.code yX8_clear cX8_clear 2 (some .int) ∈ jm_tb := List.mem_filter.mpr ⟨List.mem_of_getElem? (i := 933) (by decide +kernel), by decide +kernel⟩
theorem qL_172 : jm_CV "WeighedInBooksLaw" 172 yX8_clear cX8_clear 2 (some .int) 0 := ⟨tw_930, tw_931, tw_932, tw_82, tw_933, by decide, by decide, by decide +kernel⟩
theorem tw_1571 : Cond.methodLink "WeighedInBooksLaw" 175 yX9_clear ∈ jm_tb := List.mem_filter.mpr ⟨List.mem_of_getElem? (i := 1571) (by decide +kernel), by decide +kernel⟩
theorem tw_1572 : Cond.instanceMethod yX9_clear ∈ jm_tb := List.mem_filter.mpr ⟨List.mem_of_getElem? (i := 1572) (by decide +kernel), by decide +kernel⟩
theorem tw_1573 : Cond.selects yX9_clear.cls yX9_clear yX9_clear ∈ jm_tb := List.mem_filter.mpr ⟨List.mem_of_getElem? (i := 1573) (by decide +kernel), by decide +kernel⟩
theorem tw_1574 : Cond.code yX9_clear cX9_clear 2 (some .int) ∈ jm_tb := List.mem_filter.mpr ⟨List.mem_of_getElem? (i := 1574) (by decide +kernel), by decide +kernel⟩
theorem qL_175 : jm_CV "WeighedInBooksLaw" 175 yX9_clear cX9_clear 2 (some .int) 0 := ⟨tw_1571, tw_1572, tw_1573, tw_89, tw_1574, by decide, by decide, by decide +kernel⟩
theorem tw_825 : Cond.methodLink "WeighedInBooksLaw" 176 yX8_lots ∈ jm_tb := List.mem_filter.mpr ⟨List.mem_of_getElem? (i := 825) (by decide +kernel), by decide +kernel⟩
theorem tw_826 : Cond.instanceMethod yX8_lots ∈ jm_tb := List.mem_filter.mpr ⟨List.mem_of_getElem? (i := 826) (by decide +kernel), by decide +kernel⟩
theorem tw_827 : Cond.selects yX8_lots.cls yX8_lots yX8_lots ∈ jm_tb := List.mem_filter.mpr ⟨List.mem_of_getElem? (i := 827) (by decide +kernel), by decide +kernel⟩
theorem tw_828 : Cond.code yX8_lots cX8_lots 4 (some .int) ∈ jm_tb := List.mem_filter.mpr ⟨List.mem_of_getElem? (i := 828) (by decide +kernel), by decide +kernel⟩
theorem qL_176 : jm_CV "WeighedInBooksLaw" 176 yX8_lots cX8_lots 4 (some .int) 3 := ⟨tw_825, tw_826, tw_827, tw_82, tw_828, by decide, by decide, by decide +kernel⟩
theorem tw_1575 : Cond.methodLink "WeighedInBooksLaw" 179 yX9_lots ∈ jm_tb := List.mem_filter.mpr ⟨List.mem_of_getElem? (i := 1575) (by decide +kernel), by decide +kernel⟩
theorem tw_1576 : Cond.instanceMethod yX9_lots ∈ jm_tb := List.mem_filter.mpr ⟨List.mem_of_getElem? (i := 1576) (by decide +kernel), by decide +kernel⟩
theorem tw_1577 : Cond.selects yX9_lots.cls yX9_lots yX9_lots ∈ jm_tb := List.mem_filter.mpr ⟨List.mem_of_getElem? (i := 1577) (by decide +kernel), by decide +kernel⟩
theorem tw_1578 : Cond.code yX9_lots cX9_lots 9 (some .int) ∈ jm_tb := List.mem_filter.mpr ⟨List.mem_of_getElem? (i := 1578) (by decide +kernel), by decide +kernel⟩
theorem qL_179 : jm_CV "WeighedInBooksLaw" 179 yX9_lots cX9_lots 9 (some .int) 3 := ⟨tw_1575, tw_1576, tw_1577, tw_89, tw_1578, by decide, by decide, by decide +kernel⟩
theorem tw_934 : Cond.methodLink "WeighedInBooksLaw" 180 yX8_image ∈ jm_tb := List.mem_filter.mpr ⟨List.mem_of_getElem? (i := 934) (by decide +kernel), by decide +kernel⟩
theorem tw_935 : Cond.instanceMethod yX8_image ∈ jm_tb := List.mem_filter.mpr ⟨List.mem_of_getElem? (i := 935) (by decide +kernel), by decide +kernel⟩
theorem tw_936 : Cond.selects yX8_image.cls yX8_image yX8_image ∈ jm_tb := List.mem_filter.mpr ⟨List.mem_of_getElem? (i := 936) (by decide +kernel), by decide +kernel⟩
theorem tw_937 : Cond.code yX8_image cX8_image 1 (some .int) ∈ jm_tb := List.mem_filter.mpr ⟨List.mem_of_getElem? (i := 937) (by decide +kernel), by decide +kernel⟩
theorem qL_180 : jm_CV "WeighedInBooksLaw" 180 yX8_image cX8_image 1 (some .int) 0 := ⟨tw_934, tw_935, tw_936, tw_82, tw_937, by decide, by decide, by decide +kernel⟩
theorem tw_1235 : Cond.methodLink "WeighedInBooksLaw" 183 yX9_image ∈ jm_tb := List.mem_filter.mpr ⟨List.mem_of_getElem? (i := 1235) (by decide +kernel), by decide +kernel⟩
theorem tw_1236 : Cond.instanceMethod yX9_image ∈ jm_tb := List.mem_filter.mpr ⟨List.mem_of_getElem? (i := 1236) (by decide +kernel), by decide +kernel⟩
theorem tw_1237 : Cond.selects yX9_image.cls yX9_image yX9_image ∈ jm_tb := List.mem_filter.mpr ⟨List.mem_of_getElem? (i := 1237) (by decide +kernel), by decide +kernel⟩
theorem tw_1238 : Cond.code yX9_image cX9_image 1 (some .int) ∈ jm_tb := List.mem_filter.mpr ⟨List.mem_of_getElem? (i := 1238) (by decide +kernel), by decide +kernel⟩
theorem qL_183 : jm_CV "WeighedInBooksLaw" 183 yX9_image cX9_image 1 (some .int) 0 := ⟨tw_1235, tw_1236, tw_1237, tw_89, tw_1238, by decide, by decide, by decide +kernel⟩
theorem tw_939 : Cond.methodLink "WeighedInBooksLaw" 184 yX8_restore ∈ jm_tb := List.mem_filter.mpr ⟨List.mem_of_getElem? (i := 939) (by decide +kernel), by decide +kernel⟩
theorem tw_940 : Cond.instanceMethod yX8_restore ∈ jm_tb := List.mem_filter.mpr ⟨List.mem_of_getElem? (i := 940) (by decide +kernel), by decide +kernel⟩
theorem tw_941 : Cond.selects yX8_restore.cls yX8_restore yX8_restore ∈ jm_tb := List.mem_filter.mpr ⟨List.mem_of_getElem? (i := 941) (by decide +kernel), by decide +kernel⟩
theorem tw_942 : Cond.code yX8_restore cX8_restore 1 (some .int) ∈ jm_tb := List.mem_filter.mpr ⟨List.mem_of_getElem? (i := 942) (by decide +kernel), by decide +kernel⟩
theorem qL_184 : jm_CV "WeighedInBooksLaw" 184 yX8_restore cX8_restore 1 (some .int) 0 := ⟨tw_939, tw_940, tw_941, tw_82, tw_942, by decide, by decide, by decide +kernel⟩
theorem tw_1239 : Cond.methodLink "WeighedInBooksLaw" 187 yX9_restore ∈ jm_tb := List.mem_filter.mpr ⟨List.mem_of_getElem? (i := 1239) (by decide +kernel), by decide +kernel⟩
theorem tw_1240 : Cond.instanceMethod yX9_restore ∈ jm_tb := List.mem_filter.mpr ⟨List.mem_of_getElem? (i := 1240) (by decide +kernel), by decide +kernel⟩
theorem tw_1241 : Cond.selects yX9_restore.cls yX9_restore yX9_restore ∈ jm_tb := List.mem_filter.mpr ⟨List.mem_of_getElem? (i := 1241) (by decide +kernel), by decide +kernel⟩
theorem tw_1242 : Cond.code yX9_restore cX9_restore 1 (some .int) ∈ jm_tb := List.mem_filter.mpr ⟨List.mem_of_getElem? (i := 1242) (by decide +kernel), by decide +kernel⟩
theorem qL_187 : jm_CV "WeighedInBooksLaw" 187 yX9_restore cX9_restore 1 (some .int) 0 := ⟨tw_1239, tw_1240, tw_1241, tw_89, tw_1242, by decide, by decide, by decide +kernel⟩
theorem tw_943 : Cond.methodLink "WeighedInBooksLaw" 188 yX8_count ∈ jm_tb := List.mem_filter.mpr ⟨List.mem_of_getElem? (i := 943) (by decide +kernel), by decide +kernel⟩
theorem tw_944 : Cond.instanceMethod yX8_count ∈ jm_tb := List.mem_filter.mpr ⟨List.mem_of_getElem? (i := 944) (by decide +kernel), by decide +kernel⟩
theorem tw_945 : Cond.selects yX8_count.cls yX8_count yX8_count ∈ jm_tb := List.mem_filter.mpr ⟨List.mem_of_getElem? (i := 945) (by decide +kernel), by decide +kernel⟩
theorem tw_946 : Cond.code yX8_count cX8_count 2 (some .int) ∈ jm_tb := List.mem_filter.mpr ⟨List.mem_of_getElem? (i := 946) (by decide +kernel), by decide +kernel⟩
theorem qL_188 : jm_CV "WeighedInBooksLaw" 188 yX8_count cX8_count 2 (some .int) 1 := ⟨tw_943, tw_944, tw_945, tw_82, tw_946, by decide, by decide, by decide +kernel⟩
theorem tw_1594 : Cond.methodLink "WeighedInBooksLaw" 191 yX9_count ∈ jm_tb := List.mem_filter.mpr ⟨List.mem_of_getElem? (i := 1594) (by decide +kernel), by decide +kernel⟩
theorem tw_1595 : Cond.instanceMethod yX9_count ∈ jm_tb := List.mem_filter.mpr ⟨List.mem_of_getElem? (i := 1595) (by decide +kernel), by decide +kernel⟩
theorem tw_1596 : Cond.selects yX9_count.cls yX9_count yX9_count ∈ jm_tb := List.mem_filter.mpr ⟨List.mem_of_getElem? (i := 1596) (by decide +kernel), by decide +kernel⟩
theorem tw_1597 : Cond.code yX9_count cX9_count 2 (some .int) ∈ jm_tb := List.mem_filter.mpr ⟨List.mem_of_getElem? (i := 1597) (by decide +kernel), by decide +kernel⟩
theorem qL_191 : jm_CV "WeighedInBooksLaw" 191 yX9_count cX9_count 2 (some .int) 1 := ⟨tw_1594, tw_1595, tw_1596, tw_89, tw_1597, by decide, by decide, by decide +kernel⟩
