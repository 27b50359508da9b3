theorem dJ6_bitCount_0f7a4_0 : jm_d cJ6_bitCount_0f7a4 0 (.iload_n 0) 1 1 := ⟨by decide +kernel, rfl⟩
theorem dJ6_bitCount_0f7a4_1 : jm_d cJ6_bitCount_0f7a4 1 (.iload_n 0) 1 2 := ⟨by decide +kernel, rfl⟩
theorem dJ6_bitCount_0f7a4_2 : jm_d cJ6_bitCount_0f7a4 2 (.iconst 1) 1 3 := ⟨by decide +kernel, rfl⟩
theorem dJ6_bitCount_0f7a4_3 : jm_d cJ6_bitCount_0f7a4 3 (.iushr) 1 4 := ⟨by decide +kernel, rfl⟩
theorem dJ6_bitCount_0f7a4_4 : jm_d cJ6_bitCount_0f7a4 4 (.ldc_w 265) 3 7 := ⟨by decide +kernel, rfl⟩
theorem dJ6_bitCount_0f7a4_7 : jm_d cJ6_bitCount_0f7a4 7 (.iand) 1 8 := ⟨by decide +kernel, rfl⟩
theorem dJ6_bitCount_0f7a4_8 : jm_d cJ6_bitCount_0f7a4 8 (.isub) 1 9 := ⟨by decide +kernel, rfl⟩
theorem dJ6_bitCount_0f7a4_9 : jm_d cJ6_bitCount_0f7a4 9 (.istore_n 0) 1 10 := ⟨by decide +kernel, rfl⟩
theorem dJ6_bitCount_0f7a4_10 : jm_d cJ6_bitCount_0f7a4 10 (.iload_n 0) 1 11 := ⟨by decide +kernel, rfl⟩
theorem dJ6_bitCount_0f7a4_11 : jm_d cJ6_bitCount_0f7a4 11 (.ldc_w 266) 3 14 := ⟨by decide +kernel, rfl⟩
theorem dJ6_bitCount_0f7a4_14 : jm_d cJ6_bitCount_0f7a4 14 (.iand) 1 15 := ⟨by decide +kernel, rfl⟩
theorem dJ6_bitCount_0f7a4_15 : jm_d cJ6_bitCount_0f7a4 15 (.iload_n 0) 1 16 := ⟨by decide +kernel, rfl⟩
theorem dJ6_bitCount_0f7a4_16 : jm_d cJ6_bitCount_0f7a4 16 (.iconst 2) 1 17 := ⟨by decide +kernel, rfl⟩
theorem dJ6_bitCount_0f7a4_17 : jm_d cJ6_bitCount_0f7a4 17 (.iushr) 1 18 := ⟨by decide +kernel, rfl⟩
theorem dJ6_bitCount_0f7a4_18 : jm_d cJ6_bitCount_0f7a4 18 (.ldc_w 266) 3 21 := ⟨by decide +kernel, rfl⟩
theorem dJ6_bitCount_0f7a4_21 : jm_d cJ6_bitCount_0f7a4 21 (.iand) 1 22 := ⟨by decide +kernel, rfl⟩
theorem dJ6_bitCount_0f7a4_22 : jm_d cJ6_bitCount_0f7a4 22 (.iadd) 1 23 := ⟨by decide +kernel, rfl⟩
theorem dJ6_bitCount_0f7a4_23 : jm_d cJ6_bitCount_0f7a4 23 (.istore_n 0) 1 24 := ⟨by decide +kernel, rfl⟩
theorem dJ6_bitCount_0f7a4_24 : jm_d cJ6_bitCount_0f7a4 24 (.iload_n 0) 1 25 := ⟨by decide +kernel, rfl⟩
theorem dJ6_bitCount_0f7a4_25 : jm_d cJ6_bitCount_0f7a4 25 (.iload_n 0) 1 26 := ⟨by decide +kernel, rfl⟩
theorem dJ6_bitCount_0f7a4_26 : jm_d cJ6_bitCount_0f7a4 26 (.iconst 4) 1 27 := ⟨by decide +kernel, rfl⟩
theorem dJ6_bitCount_0f7a4_27 : jm_d cJ6_bitCount_0f7a4 27 (.iushr) 1 28 := ⟨by decide +kernel, rfl⟩
theorem dJ6_bitCount_0f7a4_28 : jm_d cJ6_bitCount_0f7a4 28 (.iadd) 1 29 := ⟨by decide +kernel, rfl⟩
theorem dJ6_bitCount_0f7a4_29 : jm_d cJ6_bitCount_0f7a4 29 (.ldc_w 267) 3 32 := ⟨by decide +kernel, rfl⟩
theorem dJ6_bitCount_0f7a4_32 : jm_d cJ6_bitCount_0f7a4 32 (.iand) 1 33 := ⟨by decide +kernel, rfl⟩
theorem dJ6_bitCount_0f7a4_33 : jm_d cJ6_bitCount_0f7a4 33 (.istore_n 0) 1 34 := ⟨by decide +kernel, rfl⟩
theorem dJ6_bitCount_0f7a4_34 : jm_d cJ6_bitCount_0f7a4 34 (.iload_n 0) 1 35 := ⟨by decide +kernel, rfl⟩
theorem dJ6_bitCount_0f7a4_35 : jm_d cJ6_bitCount_0f7a4 35 (.iload_n 0) 1 36 := ⟨by decide +kernel, rfl⟩
theorem dJ6_bitCount_0f7a4_36 : jm_d cJ6_bitCount_0f7a4 36 (.bipush 8) 2 38 := ⟨by decide +kernel, rfl⟩
theorem dJ6_bitCount_0f7a4_38 : jm_d cJ6_bitCount_0f7a4 38 (.iushr) 1 39 := ⟨by decide +kernel, rfl⟩
theorem dJ6_bitCount_0f7a4_39 : jm_d cJ6_bitCount_0f7a4 39 (.iadd) 1 40 := ⟨by decide +kernel, rfl⟩
theorem dJ6_bitCount_0f7a4_40 : jm_d cJ6_bitCount_0f7a4 40 (.istore_n 0) 1 41 := ⟨by decide +kernel, rfl⟩
theorem dJ6_bitCount_0f7a4_41 : jm_d cJ6_bitCount_0f7a4 41 (.iload_n 0) 1 42 := ⟨by decide +kernel, rfl⟩
theorem dJ6_bitCount_0f7a4_42 : jm_d cJ6_bitCount_0f7a4 42 (.iload_n 0) 1 43 := ⟨by decide +kernel, rfl⟩
theorem dJ6_bitCount_0f7a4_43 : jm_d cJ6_bitCount_0f7a4 43 (.bipush 16) 2 45 := ⟨by decide +kernel, rfl⟩
theorem dJ6_bitCount_0f7a4_45 : jm_d cJ6_bitCount_0f7a4 45 (.iushr) 1 46 := ⟨by decide +kernel, rfl⟩
theorem dJ6_bitCount_0f7a4_46 : jm_d cJ6_bitCount_0f7a4 46 (.iadd) 1 47 := ⟨by decide +kernel, rfl⟩
theorem dJ6_bitCount_0f7a4_47 : jm_d cJ6_bitCount_0f7a4 47 (.istore_n 0) 1 48 := ⟨by decide +kernel, rfl⟩
theorem dJ6_bitCount_0f7a4_48 : jm_d cJ6_bitCount_0f7a4 48 (.iload_n 0) 1 49 := ⟨by decide +kernel, rfl⟩
theorem dJ6_bitCount_0f7a4_49 : jm_d cJ6_bitCount_0f7a4 49 (.bipush 63) 2 51 := ⟨by decide +kernel, rfl⟩
theorem dJ6_bitCount_0f7a4_51 : jm_d cJ6_bitCount_0f7a4 51 (.iand) 1 52 := ⟨by decide +kernel, rfl⟩
theorem dJ6_bitCount_0f7a4_52 : jm_d cJ6_bitCount_0f7a4 52 (.ireturn) 1 53 := ⟨by decide +kernel, rfl⟩
set_option maxHeartbeats 4000000 in
set_option maxRecDepth 100000 in
theorem kJ_bitCount (E : jm_Ev) (hE : jm_dj E jm_LC) {p1 : Int32} {M : jm_M}  {r : Int32} (h : sJ_bitCount p1 = some r) : jm_Ct E jm_LC yJ6_bitCount_0f7a4 cJ6_bitCount_0f7a4 1 (some .int) 0 0 [.int p1] M (some (.int r)) M := by
  refine jm_enter (lv := [some (.int p1)]) hE (by decide) (Nat.le_of_ble_eq_true rfl) rfl ?_
  intro z w F hz
  have G : jm_G w 0 [some (.int p1)] [] M (sJ_bitCount p1) (fun e => z (some (.int e)) M) := by
    unfold sJ_bitCount
    refine jm_iload_n (i := 0) F dJ6_bitCount_0f7a4_0 rfl rfl ?_
    refine jm_iload_n (i := 0) F dJ6_bitCount_0f7a4_1 rfl rfl ?_
    refine jm_iconst F dJ6_bitCount_0f7a4_2 kc_1 ?_
    refine jm_iushr F dJ6_bitCount_0f7a4_3 ?_
    refine jm_ldcw F dJ6_bitCount_0f7a4_4 tw_531 ?_
    refine jm_iand F dJ6_bitCount_0f7a4_7 ?_
    refine jm_isub F dJ6_bitCount_0f7a4_8 ?_
    refine jm_nameI (f := fun x1 => [.int x1]) (fun x1 => ?_) rfl
    refine jm_istore_n (i := 0) (lv' := [some (.int x1)]) F dJ6_bitCount_0f7a4_9 rfl (by decide) rfl rfl ?_
    refine jm_iload_n (i := 0) F dJ6_bitCount_0f7a4_10 rfl rfl ?_
    refine jm_ldcw F dJ6_bitCount_0f7a4_11 tw_532 ?_
    refine jm_iand F dJ6_bitCount_0f7a4_14 ?_
    refine jm_iload_n (i := 0) F dJ6_bitCount_0f7a4_15 rfl rfl ?_
    refine jm_iconst F dJ6_bitCount_0f7a4_16 kc_2 ?_
    refine jm_iushr F dJ6_bitCount_0f7a4_17 ?_
    refine jm_ldcw F dJ6_bitCount_0f7a4_18 tw_532 ?_
    refine jm_iand F dJ6_bitCount_0f7a4_21 ?_
    refine jm_iadd F dJ6_bitCount_0f7a4_22 ?_
    refine jm_nameI (f := fun x2 => [.int x2]) (fun x2 => ?_) rfl
    refine jm_istore_n (i := 0) (lv' := [some (.int x2)]) F dJ6_bitCount_0f7a4_23 rfl (by decide) rfl rfl ?_
    refine jm_iload_n (i := 0) F dJ6_bitCount_0f7a4_24 rfl rfl ?_
    refine jm_iload_n (i := 0) F dJ6_bitCount_0f7a4_25 rfl rfl ?_
    refine jm_iconst F dJ6_bitCount_0f7a4_26 kc_4 ?_
    refine jm_iushr F dJ6_bitCount_0f7a4_27 ?_
    refine jm_iadd F dJ6_bitCount_0f7a4_28 ?_
    refine jm_ldcw F dJ6_bitCount_0f7a4_29 tw_533 ?_
    refine jm_iand F dJ6_bitCount_0f7a4_32 ?_
    refine jm_nameI (f := fun x3 => [.int x3]) (fun x3 => ?_) rfl
    refine jm_istore_n (i := 0) (lv' := [some (.int x3)]) F dJ6_bitCount_0f7a4_33 rfl (by decide) rfl rfl ?_
    refine jm_iload_n (i := 0) F dJ6_bitCount_0f7a4_34 rfl rfl ?_
    refine jm_iload_n (i := 0) F dJ6_bitCount_0f7a4_35 rfl rfl ?_
    refine jm_bipush F dJ6_bitCount_0f7a4_36 kb_8 ?_
    refine jm_iushr F dJ6_bitCount_0f7a4_38 ?_
    refine jm_iadd F dJ6_bitCount_0f7a4_39 ?_
    refine jm_nameI (f := fun x4 => [.int x4]) (fun x4 => ?_) rfl
    refine jm_istore_n (i := 0) (lv' := [some (.int x4)]) F dJ6_bitCount_0f7a4_40 rfl (by decide) rfl rfl ?_
    refine jm_iload_n (i := 0) F dJ6_bitCount_0f7a4_41 rfl rfl ?_
    refine jm_iload_n (i := 0) F dJ6_bitCount_0f7a4_42 rfl rfl ?_
    refine jm_bipush F dJ6_bitCount_0f7a4_43 kb_16 ?_
    refine jm_iushr F dJ6_bitCount_0f7a4_45 ?_
    refine jm_iadd F dJ6_bitCount_0f7a4_46 ?_
    refine jm_nameI (f := fun x5 => [.int x5]) (fun x5 => ?_) rfl
    refine jm_istore_n (i := 0) (lv' := [some (.int x5)]) F dJ6_bitCount_0f7a4_47 rfl (by decide) rfl rfl ?_
    refine jm_iload_n (i := 0) F dJ6_bitCount_0f7a4_48 rfl rfl ?_
    refine jm_bipush F dJ6_bitCount_0f7a4_49 kb_63 ?_
    refine jm_iand F dJ6_bitCount_0f7a4_51 ?_
    exact jm_iret F dJ6_bitCount_0f7a4_52 (fun h => h)
  exact G r h hz
theorem dX8_refuse_0 : jm_d cX8_refuse 0 (.aload_n 0) 1 1 := ⟨by decide +kernel, rfl⟩
theorem dX8_refuse_1 : jm_d cX8_refuse 1 (.getfield 61) 3 4 := ⟨by decide +kernel, rfl⟩
theorem dX8_refuse_4 : jm_d cX8_refuse 4 (.iload_n 1) 1 5 := ⟨by decide +kernel, rfl⟩
theorem dX8_refuse_5 : jm_d cX8_refuse 5 (.ineg) 1 6 := ⟨by decide +kernel, rfl⟩
theorem dX8_refuse_6 : jm_d cX8_refuse 6 (.dup2) 1 7 := ⟨by decide +kernel, rfl⟩
theorem dX8_refuse_7 : jm_d cX8_refuse 7 (.iaload) 1 8 := ⟨by decide +kernel, rfl⟩
theorem dX8_refuse_8 : jm_d cX8_refuse 8 (.iconst 1) 1 9 := ⟨by decide +kernel, rfl⟩
theorem dX8_refuse_9 : jm_d cX8_refuse 9 (.iadd) 1 10 := ⟨by decide +kernel, rfl⟩
theorem dX8_refuse_10 : jm_d cX8_refuse 10 (.iastore) 1 11 := ⟨by decide +kernel, rfl⟩
theorem dX8_refuse_11 : jm_d cX8_refuse 11 (.iload_n 1) 1 12 := ⟨by decide +kernel, rfl⟩
theorem dX8_refuse_12 : jm_d cX8_refuse 12 (.ireturn) 1 13 := ⟨by decide +kernel, rfl⟩
set_option maxHeartbeats 4000000 in
set_option maxRecDepth 100000 in
theorem kW_refuse (E : jm_Ev) (hE : jm_dj E jm_LC) {M : jm_M} {p1 : Int32}  {r : Int32 × jm_M} (h : sW_refuse M p1 = some r) : jm_Ct E jm_LC yX8_refuse cX8_refuse 2 (some .int) 0 0 [.ref (jm_a E 0 0), .int p1] M (some (.int r.1)) r.2 := by
  refine jm_enter (lv := [some (.ref (jm_a E 0 0)), some (.int p1)]) hE (by decide) (Nat.le_of_ble_eq_true rfl) rfl ?_
  intro z w F hz
  have G : jm_G w 0 [some (.ref (jm_a E 0 0)), some (.int p1)] [] M (sW_refuse M p1) (fun e => z (some (.int e.1)) e.2) := by
    unfold sW_refuse
    refine jm_aload_n (i := 0) F dX8_refuse_0 rfl rfl ?_
    refine jm_getR F dX8_refuse_1 fl_X8_61 lo_X8 rfl ?_
    refine jm_iload_n (i := 1) F dX8_refuse_4 rfl rfl ?_
    refine jm_ineg F dX8_refuse_5 ?_
    refine jm_dup2 F dX8_refuse_6 rfl rfl ?_
    refine jm_iald F dX8_refuse_7 la_X8_12 (fun v1 => ?_)
    refine jm_iconst F dX8_refuse_8 kc_1 ?_
    refine jm_iadd F dX8_refuse_9 ?_
    refine jm_iast F dX8_refuse_10 la_X8_12 (fun M2 => ?_)
    refine jm_iload_n (i := 1) F dX8_refuse_11 rfl rfl ?_
    exact jm_iret F dX8_refuse_12 (fun h => h)
  exact G r h hz
theorem dX5_addLetter_0 : jm_d cX5_addLetter 0 (.aload_n 0) 1 1 := ⟨by decide +kernel, rfl⟩
theorem dX5_addLetter_1 : jm_d cX5_addLetter 1 (.getfield 22) 3 4 := ⟨by decide +kernel, rfl⟩
theorem dX5_addLetter_4 : jm_d cX5_addLetter 4 (.bipush 96) 2 6 := ⟨by decide +kernel, rfl⟩
theorem dX5_addLetter_6 : jm_b cX5_addLetter 6 (.if_icmp .ge) 9 29 := ⟨23, by decide +kernel, rfl, by decide⟩
theorem dX5_addLetter_29 : jm_d cX5_addLetter 29 (.aload_n 0) 1 30 := ⟨by decide +kernel, rfl⟩
theorem dX5_addLetter_30 : jm_d cX5_addLetter 30 (.getfield 22) 3 33 := ⟨by decide +kernel, rfl⟩
theorem dX5_addLetter_33 : jm_d cX5_addLetter 33 (.ireturn) 1 34 := ⟨by decide +kernel, rfl⟩
theorem dX5_addLetter_9 : jm_d cX5_addLetter 9 (.aload_n 0) 1 10 := ⟨by decide +kernel, rfl⟩
theorem dX5_addLetter_10 : jm_d cX5_addLetter 10 (.getfield 9) 3 13 := ⟨by decide +kernel, rfl⟩
theorem dX5_addLetter_13 : jm_d cX5_addLetter 13 (.aload_n 0) 1 14 := ⟨by decide +kernel, rfl⟩
theorem dX5_addLetter_14 : jm_d cX5_addLetter 14 (.getfield 22) 3 17 := ⟨by decide +kernel, rfl⟩
theorem dX5_addLetter_17 : jm_d cX5_addLetter 17 (.iload_n 1) 1 18 := ⟨by decide +kernel, rfl⟩
theorem dX5_addLetter_18 : jm_d cX5_addLetter 18 (.iastore) 1 19 := ⟨by decide +kernel, rfl⟩
theorem dX5_addLetter_19 : jm_d cX5_addLetter 19 (.aload_n 0) 1 20 := ⟨by decide +kernel, rfl⟩
theorem dX5_addLetter_20 : jm_d cX5_addLetter 20 (.dup) 1 21 := ⟨by decide +kernel, rfl⟩
theorem dX5_addLetter_21 : jm_d cX5_addLetter 21 (.getfield 22) 3 24 := ⟨by decide +kernel, rfl⟩
theorem dX5_addLetter_24 : jm_d cX5_addLetter 24 (.iconst 1) 1 25 := ⟨by decide +kernel, rfl⟩
theorem dX5_addLetter_25 : jm_d cX5_addLetter 25 (.iadd) 1 26 := ⟨by decide +kernel, rfl⟩
theorem dX5_addLetter_26 : jm_d cX5_addLetter 26 (.putfield 22) 3 29 := ⟨by decide +kernel, rfl⟩
set_option maxHeartbeats 4000000 in
set_option maxRecDepth 100000 in
theorem kS_addLetter (E : jm_Ev) (hE : jm_dj E jm_LC) {M : jm_M} {p1 : Int32}  {r : Int32 × jm_M} (h : sS_addLetter M p1 = some r) : jm_Ct E jm_LC yX5_addLetter cX5_addLetter 2 (some .int) 0 0 [.ref (jm_a E 14 0), .int p1] M (some (.int r.1)) r.2 := by
  refine jm_enter (lv := [some (.ref (jm_a E 14 0)), some (.int p1)]) hE (by decide) (Nat.le_of_ble_eq_true rfl) rfl ?_
  intro z w F hz
  have G : jm_G w 0 [some (.ref (jm_a E 14 0)), some (.int p1)] [] M (sS_addLetter M p1) (fun e => z (some (.int e.1)) e.2) := by
    unfold sS_addLetter
    refine jm_aload_n (i := 0) F dX5_addLetter_0 rfl rfl ?_
    refine jm_getI F dX5_addLetter_1 fl_X5_22 lo_X5 rfl ?_
    refine jm_bipush F dX5_addLetter_4 kb_96 ?_
    refine jm_icmp_ge F dX5_addLetter_6 (fun c1 => ?_) (fun c1 => ?_)
    · refine jm_aload_n (i := 0) F dX5_addLetter_29 rfl rfl ?_
      refine jm_getI F dX5_addLetter_30 fl_X5_22 lo_X5 rfl ?_
      exact jm_iret F dX5_addLetter_33 (fun h => h)
    · refine jm_aload_n (i := 0) F dX5_addLetter_9 rfl rfl ?_
      refine jm_getR F dX5_addLetter_10 fl_X5_9 lo_X5 rfl ?_
      refine jm_aload_n (i := 0) F dX5_addLetter_13 rfl rfl ?_
      refine jm_getI F dX5_addLetter_14 fl_X5_22 lo_X5 rfl ?_
      refine jm_iload_n (i := 1) F dX5_addLetter_17 rfl rfl ?_
      refine jm_iast F dX5_addLetter_18 la_X5_1 (fun M2 => ?_)
      refine jm_aload_n (i := 0) F dX5_addLetter_19 rfl rfl ?_
      refine jm_dup F dX5_addLetter_20 rfl ?_
      refine jm_getI F dX5_addLetter_21 fl_X5_22 lo_X5 rfl ?_
      refine jm_iconst F dX5_addLetter_24 kc_1 ?_
      refine jm_iadd F dX5_addLetter_25 ?_
      refine jm_putI F dX5_addLetter_26 fp_X5_22 lo_X5 rfl (fun M3 => ?_)
      refine jm_aload_n (i := 0) F dX5_addLetter_29 rfl rfl ?_
      refine jm_getI F dX5_addLetter_30 fl_X5_22 lo_X5 rfl ?_
      exact jm_iret F dX5_addLetter_33 (fun h => h)
  exact G r h hz
theorem dX8_feed_0 : jm_d cX8_feed 0 (.iload_n 1) 1 1 := ⟨by decide +kernel, rfl⟩
theorem dX8_feed_1 : jm_b cX8_feed 1 (.ifCond .ge) 4 11 := ⟨10, by decide +kernel, rfl, by decide⟩
theorem dX8_feed_11 : jm_d cX8_feed 11 (.iload_n 1) 1 12 := ⟨by decide +kernel, rfl⟩
theorem dX8_feed_12 : jm_d cX8_feed 12 (.sipush 255) 3 15 := ⟨by decide +kernel, rfl⟩
theorem dX8_feed_15 : jm_b cX8_feed 15 (.if_icmp .gt) 18 30 := ⟨15, by decide +kernel, rfl, by decide⟩
theorem dX8_feed_30 : jm_d cX8_feed 30 (.aload_n 0) 1 31 := ⟨by decide +kernel, rfl⟩
theorem dX8_feed_31 : jm_d cX8_feed 31 (.bipush (-6)) 2 33 := ⟨by decide +kernel, rfl⟩
theorem dX8_feed_33 : jm_d cX8_feed 33 (.invokevirtual 64) 3 36 := ⟨by decide +kernel, rfl⟩
theorem dX8_feed_36 : jm_d cX8_feed 36 (.ireturn) 1 37 := ⟨by decide +kernel, rfl⟩
theorem dX8_feed_18 : jm_d cX8_feed 18 (.aload_n 0) 1 19 := ⟨by decide +kernel, rfl⟩
theorem dX8_feed_19 : jm_d cX8_feed 19 (.getfield 29) 3 22 := ⟨by decide +kernel, rfl⟩
theorem dX8_feed_22 : jm_d cX8_feed 22 (.getfield 68) 3 25 := ⟨by decide +kernel, rfl⟩
theorem dX8_feed_25 : jm_d cX8_feed 25 (.bipush 96) 2 27 := ⟨by decide +kernel, rfl⟩
theorem dX8_feed_27 : jm_b cX8_feed 27 (.if_icmp .lt) 30 37 := ⟨10, by decide +kernel, rfl, by decide⟩
theorem dX8_feed_37 : jm_d cX8_feed 37 (.aload_n 0) 1 38 := ⟨by decide +kernel, rfl⟩
theorem dX8_feed_38 : jm_d cX8_feed 38 (.getfield 29) 3 41 := ⟨by decide +kernel, rfl⟩
theorem dX8_feed_41 : jm_d cX8_feed 41 (.iload_n 1) 1 42 := ⟨by decide +kernel, rfl⟩
theorem dX8_feed_42 : jm_d cX8_feed 42 (.invokevirtual 72) 3 45 := ⟨by decide +kernel, rfl⟩
theorem dX8_feed_45 : jm_d cX8_feed 45 (.ireturn) 1 46 := ⟨by decide +kernel, rfl⟩
theorem dX8_feed_4 : jm_d cX8_feed 4 (.aload_n 0) 1 5 := ⟨by decide +kernel, rfl⟩
theorem dX8_feed_5 : jm_d cX8_feed 5 (.bipush (-4)) 2 7 := ⟨by decide +kernel, rfl⟩
theorem dX8_feed_7 : jm_d cX8_feed 7 (.invokevirtual 64) 3 10 := ⟨by decide +kernel, rfl⟩
theorem dX8_feed_10 : jm_d cX8_feed 10 (.ireturn) 1 11 := ⟨by decide +kernel, rfl⟩
set_option maxHeartbeats 4000000 in
set_option maxRecDepth 100000 in
theorem kW_feed (E : jm_Ev) (hE : jm_dj E jm_LC) {M : jm_M} {p1 : Int32}  {r : Int32 × jm_M} (h : sW_feed M p1 = some r) : jm_Ct E jm_LC yX8_feed cX8_feed 2 (some .int) 1 21 [.ref (jm_a E 0 0), .int p1] M (some (.int r.1)) r.2 := by
  refine jm_enter (lv := [some (.ref (jm_a E 0 0)), some (.int p1)]) hE (by decide) (Nat.le_of_ble_eq_true rfl) rfl ?_
  intro z w F hz
  have G : jm_G w 0 [some (.ref (jm_a E 0 0)), some (.int p1)] [] M (sW_feed M p1) (fun e => z (some (.int e.1)) e.2) := by
    unfold sW_feed
    refine jm_iload_n (i := 1) F dX8_feed_0 rfl rfl ?_
    refine jm_if_ge F dX8_feed_1 (fun c1 => ?_) (fun c1 => ?_)
    · refine jm_iload_n (i := 1) F dX8_feed_11 rfl rfl ?_
      refine jm_sipush F dX8_feed_12 ks_255 ?_
      refine jm_icmp_gt F dX8_feed_15 (fun c2 => ?_) (fun c2 => ?_)
      · refine jm_aload_n (i := 0) F dX8_feed_30 rfl rfl ?_
        refine jm_bipush F dX8_feed_31 kb_m6 ?_
        refine jm_callV (As := [.int (-6)]) (st := []) (rv := fun r => some (.int r.1)) (mm := fun r => r.2) F dX8_feed_33 qX8_64 rfl lo_X8 rfl (fun r h => kW_refuse E hE h) rfl (Nat.le_of_ble_eq_true rfl) ⟨Nat.le_of_ble_eq_true rfl, Nat.le_of_ble_eq_true rfl⟩ (fun r3 => ?_)
        exact jm_iret F dX8_feed_36 (fun h => h)
      · refine jm_aload_n (i := 0) F dX8_feed_18 rfl rfl ?_
        refine jm_getR F dX8_feed_19 fl_X8_29 lo_X8 rfl ?_
        refine jm_getI F dX8_feed_22 fl_X8_68 lo_X5 rfl ?_
        refine jm_bipush F dX8_feed_25 kb_96 ?_
        refine jm_icmp_lt F dX8_feed_27 (fun c4 => ?_) (fun c4 => ?_)
        · refine jm_aload_n (i := 0) F dX8_feed_37 rfl rfl ?_
          refine jm_getR F dX8_feed_38 fl_X8_29 lo_X8 rfl ?_
          refine jm_iload_n (i := 1) F dX8_feed_41 rfl rfl ?_
          refine jm_callV (As := [.int p1]) (st := []) (rv := fun r => some (.int r.1)) (mm := fun r => r.2) F dX8_feed_42 qX8_72 rfl lo_X5 rfl (fun r h => kS_addLetter E hE h) rfl (Nat.le_of_ble_eq_true rfl) ⟨Nat.le_of_ble_eq_true rfl, Nat.le_of_ble_eq_true rfl⟩ (fun r5 => ?_)
          exact jm_iret F dX8_feed_45 (fun h => h)
        · refine jm_aload_n (i := 0) F dX8_feed_30 rfl rfl ?_
          refine jm_bipush F dX8_feed_31 kb_m6 ?_
          refine jm_callV (As := [.int (-6)]) (st := []) (rv := fun r => some (.int r.1)) (mm := fun r => r.2) F dX8_feed_33 qX8_64 rfl lo_X8 rfl (fun r h => kW_refuse E hE h) rfl (Nat.le_of_ble_eq_true rfl) ⟨Nat.le_of_ble_eq_true rfl, Nat.le_of_ble_eq_true rfl⟩ (fun r6 => ?_)
          exact jm_iret F dX8_feed_36 (fun h => h)
    · refine jm_aload_n (i := 0) F dX8_feed_4 rfl rfl ?_
      refine jm_bipush F dX8_feed_5 kb_m4 ?_
      refine jm_callV (As := [.int (-4)]) (st := []) (rv := fun r => some (.int r.1)) (mm := fun r => r.2) F dX8_feed_7 qX8_64 rfl lo_X8 rfl (fun r h => kW_refuse E hE h) rfl (Nat.le_of_ble_eq_true rfl) ⟨Nat.le_of_ble_eq_true rfl, Nat.le_of_ble_eq_true rfl⟩ (fun r7 => ?_)
      exact jm_iret F dX8_feed_10 (fun h => h)
  exact G r h hz
theorem dX5_here_0 : jm_d cX5_here 0 (.aload_n 0) 1 1 := ⟨by decide +kernel, rfl⟩
theorem dX5_here_1 : jm_d cX5_here 1 (.getfield 30) 3 4 := ⟨by decide +kernel, rfl⟩
theorem dX5_here_4 : jm_b cX5_here 4 (.ifCond .lt) 7 30 := ⟨26, by decide +kernel, rfl, by decide⟩
theorem dX5_here_30 : jm_d cX5_here 30 (.iconst (-1)) 1 31 := ⟨by decide +kernel, rfl⟩
theorem dX5_here_31 : jm_d cX5_here 31 (.ireturn) 1 32 := ⟨by decide +kernel, rfl⟩
theorem dX5_here_7 : jm_d cX5_here 7 (.aload_n 0) 1 8 := ⟨by decide +kernel, rfl⟩
theorem dX5_here_8 : jm_d cX5_here 8 (.getfield 30) 3 11 := ⟨by decide +kernel, rfl⟩
theorem dX5_here_11 : jm_d cX5_here 11 (.aload_n 0) 1 12 := ⟨by decide +kernel, rfl⟩
theorem dX5_here_12 : jm_d cX5_here 12 (.getfield 22) 3 15 := ⟨by decide +kernel, rfl⟩
theorem dX5_here_15 : jm_b cX5_here 15 (.if_icmp .ge) 18 30 := ⟨15, by decide +kernel, rfl, by decide⟩
theorem dX5_here_18 : jm_d cX5_here 18 (.aload_n 0) 1 19 := ⟨by decide +kernel, rfl⟩
theorem dX5_here_19 : jm_d cX5_here 19 (.getfield 9) 3 22 := ⟨by decide +kernel, rfl⟩
theorem dX5_here_22 : jm_d cX5_here 22 (.aload_n 0) 1 23 := ⟨by decide +kernel, rfl⟩
theorem dX5_here_23 : jm_d cX5_here 23 (.getfield 30) 3 26 := ⟨by decide +kernel, rfl⟩
theorem dX5_here_26 : jm_d cX5_here 26 (.iaload) 1 27 := ⟨by decide +kernel, rfl⟩
theorem dX5_here_27 : jm_b cX5_here 27 .goto 30 31 := ⟨4, by decide +kernel, rfl, by decide⟩
set_option maxHeartbeats 4000000 in
set_option maxRecDepth 100000 in
theorem kS_here (E : jm_Ev) (hE : jm_dj E jm_LC) {M : jm_M}  {r : Int32} (h : sS_here M = some r) : jm_Ct E jm_LC yX5_here cX5_here 1 (some .int) 0 0 [.ref (jm_a E 14 0)] M (some (.int r)) M := by
  refine jm_enter (lv := [some (.ref (jm_a E 14 0))]) hE (by decide) (Nat.le_of_ble_eq_true rfl) rfl ?_
  intro z w F hz
  have G : jm_G w 0 [some (.ref (jm_a E 14 0))] [] M (sS_here M) (fun e => z (some (.int e)) M) := by
    unfold sS_here
    refine jm_aload_n (i := 0) F dX5_here_0 rfl rfl ?_
    refine jm_getI F dX5_here_1 fl_X5_30 lo_X5 rfl ?_
    refine jm_if_lt F dX5_here_4 (fun c1 => ?_) (fun c1 => ?_)
    · refine jm_iconst F dX5_here_30 kc_m1 ?_
      exact jm_iret F dX5_here_31 (fun h => h)
    · refine jm_aload_n (i := 0) F dX5_here_7 rfl rfl ?_
      refine jm_getI F dX5_here_8 fl_X5_30 lo_X5 rfl ?_
      refine jm_aload_n (i := 0) F dX5_here_11 rfl rfl ?_
      refine jm_getI F dX5_here_12 fl_X5_22 lo_X5 rfl ?_
      refine jm_icmp_ge F dX5_here_15 (fun c2 => ?_) (fun c2 => ?_)
      · refine jm_iconst F dX5_here_30 kc_m1 ?_
        exact jm_iret F dX5_here_31 (fun h => h)
      · refine jm_aload_n (i := 0) F dX5_here_18 rfl rfl ?_
        refine jm_getR F dX5_here_19 fl_X5_9 lo_X5 rfl ?_
        refine jm_aload_n (i := 0) F dX5_here_22 rfl rfl ?_
        refine jm_getI F dX5_here_23 fl_X5_30 lo_X5 rfl ?_
        refine jm_iald F dX5_here_26 la_X5_1 (fun v3 => ?_)
        refine jm_goto F dX5_here_27 ?_
        exact jm_iret F dX5_here_31 (fun h => h)
  exact G r h hz
theorem dX5_passDigits_0 : jm_d cX5_passDigits 0 (.iconst 0) 1 1 := ⟨by decide +kernel, rfl⟩
theorem dX5_passDigits_1 : jm_d cX5_passDigits 1 (.istore_n 2) 1 2 := ⟨by decide +kernel, rfl⟩
theorem dX5_passDigits_2 : jm_d cX5_passDigits 2 (.iload_n 2) 1 3 := ⟨by decide +kernel, rfl⟩
theorem dX5_passDigits_3 : jm_d cX5_passDigits 3 (.iload_n 1) 1 4 := ⟨by decide +kernel, rfl⟩
theorem dX5_passDigits_4 : jm_b cX5_passDigits 4 (.if_icmp .ge) 7 43 := ⟨39, by decide +kernel, rfl, by decide⟩
theorem dX5_passDigits_7 : jm_d cX5_passDigits 7 (.aload_n 0) 1 8 := ⟨by decide +kernel, rfl⟩
theorem dX5_passDigits_8 : jm_d cX5_passDigits 8 (.invokevirtual 37) 3 11 := ⟨by decide +kernel, rfl⟩
theorem dX5_passDigits_11 : jm_d cX5_passDigits 11 (.bipush 48) 2 13 := ⟨by decide +kernel, rfl⟩
theorem dX5_passDigits_13 : jm_b cX5_passDigits 13 (.if_icmp .lt) 16 25 := ⟨12, by decide +kernel, rfl, by decide⟩
theorem dX5_passDigits_25 : jm_d cX5_passDigits 25 (.iconst 0) 1 26 := ⟨by decide +kernel, rfl⟩
theorem dX5_passDigits_26 : jm_d cX5_passDigits 26 (.ireturn) 1 27 := ⟨by decide +kernel, rfl⟩
theorem dX5_passDigits_16 : jm_d cX5_passDigits 16 (.aload_n 0) 1 17 := ⟨by decide +kernel, rfl⟩
theorem dX5_passDigits_17 : jm_d cX5_passDigits 17 (.invokevirtual 37) 3 20 := ⟨by decide +kernel, rfl⟩
theorem dX5_passDigits_20 : jm_d cX5_passDigits 20 (.bipush 57) 2 22 := ⟨by decide +kernel, rfl⟩
theorem dX5_passDigits_22 : jm_b cX5_passDigits 22 (.if_icmp .le) 25 27 := ⟨5, by decide +kernel, rfl, by decide⟩
theorem dX5_passDigits_27 : jm_d cX5_passDigits 27 (.aload_n 0) 1 28 := ⟨by decide +kernel, rfl⟩
theorem dX5_passDigits_28 : jm_d cX5_passDigits 28 (.dup) 1 29 := ⟨by decide +kernel, rfl⟩
theorem dX5_passDigits_29 : jm_d cX5_passDigits 29 (.getfield 30) 3 32 := ⟨by decide +kernel, rfl⟩
theorem dX5_passDigits_32 : jm_d cX5_passDigits 32 (.iconst 1) 1 33 := ⟨by decide +kernel, rfl⟩
theorem dX5_passDigits_33 : jm_d cX5_passDigits 33 (.iadd) 1 34 := ⟨by decide +kernel, rfl⟩
theorem dX5_passDigits_34 : jm_d cX5_passDigits 34 (.putfield 30) 3 37 := ⟨by decide +kernel, rfl⟩
theorem dX5_passDigits_37 : jm_d cX5_passDigits 37 (.iinc 2 1) 3 40 := ⟨by decide +kernel, rfl⟩
theorem dX5_passDigits_40 : jm_b cX5_passDigits 40 .goto 43 2 := ⟨(-38), by decide +kernel, rfl, by decide⟩
theorem dX5_passDigits_43 : jm_d cX5_passDigits 43 (.iconst 1) 1 44 := ⟨by decide +kernel, rfl⟩
theorem dX5_passDigits_44 : jm_d cX5_passDigits 44 (.ireturn) 1 45 := ⟨by decide +kernel, rfl⟩
set_option maxHeartbeats 4000000 in
set_option maxRecDepth 100000 in
theorem kS_passDigits (E : jm_Ev) (hE : jm_dj E jm_LC) {M : jm_M} {p1 : Int32}  {r : Int32 × jm_M} (h : sS_passDigits M p1 = some r) : jm_Ct E jm_LC yX5_passDigits cX5_passDigits 3 (some .boolean) 1 20 [.ref (jm_a E 14 0), .int p1] M (some (.int r.1)) r.2 := by
  refine jm_enter (lv := [some (.ref (jm_a E 14 0)), some (.int p1), none]) hE (by decide) (Nat.le_of_ble_eq_true rfl) rfl ?_
  intro z w F hz
  have G : jm_G w 0 [some (.ref (jm_a E 14 0)), some (.int p1), none] [] M (sS_passDigits M p1) (fun e => z (some (.int e.1)) e.2) := by
    unfold sS_passDigits
    refine jm_iconst F dX5_passDigits_0 kc_0 ?_
    refine jm_istore_n (i := 2) (lv' := [some (.ref (jm_a E 14 0)), some (.int p1), some (.int 0)]) F dX5_passDigits_1 rfl (by decide) rfl rfl ?_
    refine jm_bindS (pcJ := 43) (lvJ := fun e8 => [none, none, none]) (stJ := fun _ => []) (MJ := fun e8 => e8) ?_ (fun e8 => ?_)
    · refine jm_weak F (lv' := [some (.ref (jm_a E 14 0)), some (.int p1), some (.int 0)]) ⟨rfl, rfl, rfl, trivial⟩ ?_
      refine jm_loopR (lvH := fun s1 => [some (.ref (jm_a E 14 0)), some (.int p1), some (.int s1.1)]) (MH := fun s1 => s1.2) (fun s1 => ?_) jm_N (0, M)
      unfold sS_passDigits_L2
      refine jm_iload_n (i := 2) F dX5_passDigits_2 rfl rfl ?_
      refine jm_iload_n (i := 1) F dX5_passDigits_3 rfl rfl ?_
      refine jm_icmp_ge F dX5_passDigits_4 (fun c2 => ?_) (fun c2 => ?_)
      · exact jm_weakD F (lv' := [none, none, none]) trivial (fun h => h)
      · refine jm_aload_n (i := 0) F dX5_passDigits_7 rfl rfl ?_
        refine jm_callV (As := []) (st := []) (rv := fun r => some (.int r)) (mm := fun _ => s1.2) F dX5_passDigits_8 qX5_37 rfl lo_X5 rfl (fun r h => kS_here E hE h) rfl (Nat.le_of_ble_eq_true rfl) ⟨Nat.le_of_ble_eq_true rfl, Nat.le_of_ble_eq_true rfl⟩ (fun r3 => ?_)
        refine jm_bipush F dX5_passDigits_11 kb_48 ?_
        refine jm_icmp_lt F dX5_passDigits_13 (fun c4 => ?_) (fun c4 => ?_)
        · refine jm_iconst F dX5_passDigits_25 kc_0 ?_
          exact jm_zret F dX5_passDigits_26 (Or.inl rfl) (fun h => h)
        · refine jm_aload_n (i := 0) F dX5_passDigits_16 rfl rfl ?_
          refine jm_callV (As := []) (st := []) (rv := fun r => some (.int r)) (mm := fun _ => s1.2) F dX5_passDigits_17 qX5_37 rfl lo_X5 rfl (fun r h => kS_here E hE h) rfl (Nat.le_of_ble_eq_true rfl) ⟨Nat.le_of_ble_eq_true rfl, Nat.le_of_ble_eq_true rfl⟩ (fun r5 => ?_)
          refine jm_bipush F dX5_passDigits_20 kb_57 ?_
          refine jm_icmp_le F dX5_passDigits_22 (fun c6 => ?_) (fun c6 => ?_)
          · refine jm_aload_n (i := 0) F dX5_passDigits_27 rfl rfl ?_
            refine jm_dup F dX5_passDigits_28 rfl ?_
            refine jm_getI F dX5_passDigits_29 fl_X5_30 lo_X5 rfl ?_
            refine jm_iconst F dX5_passDigits_32 kc_1 ?_
            refine jm_iadd F dX5_passDigits_33 ?_
            refine jm_putI F dX5_passDigits_34 fp_X5_30 lo_X5 rfl (fun M7 => ?_)
            refine jm_iinc (i := 2) (lv' := [some (.ref (jm_a E 14 0)), some (.int p1), some (.int (s1.1 + 1))]) F dX5_passDigits_37 kc_1 rfl (by decide) rfl rfl ?_
            refine jm_goto F dX5_passDigits_40 ?_
            exact jm_weakD F (lv' := [some (.ref (jm_a E 14 0)), some (.int p1), some (.int (s1.1 + 1))]) ⟨rfl, rfl, rfl, trivial⟩ (fun h => h)
          · refine jm_iconst F dX5_passDigits_25 kc_0 ?_
            exact jm_zret F dX5_passDigits_26 (Or.inl rfl) (fun h => h)
    · refine jm_iconst F dX5_passDigits_43 kc_1 ?_
      exact jm_zret F dX5_passDigits_44 (Or.inr rfl) (fun h => h)
  exact G r h hz
theorem dX5_isTitleLetter_0 : jm_d cX5_isTitleLetter 0 (.iload_n 1) 1 1 := ⟨by decide +kernel, rfl⟩
theorem dX5_isTitleLetter_1 : jm_d cX5_isTitleLetter 1 (.bipush 97) 2 3 := ⟨by decide +kernel, rfl⟩
theorem dX5_isTitleLetter_3 : jm_b cX5_isTitleLetter 3 (.if_icmp .lt) 6 16 := ⟨13, by decide +kernel, rfl, by decide⟩
theorem dX5_isTitleLetter_16 : jm_d cX5_isTitleLetter 16 (.iconst 0) 1 17 := ⟨by decide +kernel, rfl⟩
theorem dX5_isTitleLetter_17 : jm_d cX5_isTitleLetter 17 (.ireturn) 1 18 := ⟨by decide +kernel, rfl⟩
theorem dX5_isTitleLetter_6 : jm_d cX5_isTitleLetter 6 (.iload_n 1) 1 7 := ⟨by decide +kernel, rfl⟩
theorem dX5_isTitleLetter_7 : jm_d cX5_isTitleLetter 7 (.bipush 122) 2 9 := ⟨by decide +kernel, rfl⟩
theorem dX5_isTitleLetter_9 : jm_b cX5_isTitleLetter 9 (.if_icmp .gt) 12 16 := ⟨7, by decide +kernel, rfl, by decide⟩
theorem dX5_isTitleLetter_12 : jm_d cX5_isTitleLetter 12 (.iconst 1) 1 13 := ⟨by decide +kernel, rfl⟩
theorem dX5_isTitleLetter_13 : jm_b cX5_isTitleLetter 13 .goto 16 17 := ⟨4, by decide +kernel, rfl, by decide⟩
set_option maxHeartbeats 4000000 in
set_option maxRecDepth 100000 in
theorem kS_isTitleLetter (E : jm_Ev) (hE : jm_dj E jm_LC) {p1 : Int32} {M : jm_M}  {r : Int32} (h : sS_isTitleLetter p1 = some r) : jm_Ct E jm_LC yX5_isTitleLetter cX5_isTitleLetter 2 (some .boolean) 0 0 [.ref (jm_a E 14 0), .int p1] M (some (.int r)) M := by
  refine jm_enter (lv := [some (.ref (jm_a E 14 0)), some (.int p1)]) hE (by decide) (Nat.le_of_ble_eq_true rfl) rfl ?_
  intro z w F hz
  have G : jm_G w 0 [some (.ref (jm_a E 14 0)), some (.int p1)] [] M (sS_isTitleLetter p1) (fun e => z (some (.int e)) M) := by
    unfold sS_isTitleLetter
    refine jm_iload_n (i := 1) F dX5_isTitleLetter_0 rfl rfl ?_
    refine jm_bipush F dX5_isTitleLetter_1 kb_97 ?_
    refine jm_icmp_lt F dX5_isTitleLetter_3 (fun c1 => ?_) (fun c1 => ?_)
    · refine jm_iconst F dX5_isTitleLetter_16 kc_0 ?_
      exact jm_zret F dX5_isTitleLetter_17 (Or.inl rfl) (fun h => h)
    · refine jm_iload_n (i := 1) F dX5_isTitleLetter_6 rfl rfl ?_
      refine jm_bipush F dX5_isTitleLetter_7 kb_122 ?_
      refine jm_icmp_gt F dX5_isTitleLetter_9 (fun c2 => ?_) (fun c2 => ?_)
      · refine jm_iconst F dX5_isTitleLetter_16 kc_0 ?_
        exact jm_zret F dX5_isTitleLetter_17 (Or.inl rfl) (fun h => h)
      · refine jm_iconst F dX5_isTitleLetter_12 kc_1 ?_
        refine jm_goto F dX5_isTitleLetter_13 ?_
        exact jm_zret F dX5_isTitleLetter_17 (Or.inr rfl) (fun h => h)
  exact G r h hz
theorem dX5_passTitle_0 : jm_d cX5_passTitle 0 (.aload_n 0) 1 1 := ⟨by decide +kernel, rfl⟩
theorem dX5_passTitle_1 : jm_d cX5_passTitle 1 (.aload_n 0) 1 2 := ⟨by decide +kernel, rfl⟩
theorem dX5_passTitle_2 : jm_d cX5_passTitle 2 (.invokevirtual 37) 3 5 := ⟨by decide +kernel, rfl⟩
theorem dX5_passTitle_5 : jm_d cX5_passTitle 5 (.invokevirtual 66) 3 8 := ⟨by decide +kernel, rfl⟩
theorem dX5_passTitle_8 : jm_b cX5_passTitle 8 (.ifCond .ne) 11 13 := ⟨5, by decide +kernel, rfl, by decide⟩
theorem dX5_passTitle_11 : jm_d cX5_passTitle 11 (.iconst 0) 1 12 := ⟨by decide +kernel, rfl⟩
theorem dX5_passTitle_12 : jm_d cX5_passTitle 12 (.ireturn) 1 13 := ⟨by decide +kernel, rfl⟩
theorem dX5_passTitle_13 : jm_d cX5_passTitle 13 (.aload_n 0) 1 14 := ⟨by decide +kernel, rfl⟩
theorem dX5_passTitle_14 : jm_d cX5_passTitle 14 (.getfield 30) 3 17 := ⟨by decide +kernel, rfl⟩
theorem dX5_passTitle_17 : jm_d cX5_passTitle 17 (.aload_n 0) 1 18 := ⟨by decide +kernel, rfl⟩
theorem dX5_passTitle_18 : jm_d cX5_passTitle 18 (.getfield 22) 3 21 := ⟨by decide +kernel, rfl⟩
theorem dX5_passTitle_21 : jm_b cX5_passTitle 21 (.if_icmp .ge) 24 48 := ⟨27, by decide +kernel, rfl, by decide⟩
theorem dX5_passTitle_24 : jm_d cX5_passTitle 24 (.aload_n 0) 1 25 := ⟨by decide +kernel, rfl⟩
theorem dX5_passTitle_25 : jm_d cX5_passTitle 25 (.aload_n 0) 1 26 := ⟨by decide +kernel, rfl⟩
theorem dX5_passTitle_26 : jm_d cX5_passTitle 26 (.invokevirtual 37) 3 29 := ⟨by decide +kernel, rfl⟩
theorem dX5_passTitle_29 : jm_d cX5_passTitle 29 (.invokevirtual 66) 3 32 := ⟨by decide +kernel, rfl⟩
theorem dX5_passTitle_32 : jm_b cX5_passTitle 32 (.ifCond .eq) 35 48 := ⟨16, by decide +kernel, rfl, by decide⟩
theorem dX5_passTitle_35 : jm_d cX5_passTitle 35 (.aload_n 0) 1 36 := ⟨by decide +kernel, rfl⟩
theorem dX5_passTitle_36 : jm_d cX5_passTitle 36 (.dup) 1 37 := ⟨by decide +kernel, rfl⟩
theorem dX5_passTitle_37 : jm_d cX5_passTitle 37 (.getfield 30) 3 40 := ⟨by decide +kernel, rfl⟩
theorem dX5_passTitle_40 : jm_d cX5_passTitle 40 (.iconst 1) 1 41 := ⟨by decide +kernel, rfl⟩
theorem dX5_passTitle_41 : jm_d cX5_passTitle 41 (.iadd) 1 42 := ⟨by decide +kernel, rfl⟩
theorem dX5_passTitle_42 : jm_d cX5_passTitle 42 (.putfield 30) 3 45 := ⟨by decide +kernel, rfl⟩
theorem dX5_passTitle_45 : jm_b cX5_passTitle 45 .goto 48 13 := ⟨(-32), by decide +kernel, rfl, by decide⟩
theorem dX5_passTitle_48 : jm_d cX5_passTitle 48 (.iconst 1) 1 49 := ⟨by decide +kernel, rfl⟩
theorem dX5_passTitle_49 : jm_d cX5_passTitle 49 (.ireturn) 1 50 := ⟨by decide +kernel, rfl⟩
set_option maxHeartbeats 4000000 in
set_option maxRecDepth 100000 in
theorem kS_passTitle (E : jm_Ev) (hE : jm_dj E jm_LC) {M : jm_M}  {r : Int32 × jm_M} (h : sS_passTitle M = some r) : jm_Ct E jm_LC yX5_passTitle cX5_passTitle 1 (some .boolean) 1 21 [.ref (jm_a E 14 0)] M (some (.int r.1)) r.2 := by
  refine jm_enter (lv := [some (.ref (jm_a E 14 0))]) hE (by decide) (Nat.le_of_ble_eq_true rfl) rfl ?_
  intro z w F hz
  have G : jm_G w 0 [some (.ref (jm_a E 14 0))] [] M (sS_passTitle M) (fun e => z (some (.int e.1)) e.2) := by
    unfold sS_passTitle
    refine jm_aload_n (i := 0) F dX5_passTitle_0 rfl rfl ?_
    refine jm_aload_n (i := 0) F dX5_passTitle_1 rfl rfl ?_
    refine jm_callV (As := []) (st := [.ref (jm_a E 14 0)]) (rv := fun r => some (.int r)) (mm := fun _ => M) F dX5_passTitle_2 qX5_37 rfl lo_X5 rfl (fun r h => kS_here E hE h) rfl (Nat.le_of_ble_eq_true rfl) ⟨Nat.le_of_ble_eq_true rfl, Nat.le_of_ble_eq_true rfl⟩ (fun r1 => ?_)
    refine jm_callV (As := [.int r1]) (st := []) (rv := fun r => some (.int r)) (mm := fun _ => M) F dX5_passTitle_5 qX5_66 rfl lo_X5 rfl (fun r h => kS_isTitleLetter E hE h) rfl (Nat.le_of_ble_eq_true rfl) ⟨Nat.le_of_ble_eq_true rfl, Nat.le_of_ble_eq_true rfl⟩ (fun r2 => ?_)
    refine jm_if_ne F dX5_passTitle_8 (fun c3 => ?_) (fun c3 => ?_)
    · refine jm_iconst F dX5_passTitle_11 kc_0 ?_
      exact jm_zret F dX5_passTitle_12 (Or.inl rfl) (fun h => h)
    · refine jm_bind (pcJ := 48) (lvJ := fun e10 => [none]) (stJ := fun _ => []) (MJ := fun e10 => e10) ?_ (fun e10 => ?_)
      · refine jm_weak F (lv' := [some (.ref (jm_a E 14 0))]) ⟨rfl, trivial⟩ ?_
        refine jm_loopR (lvH := fun s4 => [some (.ref (jm_a E 14 0))]) (MH := fun s4 => s4) (fun s4 => ?_) jm_N M
        unfold sS_passTitle_L13
        refine jm_aload_n (i := 0) F dX5_passTitle_13 rfl rfl ?_
        refine jm_getI F dX5_passTitle_14 fl_X5_30 lo_X5 rfl ?_
        refine jm_aload_n (i := 0) F dX5_passTitle_17 rfl rfl ?_
        refine jm_getI F dX5_passTitle_18 fl_X5_22 lo_X5 rfl ?_
        refine jm_icmp_ge F dX5_passTitle_21 (fun c5 => ?_) (fun c5 => ?_)
        · exact jm_weakD F (lv' := [none]) trivial (fun h => h)
        · refine jm_aload_n (i := 0) F dX5_passTitle_24 rfl rfl ?_
          refine jm_aload_n (i := 0) F dX5_passTitle_25 rfl rfl ?_
          refine jm_callV (As := []) (st := [.ref (jm_a E 14 0)]) (rv := fun r => some (.int r)) (mm := fun _ => s4) F dX5_passTitle_26 qX5_37 rfl lo_X5 rfl (fun r h => kS_here E hE h) rfl (Nat.le_of_ble_eq_true rfl) ⟨Nat.le_of_ble_eq_true rfl, Nat.le_of_ble_eq_true rfl⟩ (fun r6 => ?_)
          refine jm_callV (As := [.int r6]) (st := []) (rv := fun r => some (.int r)) (mm := fun _ => s4) F dX5_passTitle_29 qX5_66 rfl lo_X5 rfl (fun r h => kS_isTitleLetter E hE h) rfl (Nat.le_of_ble_eq_true rfl) ⟨Nat.le_of_ble_eq_true rfl, Nat.le_of_ble_eq_true rfl⟩ (fun r7 => ?_)
          refine jm_if_eq F dX5_passTitle_32 (fun c8 => ?_) (fun c8 => ?_)
          · exact jm_weakD F (lv' := [none]) trivial (fun h => h)
          · refine jm_aload_n (i := 0) F dX5_passTitle_35 rfl rfl ?_
            refine jm_dup F dX5_passTitle_36 rfl ?_
            refine jm_getI F dX5_passTitle_37 fl_X5_30 lo_X5 rfl ?_
            refine jm_iconst F dX5_passTitle_40 kc_1 ?_
            refine jm_iadd F dX5_passTitle_41 ?_
            refine jm_putI F dX5_passTitle_42 fp_X5_30 lo_X5 rfl (fun M9 => ?_)
            refine jm_goto F dX5_passTitle_45 ?_
            exact jm_weakD F (lv' := [some (.ref (jm_a E 14 0))]) ⟨rfl, trivial⟩ (fun h => h)
      · refine jm_iconst F dX5_passTitle_48 kc_1 ?_
        exact jm_zret F dX5_passTitle_49 (Or.inr rfl) (fun h => h)
  exact G r h hz
theorem dX5_stepHere_0 : jm_d cX5_stepHere 0 (.iconst 0) 1 1 := ⟨by decide +kernel, rfl⟩
theorem dX5_stepHere_1 : jm_d cX5_stepHere 1 (.istore_n 1) 1 2 := ⟨by decide +kernel, rfl⟩
theorem dX5_stepHere_2 : jm_d cX5_stepHere 2 (.iload_n 1) 1 3 := ⟨by decide +kernel, rfl⟩
theorem dX5_stepHere_3 : jm_d cX5_stepHere 3 (.bipush 8) 2 5 := ⟨by decide +kernel, rfl⟩
theorem dX5_stepHere_5 : jm_b cX5_stepHere 5 (.if_icmp .ge) 8 28 := ⟨23, by decide +kernel, rfl, by decide⟩
theorem dX5_stepHere_8 : jm_d cX5_stepHere 8 (.getstatic 69) 3 11 := ⟨by decide +kernel, rfl⟩
theorem dX5_stepHere_11 : jm_d cX5_stepHere 11 (.iload_n 1) 1 12 := ⟨by decide +kernel, rfl⟩
theorem dX5_stepHere_12 : jm_d cX5_stepHere 12 (.caload) 1 13 := ⟨by decide +kernel, rfl⟩
theorem dX5_stepHere_13 : jm_d cX5_stepHere 13 (.aload_n 0) 1 14 := ⟨by decide +kernel, rfl⟩
theorem dX5_stepHere_14 : jm_d cX5_stepHere 14 (.invokevirtual 37) 3 17 := ⟨by decide +kernel, rfl⟩
theorem dX5_stepHere_17 : jm_b cX5_stepHere 17 (.if_icmp .ne) 20 22 := ⟨5, by decide +kernel, rfl, by decide⟩
theorem dX5_stepHere_20 : jm_d cX5_stepHere 20 (.iload_n 1) 1 21 := ⟨by decide +kernel, rfl⟩
theorem dX5_stepHere_21 : jm_d cX5_stepHere 21 (.ireturn) 1 22 := ⟨by decide +kernel, rfl⟩
theorem dX5_stepHere_22 : jm_d cX5_stepHere 22 (.iinc 1 1) 3 25 := ⟨by decide +kernel, rfl⟩
theorem dX5_stepHere_25 : jm_b cX5_stepHere 25 .goto 28 2 := ⟨(-23), by decide +kernel, rfl, by decide⟩
theorem dX5_stepHere_28 : jm_d cX5_stepHere 28 (.bipush (-9)) 2 30 := ⟨by decide +kernel, rfl⟩
theorem dX5_stepHere_30 : jm_d cX5_stepHere 30 (.ireturn) 1 31 := ⟨by decide +kernel, rfl⟩
set_option maxHeartbeats 4000000 in
set_option maxRecDepth 100000 in
theorem kS_stepHere (E : jm_Ev) (hE : jm_dj E jm_LC) {M : jm_M}  {r : Int32} (h : sS_stepHere M = some r) : jm_Ct E jm_LC yX5_stepHere cX5_stepHere 2 (some .int) 1 20 [.ref (jm_a E 14 0)] M (some (.int r)) M := by
  refine jm_enter (lv := [some (.ref (jm_a E 14 0)), none]) hE (by decide) (Nat.le_of_ble_eq_true rfl) rfl ?_
  intro z w F hz
  have G : jm_G w 0 [some (.ref (jm_a E 14 0)), none] [] M (sS_stepHere M) (fun e => z (some (.int e)) M) := by
    unfold sS_stepHere
    refine jm_iconst F dX5_stepHere_0 kc_0 ?_
    refine jm_istore_n (i := 1) (lv' := [some (.ref (jm_a E 14 0)), some (.int 0)]) F dX5_stepHere_1 rfl (by decide) rfl rfl ?_
    refine jm_bindS (pcJ := 28) (lvJ := fun e6 => [none, none]) (stJ := fun _ => []) (MJ := fun e6 => M) ?_ (fun e6 => ?_)
    · refine jm_weak F (lv' := [some (.ref (jm_a E 14 0)), some (.int 0)]) ⟨rfl, rfl, trivial⟩ ?_
      refine jm_loopR (lvH := fun s1 => [some (.ref (jm_a E 14 0)), some (.int s1)]) (MH := fun s1 => M) (fun s1 => ?_) jm_N 0
      unfold sS_stepHere_L2
      refine jm_iload_n (i := 1) F dX5_stepHere_2 rfl rfl ?_
      refine jm_bipush F dX5_stepHere_3 kb_8 ?_
      refine jm_icmp_ge F dX5_stepHere_5 (fun c2 => ?_) (fun c2 => ?_)
      · exact jm_weakD F (lv' := [none, none]) trivial (fun h => h)
      · refine jm_gets F dX5_stepHere_8 tw_395 ?_
        refine jm_iload_n (i := 1) F dX5_stepHere_11 rfl rfl ?_
        refine jm_cald F dX5_stepHere_12 (fun v3 => ?_)
        refine jm_aload_n (i := 0) F dX5_stepHere_13 rfl rfl ?_
        refine jm_callV (As := []) (st := [.int v3]) (rv := fun r => some (.int r)) (mm := fun _ => M) F dX5_stepHere_14 qX5_37 rfl lo_X5 rfl (fun r h => kS_here E hE h) rfl (Nat.le_of_ble_eq_true rfl) ⟨Nat.le_of_ble_eq_true rfl, Nat.le_of_ble_eq_true rfl⟩ (fun r4 => ?_)
        refine jm_icmp_ne F dX5_stepHere_17 (fun c5 => ?_) (fun c5 => ?_)
        · refine jm_iload_n (i := 1) F dX5_stepHere_20 rfl rfl ?_
          exact jm_iret F dX5_stepHere_21 (fun h => h)
        · refine jm_iinc (i := 1) (lv' := [some (.ref (jm_a E 14 0)), some (.int (s1 + 1))]) F dX5_stepHere_22 kc_1 rfl (by decide) rfl rfl ?_
          refine jm_goto F dX5_stepHere_25 ?_
          exact jm_weakD F (lv' := [some (.ref (jm_a E 14 0)), some (.int (s1 + 1))]) ⟨rfl, rfl, trivial⟩ (fun h => h)
    · refine jm_bipush F dX5_stepHere_28 kb_m9 ?_
      exact jm_iret F dX5_stepHere_30 (fun h => h)
  exact G r h hz
theorem dX5_passSteps_0 : jm_d cX5_passSteps 0 (.iconst 0) 1 1 := ⟨by decide +kernel, rfl⟩
theorem dX5_passSteps_1 : jm_d cX5_passSteps 1 (.istore_n 1) 1 2 := ⟨by decide +kernel, rfl⟩
theorem dX5_passSteps_2 : jm_d cX5_passSteps 2 (.iload_n 1) 1 3 := ⟨by decide +kernel, rfl⟩
theorem dX5_passSteps_3 : jm_d cX5_passSteps 3 (.bipush 96) 2 5 := ⟨by decide +kernel, rfl⟩
theorem dX5_passSteps_5 : jm_b cX5_passSteps 5 (.if_icmp .ge) 8 61 := ⟨56, by decide +kernel, rfl, by decide⟩
theorem dX5_passSteps_8 : jm_d cX5_passSteps 8 (.aload_n 0) 1 9 := ⟨by decide +kernel, rfl⟩
theorem dX5_passSteps_9 : jm_d cX5_passSteps 9 (.invokevirtual 37) 3 12 := ⟨by decide +kernel, rfl⟩
theorem dX5_passSteps_12 : jm_d cX5_passSteps 12 (.bipush 59) 2 14 := ⟨by decide +kernel, rfl⟩
theorem dX5_passSteps_14 : jm_b cX5_passSteps 14 (.if_icmp .eq) 17 61 := ⟨47, by decide +kernel, rfl, by decide⟩
theorem dX5_passSteps_17 : jm_d cX5_passSteps 17 (.aload_n 0) 1 18 := ⟨by decide +kernel, rfl⟩
theorem dX5_passSteps_18 : jm_d cX5_passSteps 18 (.invokevirtual 63) 3 21 := ⟨by decide +kernel, rfl⟩
theorem dX5_passSteps_21 : jm_d cX5_passSteps 21 (.istore_n 2) 1 22 := ⟨by decide +kernel, rfl⟩
theorem dX5_passSteps_22 : jm_d cX5_passSteps 22 (.iload_n 2) 1 23 := ⟨by decide +kernel, rfl⟩
theorem dX5_passSteps_23 : jm_d cX5_passSteps 23 (.bipush (-9)) 2 25 := ⟨by decide +kernel, rfl⟩
theorem dX5_passSteps_25 : jm_b cX5_passSteps 25 (.if_icmp .ne) 28 30 := ⟨5, by decide +kernel, rfl, by decide⟩
theorem dX5_passSteps_28 : jm_d cX5_passSteps 28 (.iconst 0) 1 29 := ⟨by decide +kernel, rfl⟩
theorem dX5_passSteps_29 : jm_d cX5_passSteps 29 (.ireturn) 1 30 := ⟨by decide +kernel, rfl⟩
theorem dX5_passSteps_30 : jm_d cX5_passSteps 30 (.aload_n 0) 1 31 := ⟨by decide +kernel, rfl⟩
theorem dX5_passSteps_31 : jm_d cX5_passSteps 31 (.dup) 1 32 := ⟨by decide +kernel, rfl⟩
theorem dX5_passSteps_32 : jm_d cX5_passSteps 32 (.getfield 30) 3 35 := ⟨by decide +kernel, rfl⟩
theorem dX5_passSteps_35 : jm_d cX5_passSteps 35 (.iconst 1) 1 36 := ⟨by decide +kernel, rfl⟩
theorem dX5_passSteps_36 : jm_d cX5_passSteps 36 (.iadd) 1 37 := ⟨by decide +kernel, rfl⟩
theorem dX5_passSteps_37 : jm_d cX5_passSteps 37 (.putfield 30) 3 40 := ⟨by decide +kernel, rfl⟩
theorem dX5_passSteps_40 : jm_d cX5_passSteps 40 (.iload_n 2) 1 41 := ⟨by decide +kernel, rfl⟩
theorem dX5_passSteps_41 : jm_d cX5_passSteps 41 (.iconst 4) 1 42 := ⟨by decide +kernel, rfl⟩
theorem dX5_passSteps_42 : jm_b cX5_passSteps 42 (.if_icmp .ge) 45 55 := ⟨13, by decide +kernel, rfl, by decide⟩
theorem dX5_passSteps_55 : jm_d cX5_passSteps 55 (.iinc 1 1) 3 58 := ⟨by decide +kernel, rfl⟩
theorem dX5_passSteps_58 : jm_b cX5_passSteps 58 .goto 61 2 := ⟨(-56), by decide +kernel, rfl, by decide⟩
theorem dX5_passSteps_45 : jm_d cX5_passSteps 45 (.aload_n 0) 1 46 := ⟨by decide +kernel, rfl⟩
theorem dX5_passSteps_46 : jm_d cX5_passSteps 46 (.iconst 2) 1 47 := ⟨by decide +kernel, rfl⟩
theorem dX5_passSteps_47 : jm_d cX5_passSteps 47 (.invokevirtual 54) 3 50 := ⟨by decide +kernel, rfl⟩
theorem dX5_passSteps_50 : jm_b cX5_passSteps 50 (.ifCond .ne) 53 55 := ⟨5, by decide +kernel, rfl, by decide⟩
theorem dX5_passSteps_53 : jm_d cX5_passSteps 53 (.iconst 0) 1 54 := ⟨by decide +kernel, rfl⟩
theorem dX5_passSteps_54 : jm_d cX5_passSteps 54 (.ireturn) 1 55 := ⟨by decide +kernel, rfl⟩
theorem dX5_passSteps_61 : jm_d cX5_passSteps 61 (.iconst 1) 1 62 := ⟨by decide +kernel, rfl⟩
theorem dX5_passSteps_62 : jm_d cX5_passSteps 62 (.ireturn) 1 63 := ⟨by decide +kernel, rfl⟩
set_option maxHeartbeats 4000000 in
set_option maxRecDepth 100000 in
theorem kS_passSteps (E : jm_Ev) (hE : jm_dj E jm_LC) {M : jm_M}  {r : Int32 × jm_M} (h : sS_passSteps M = some r) : jm_Ct E jm_LC yX5_passSteps cX5_passSteps 3 (some .boolean) 2 42 [.ref (jm_a E 14 0)] M (some (.int r.1)) r.2 := by
  refine jm_enter (lv := [some (.ref (jm_a E 14 0)), none, none]) hE (by decide) (Nat.le_of_ble_eq_true rfl) rfl ?_
  intro z w F hz
  have G : jm_G w 0 [some (.ref (jm_a E 14 0)), none, none] [] M (sS_passSteps M) (fun e => z (some (.int e.1)) e.2) := by
    unfold sS_passSteps
    refine jm_iconst F dX5_passSteps_0 kc_0 ?_
    refine jm_istore_n (i := 1) (lv' := [some (.ref (jm_a E 14 0)), some (.int 0), none]) F dX5_passSteps_1 rfl (by decide) rfl rfl ?_
    refine jm_bindS (pcJ := 61) (lvJ := fun e11 => [none, none, none]) (stJ := fun _ => []) (MJ := fun e11 => e11) ?_ (fun e11 => ?_)
    · refine jm_weak F (lv' := [some (.ref (jm_a E 14 0)), some (.int 0), none]) ⟨rfl, rfl, trivial⟩ ?_
      refine jm_loopR (lvH := fun s1 => [some (.ref (jm_a E 14 0)), some (.int s1.1), none]) (MH := fun s1 => s1.2) (fun s1 => ?_) jm_N (0, M)
      unfold sS_passSteps_L2
      refine jm_iload_n (i := 1) F dX5_passSteps_2 rfl rfl ?_
      refine jm_bipush F dX5_passSteps_3 kb_96 ?_
      refine jm_icmp_ge F dX5_passSteps_5 (fun c2 => ?_) (fun c2 => ?_)
      · exact jm_weakD F (lv' := [none, none, none]) trivial (fun h => h)
      · refine jm_aload_n (i := 0) F dX5_passSteps_8 rfl rfl ?_
        refine jm_callV (As := []) (st := []) (rv := fun r => some (.int r)) (mm := fun _ => s1.2) F dX5_passSteps_9 qX5_37 rfl lo_X5 rfl (fun r h => kS_here E hE h) rfl (Nat.le_of_ble_eq_true rfl) ⟨Nat.le_of_ble_eq_true rfl, Nat.le_of_ble_eq_true rfl⟩ (fun r3 => ?_)
        refine jm_bipush F dX5_passSteps_12 kb_59 ?_
        refine jm_icmp_eq F dX5_passSteps_14 (fun c4 => ?_) (fun c4 => ?_)
        · exact jm_weakD F (lv' := [none, none, none]) trivial (fun h => h)
        · refine jm_aload_n (i := 0) F dX5_passSteps_17 rfl rfl ?_
          refine jm_callV (As := []) (st := []) (rv := fun r => some (.int r)) (mm := fun _ => s1.2) F dX5_passSteps_18 qX5_63 rfl lo_X5 rfl (fun r h => kS_stepHere E hE h) rfl (Nat.le_of_ble_eq_true rfl) ⟨Nat.le_of_ble_eq_true rfl, Nat.le_of_ble_eq_true rfl⟩ (fun r5 => ?_)
          refine jm_istore_n (i := 2) (lv' := [some (.ref (jm_a E 14 0)), some (.int s1.1), some (.int r5)]) F dX5_passSteps_21 rfl (by decide) rfl rfl ?_
          refine jm_iload_n (i := 2) F dX5_passSteps_22 rfl rfl ?_
          refine jm_bipush F dX5_passSteps_23 kb_m9 ?_
          refine jm_icmp_ne F dX5_passSteps_25 (fun c6 => ?_) (fun c6 => ?_)
          · refine jm_iconst F dX5_passSteps_28 kc_0 ?_
            exact jm_zret F dX5_passSteps_29 (Or.inl rfl) (fun h => h)
          · refine jm_aload_n (i := 0) F dX5_passSteps_30 rfl rfl ?_
            refine jm_dup F dX5_passSteps_31 rfl ?_
            refine jm_getI F dX5_passSteps_32 fl_X5_30 lo_X5 rfl ?_
            refine jm_iconst F dX5_passSteps_35 kc_1 ?_
            refine jm_iadd F dX5_passSteps_36 ?_
            refine jm_putI F dX5_passSteps_37 fp_X5_30 lo_X5 rfl (fun M7 => ?_)
            refine jm_iload_n (i := 2) F dX5_passSteps_40 rfl rfl ?_
            refine jm_iconst F dX5_passSteps_41 kc_4 ?_
            refine jm_icmp_ge F dX5_passSteps_42 (fun c8 => ?_) (fun c8 => ?_)
            · refine jm_iinc (i := 1) (lv' := [some (.ref (jm_a E 14 0)), some (.int (s1.1 + 1)), some (.int r5)]) F dX5_passSteps_55 kc_1 rfl (by decide) rfl rfl ?_
              refine jm_goto F dX5_passSteps_58 ?_
              exact jm_weakD F (lv' := [some (.ref (jm_a E 14 0)), some (.int (s1.1 + 1)), none]) ⟨rfl, rfl, trivial⟩ (fun h => h)
            · refine jm_aload_n (i := 0) F dX5_passSteps_45 rfl rfl ?_
              refine jm_iconst F dX5_passSteps_46 kc_2 ?_
              refine jm_callV (As := [.int 2]) (st := []) (rv := fun r => some (.int r.1)) (mm := fun r => r.2) F dX5_passSteps_47 qX5_54 rfl lo_X5 rfl (fun r h => kS_passDigits E hE h) rfl (Nat.le_of_ble_eq_true rfl) ⟨Nat.le_of_ble_eq_true rfl, Nat.le_of_ble_eq_true rfl⟩ (fun r9 => ?_)
              refine jm_if_ne F dX5_passSteps_50 (fun c10 => ?_) (fun c10 => ?_)
              · refine jm_iconst F dX5_passSteps_53 kc_0 ?_
                exact jm_zret F dX5_passSteps_54 (Or.inl rfl) (fun h => h)
              · refine jm_iinc (i := 1) (lv' := [some (.ref (jm_a E 14 0)), some (.int (s1.1 + 1)), some (.int r5)]) F dX5_passSteps_55 kc_1 rfl (by decide) rfl rfl ?_
                refine jm_goto F dX5_passSteps_58 ?_
                exact jm_weakD F (lv' := [some (.ref (jm_a E 14 0)), some (.int (s1.1 + 1)), none]) ⟨rfl, rfl, trivial⟩ (fun h => h)
    · refine jm_iconst F dX5_passSteps_61 kc_1 ?_
      exact jm_zret F dX5_passSteps_62 (Or.inr rfl) (fun h => h)
  exact G r h hz
theorem dX5_passBody_0 : jm_d cX5_passBody 0 (.iload_n 1) 1 1 := ⟨by decide +kernel, rfl⟩
theorem dX5_passBody_1 : decode cX5_passBody 1 = .ok (.lookupswitch 81 #[(98, 49), (108, 70), (112, 43), (119, 75)], 43) := by decide +kernel
theorem dX5_passBody_50 : jm_d cX5_passBody 50 (.aload_n 0) 1 51 := ⟨by decide +kernel, rfl⟩
theorem dX5_passBody_51 : jm_d cX5_passBody 51 (.iconst 3) 1 52 := ⟨by decide +kernel, rfl⟩
theorem dX5_passBody_52 : jm_d cX5_passBody 52 (.invokevirtual 54) 3 55 := ⟨by decide +kernel, rfl⟩
theorem dX5_passBody_55 : jm_b cX5_passBody 55 (.ifCond .eq) 58 69 := ⟨14, by decide +kernel, rfl, by decide⟩
theorem dX5_passBody_69 : jm_d cX5_passBody 69 (.iconst 0) 1 70 := ⟨by decide +kernel, rfl⟩
theorem dX5_passBody_70 : jm_d cX5_passBody 70 (.ireturn) 1 71 := ⟨by decide +kernel, rfl⟩
theorem dX5_passBody_58 : jm_d cX5_passBody 58 (.aload_n 0) 1 59 := ⟨by decide +kernel, rfl⟩
theorem dX5_passBody_59 : jm_d cX5_passBody 59 (.invokevirtual 57) 3 62 := ⟨by decide +kernel, rfl⟩
theorem dX5_passBody_62 : jm_b cX5_passBody 62 (.ifCond .eq) 65 69 := ⟨7, by decide +kernel, rfl, by decide⟩
theorem dX5_passBody_65 : jm_d cX5_passBody 65 (.iconst 1) 1 66 := ⟨by decide +kernel, rfl⟩
theorem dX5_passBody_66 : jm_b cX5_passBody 66 .goto 69 70 := ⟨4, by decide +kernel, rfl, by decide⟩
theorem dX5_passBody_71 : jm_d cX5_passBody 71 (.aload_n 0) 1 72 := ⟨by decide +kernel, rfl⟩
theorem dX5_passBody_72 : jm_d cX5_passBody 72 (.invokevirtual 60) 3 75 := ⟨by decide +kernel, rfl⟩
theorem dX5_passBody_75 : jm_d cX5_passBody 75 (.ireturn) 1 76 := ⟨by decide +kernel, rfl⟩
theorem dX5_passBody_44 : jm_d cX5_passBody 44 (.aload_n 0) 1 45 := ⟨by decide +kernel, rfl⟩
theorem dX5_passBody_45 : jm_d cX5_passBody 45 (.iconst 5) 1 46 := ⟨by decide +kernel, rfl⟩
theorem dX5_passBody_46 : jm_d cX5_passBody 46 (.invokevirtual 54) 3 49 := ⟨by decide +kernel, rfl⟩
theorem dX5_passBody_49 : jm_d cX5_passBody 49 (.ireturn) 1 50 := ⟨by decide +kernel, rfl⟩
theorem dX5_passBody_76 : jm_d cX5_passBody 76 (.aload_n 0) 1 77 := ⟨by decide +kernel, rfl⟩
theorem dX5_passBody_77 : jm_d cX5_passBody 77 (.iconst 2) 1 78 := ⟨by decide +kernel, rfl⟩
theorem dX5_passBody_78 : jm_d cX5_passBody 78 (.invokevirtual 54) 3 81 := ⟨by decide +kernel, rfl⟩
theorem dX5_passBody_81 : jm_d cX5_passBody 81 (.ireturn) 1 82 := ⟨by decide +kernel, rfl⟩
theorem dX5_passBody_82 : jm_d cX5_passBody 82 (.aload_n 0) 1 83 := ⟨by decide +kernel, rfl⟩
theorem dX5_passBody_83 : jm_d cX5_passBody 83 (.iconst 1) 1 84 := ⟨by decide +kernel, rfl⟩
theorem dX5_passBody_84 : jm_d cX5_passBody 84 (.invokevirtual 54) 3 87 := ⟨by decide +kernel, rfl⟩
theorem dX5_passBody_87 : jm_b cX5_passBody 87 (.ifCond .eq) 90 101 := ⟨14, by decide +kernel, rfl, by decide⟩
theorem dX5_passBody_101 : jm_d cX5_passBody 101 (.iconst 0) 1 102 := ⟨by decide +kernel, rfl⟩
theorem dX5_passBody_102 : jm_d cX5_passBody 102 (.ireturn) 1 103 := ⟨by decide +kernel, rfl⟩
theorem dX5_passBody_90 : jm_d cX5_passBody 90 (.aload_n 0) 1 91 := ⟨by decide +kernel, rfl⟩
theorem dX5_passBody_91 : jm_d cX5_passBody 91 (.invokevirtual 57) 3 94 := ⟨by decide +kernel, rfl⟩
theorem dX5_passBody_94 : jm_b cX5_passBody 94 (.ifCond .eq) 97 101 := ⟨7, by decide +kernel, rfl, by decide⟩
theorem dX5_passBody_97 : jm_d cX5_passBody 97 (.iconst 1) 1 98 := ⟨by decide +kernel, rfl⟩
theorem dX5_passBody_98 : jm_b cX5_passBody 98 .goto 101 102 := ⟨4, by decide +kernel, rfl, by decide⟩
set_option maxHeartbeats 4000000 in
set_option maxRecDepth 100000 in
theorem kS_passBody (E : jm_Ev) (hE : jm_dj E jm_LC) {M : jm_M} {p1 : Int32}  {r : Int32 × jm_M} (h : sS_passBody M p1 = some r) : jm_Ct E jm_LC yX5_passBody cX5_passBody 2 (some .boolean) 3 64 [.ref (jm_a E 14 0), .int p1] M (some (.int r.1)) r.2 := by
  refine jm_enter (lv := [some (.ref (jm_a E 14 0)), some (.int p1)]) hE (by decide) (Nat.le_of_ble_eq_true rfl) rfl ?_
  intro z w F hz
  have G : jm_G w 0 [some (.ref (jm_a E 14 0)), some (.int p1)] [] M (sS_passBody M p1) (fun e => z (some (.int e.1)) e.2) := by
    unfold sS_passBody
    refine jm_iload_n (i := 1) F dX5_passBody_0 rfl rfl ?_
    refine jm_ite (fun c1 => ?_) (fun c1 => ?_)
    · refine jm_lsw (off := 49) (tgt := 50) F dX5_passBody_1 (by decide) (by rw [c1]; decide) (by decide) ?_
      refine jm_aload_n (i := 0) F dX5_passBody_50 rfl rfl ?_
      refine jm_iconst F dX5_passBody_51 kc_3 ?_
      refine jm_callV (As := [.int 3]) (st := []) (rv := fun r => some (.int r.1)) (mm := fun r => r.2) F dX5_passBody_52 qX5_54 rfl lo_X5 rfl (fun r h => kS_passDigits E hE h) rfl (Nat.le_of_ble_eq_true rfl) ⟨Nat.le_of_ble_eq_true rfl, Nat.le_of_ble_eq_true rfl⟩ (fun r2 => ?_)
      refine jm_if_eq F dX5_passBody_55 (fun c3 => ?_) (fun c3 => ?_)
      · refine jm_iconst F dX5_passBody_69 kc_0 ?_
        exact jm_zret F dX5_passBody_70 (Or.inl rfl) (fun h => h)
      · refine jm_aload_n (i := 0) F dX5_passBody_58 rfl rfl ?_
        refine jm_callV (As := []) (st := []) (rv := fun r => some (.int r.1)) (mm := fun r => r.2) F dX5_passBody_59 qX5_57 rfl lo_X5 rfl (fun r h => kS_passTitle E hE h) rfl (Nat.le_of_ble_eq_true rfl) ⟨Nat.le_of_ble_eq_true rfl, Nat.le_of_ble_eq_true rfl⟩ (fun r4 => ?_)
        refine jm_if_eq F dX5_passBody_62 (fun c5 => ?_) (fun c5 => ?_)
        · refine jm_iconst F dX5_passBody_69 kc_0 ?_
          exact jm_zret F dX5_passBody_70 (Or.inl rfl) (fun h => h)
        · refine jm_iconst F dX5_passBody_65 kc_1 ?_
          refine jm_goto F dX5_passBody_66 ?_
          exact jm_zret F dX5_passBody_70 (Or.inr rfl) (fun h => h)
    · refine jm_ite (fun c6 => ?_) (fun c6 => ?_)
      · refine jm_lsw (off := 70) (tgt := 71) F dX5_passBody_1 (by decide) (by rw [c6]; decide) (by decide) ?_
        refine jm_aload_n (i := 0) F dX5_passBody_71 rfl rfl ?_
        refine jm_callV (As := []) (st := []) (rv := fun r => some (.int r.1)) (mm := fun r => r.2) F dX5_passBody_72 qX5_60 rfl lo_X5 rfl (fun r h => kS_passSteps E hE h) rfl (Nat.le_of_ble_eq_true rfl) ⟨Nat.le_of_ble_eq_true rfl, Nat.le_of_ble_eq_true rfl⟩ (fun r7 => ?_)
        refine jm_bzB (fun hb9 => ?_)
        exact jm_zret F dX5_passBody_75 hb9 (fun h => h)
      · refine jm_ite (fun c10 => ?_) (fun c10 => ?_)
        · refine jm_lsw (off := 43) (tgt := 44) F dX5_passBody_1 (by decide) (by rw [c10]; decide) (by decide) ?_
          refine jm_aload_n (i := 0) F dX5_passBody_44 rfl rfl ?_
          refine jm_iconst F dX5_passBody_45 kc_5 ?_
          refine jm_callV (As := [.int 5]) (st := []) (rv := fun r => some (.int r.1)) (mm := fun r => r.2) F dX5_passBody_46 qX5_54 rfl lo_X5 rfl (fun r h => kS_passDigits E hE h) rfl (Nat.le_of_ble_eq_true rfl) ⟨Nat.le_of_ble_eq_true rfl, Nat.le_of_ble_eq_true rfl⟩ (fun r11 => ?_)
          refine jm_bzB (fun hb13 => ?_)
          exact jm_zret F dX5_passBody_49 hb13 (fun h => h)
        · refine jm_ite (fun c14 => ?_) (fun c14 => ?_)
          · refine jm_lsw (off := 75) (tgt := 76) F dX5_passBody_1 (by decide) (by rw [c14]; decide) (by decide) ?_
            refine jm_aload_n (i := 0) F dX5_passBody_76 rfl rfl ?_
            refine jm_iconst F dX5_passBody_77 kc_2 ?_
            refine jm_callV (As := [.int 2]) (st := []) (rv := fun r => some (.int r.1)) (mm := fun r => r.2) F dX5_passBody_78 qX5_54 rfl lo_X5 rfl (fun r h => kS_passDigits E hE h) rfl (Nat.le_of_ble_eq_true rfl) ⟨Nat.le_of_ble_eq_true rfl, Nat.le_of_ble_eq_true rfl⟩ (fun r15 => ?_)
            refine jm_bzB (fun hb17 => ?_)
            exact jm_zret F dX5_passBody_81 hb17 (fun h => h)
          · refine jm_lsw (off := 81) (tgt := 82) F dX5_passBody_1 (by decide) ((lv_osw c1 (by decide)).trans ((lv_osw c6 (by decide)).trans ((lv_osw c10 (by decide)).trans ((lv_osw c14 (by decide)).trans rfl)))) (by decide) ?_
            refine jm_aload_n (i := 0) F dX5_passBody_82 rfl rfl ?_
            refine jm_iconst F dX5_passBody_83 kc_1 ?_
            refine jm_callV (As := [.int 1]) (st := []) (rv := fun r => some (.int r.1)) (mm := fun r => r.2) F dX5_passBody_84 qX5_54 rfl lo_X5 rfl (fun r h => kS_passDigits E hE h) rfl (Nat.le_of_ble_eq_true rfl) ⟨Nat.le_of_ble_eq_true rfl, Nat.le_of_ble_eq_true rfl⟩ (fun r18 => ?_)
            refine jm_if_eq F dX5_passBody_87 (fun c19 => ?_) (fun c19 => ?_)
            · refine jm_iconst F dX5_passBody_101 kc_0 ?_
              exact jm_zret F dX5_passBody_102 (Or.inl rfl) (fun h => h)
            · refine jm_aload_n (i := 0) F dX5_passBody_90 rfl rfl ?_
              refine jm_callV (As := []) (st := []) (rv := fun r => some (.int r.1)) (mm := fun r => r.2) F dX5_passBody_91 qX5_57 rfl lo_X5 rfl (fun r h => kS_passTitle E hE h) rfl (Nat.le_of_ble_eq_true rfl) ⟨Nat.le_of_ble_eq_true rfl, Nat.le_of_ble_eq_true rfl⟩ (fun r20 => ?_)
              refine jm_if_eq F dX5_passBody_94 (fun c21 => ?_) (fun c21 => ?_)
              · refine jm_iconst F dX5_passBody_101 kc_0 ?_
                exact jm_zret F dX5_passBody_102 (Or.inl rfl) (fun h => h)
              · refine jm_iconst F dX5_passBody_97 kc_1 ?_
                refine jm_goto F dX5_passBody_98 ?_
                exact jm_zret F dX5_passBody_102 (Or.inr rfl) (fun h => h)
  exact G r h hz
theorem dX5_passLetter_0 : jm_d cX5_passLetter 0 (.aload_n 0) 1 1 := ⟨by decide +kernel, rfl⟩
theorem dX5_passLetter_1 : jm_d cX5_passLetter 1 (.invokevirtual 37) 3 4 := ⟨by decide +kernel, rfl⟩
theorem dX5_passLetter_4 : jm_d cX5_passLetter 4 (.iload_n 1) 1 5 := ⟨by decide +kernel, rfl⟩
theorem dX5_passLetter_5 : jm_b cX5_passLetter 5 (.if_icmp .eq) 8 10 := ⟨5, by decide +kernel, rfl, by decide⟩
theorem dX5_passLetter_10 : jm_d cX5_passLetter 10 (.aload_n 0) 1 11 := ⟨by decide +kernel, rfl⟩
theorem dX5_passLetter_11 : jm_d cX5_passLetter 11 (.dup) 1 12 := ⟨by decide +kernel, rfl⟩
theorem dX5_passLetter_12 : jm_d cX5_passLetter 12 (.getfield 30) 3 15 := ⟨by decide +kernel, rfl⟩
theorem dX5_passLetter_15 : jm_d cX5_passLetter 15 (.iconst 1) 1 16 := ⟨by decide +kernel, rfl⟩
theorem dX5_passLetter_16 : jm_d cX5_passLetter 16 (.iadd) 1 17 := ⟨by decide +kernel, rfl⟩
theorem dX5_passLetter_17 : jm_d cX5_passLetter 17 (.putfield 30) 3 20 := ⟨by decide +kernel, rfl⟩
theorem dX5_passLetter_20 : jm_d cX5_passLetter 20 (.iconst 1) 1 21 := ⟨by decide +kernel, rfl⟩
theorem dX5_passLetter_21 : jm_d cX5_passLetter 21 (.ireturn) 1 22 := ⟨by decide +kernel, rfl⟩
theorem dX5_passLetter_8 : jm_d cX5_passLetter 8 (.iconst 0) 1 9 := ⟨by decide +kernel, rfl⟩
theorem dX5_passLetter_9 : jm_d cX5_passLetter 9 (.ireturn) 1 10 := ⟨by decide +kernel, rfl⟩
set_option maxHeartbeats 4000000 in
set_option maxRecDepth 100000 in
theorem kS_passLetter (E : jm_Ev) (hE : jm_dj E jm_LC) {M : jm_M} {p1 : Int32}  {r : Int32 × jm_M} (h : sS_passLetter M p1 = some r) : jm_Ct E jm_LC yX5_passLetter cX5_passLetter 2 (some .boolean) 1 20 [.ref (jm_a E 14 0), .int p1] M (some (.int r.1)) r.2 := by
  refine jm_enter (lv := [some (.ref (jm_a E 14 0)), some (.int p1)]) hE (by decide) (Nat.le_of_ble_eq_true rfl) rfl ?_
  intro z w F hz
  have G : jm_G w 0 [some (.ref (jm_a E 14 0)), some (.int p1)] [] M (sS_passLetter M p1) (fun e => z (some (.int e.1)) e.2) := by
    unfold sS_passLetter
    refine jm_aload_n (i := 0) F dX5_passLetter_0 rfl rfl ?_
    refine jm_callV (As := []) (st := []) (rv := fun r => some (.int r)) (mm := fun _ => M) F dX5_passLetter_1 qX5_37 rfl lo_X5 rfl (fun r h => kS_here E hE h) rfl (Nat.le_of_ble_eq_true rfl) ⟨Nat.le_of_ble_eq_true rfl, Nat.le_of_ble_eq_true rfl⟩ (fun r1 => ?_)
    refine jm_iload_n (i := 1) F dX5_passLetter_4 rfl rfl ?_
    refine jm_icmp_eq F dX5_passLetter_5 (fun c2 => ?_) (fun c2 => ?_)
    · refine jm_aload_n (i := 0) F dX5_passLetter_10 rfl rfl ?_
      refine jm_dup F dX5_passLetter_11 rfl ?_
      refine jm_getI F dX5_passLetter_12 fl_X5_30 lo_X5 rfl ?_
      refine jm_iconst F dX5_passLetter_15 kc_1 ?_
      refine jm_iadd F dX5_passLetter_16 ?_
      refine jm_putI F dX5_passLetter_17 fp_X5_30 lo_X5 rfl (fun M3 => ?_)
      refine jm_iconst F dX5_passLetter_20 kc_1 ?_
      exact jm_zret F dX5_passLetter_21 (Or.inr rfl) (fun h => h)
    · refine jm_iconst F dX5_passLetter_8 kc_0 ?_
      exact jm_zret F dX5_passLetter_9 (Or.inl rfl) (fun h => h)
  exact G r h hz
theorem dX5_passStatement_0 : jm_d cX5_passStatement 0 (.aload_n 0) 1 1 := ⟨by decide +kernel, rfl⟩
theorem dX5_passStatement_1 : jm_d cX5_passStatement 1 (.invokevirtual 37) 3 4 := ⟨by decide +kernel, rfl⟩
theorem dX5_passStatement_4 : jm_d cX5_passStatement 4 (.istore_n 1) 1 5 := ⟨by decide +kernel, rfl⟩
theorem dX5_passStatement_5 : jm_d cX5_passStatement 5 (.iload_n 1) 1 6 := ⟨by decide +kernel, rfl⟩
theorem dX5_passStatement_6 : jm_d cX5_passStatement 6 (.bipush 112) 2 8 := ⟨by decide +kernel, rfl⟩
theorem dX5_passStatement_8 : jm_b cX5_passStatement 8 (.if_icmp .eq) 11 43 := ⟨35, by decide +kernel, rfl, by decide⟩
theorem dX5_passStatement_43 : jm_d cX5_passStatement 43 (.aload_n 0) 1 44 := ⟨by decide +kernel, rfl⟩
theorem dX5_passStatement_44 : jm_d cX5_passStatement 44 (.dup) 1 45 := ⟨by decide +kernel, rfl⟩
theorem dX5_passStatement_45 : jm_d cX5_passStatement 45 (.getfield 30) 3 48 := ⟨by decide +kernel, rfl⟩
theorem dX5_passStatement_48 : jm_d cX5_passStatement 48 (.iconst 1) 1 49 := ⟨by decide +kernel, rfl⟩
theorem dX5_passStatement_49 : jm_d cX5_passStatement 49 (.iadd) 1 50 := ⟨by decide +kernel, rfl⟩
theorem dX5_passStatement_50 : jm_d cX5_passStatement 50 (.putfield 30) 3 53 := ⟨by decide +kernel, rfl⟩
theorem dX5_passStatement_53 : jm_d cX5_passStatement 53 (.aload_n 0) 1 54 := ⟨by decide +kernel, rfl⟩
theorem dX5_passStatement_54 : jm_d cX5_passStatement 54 (.iload_n 1) 1 55 := ⟨by decide +kernel, rfl⟩
theorem dX5_passStatement_55 : jm_d cX5_passStatement 55 (.invokevirtual 48) 3 58 := ⟨by decide +kernel, rfl⟩
theorem dX5_passStatement_58 : jm_b cX5_passStatement 58 (.ifCond .eq) 61 74 := ⟨16, by decide +kernel, rfl, by decide⟩
theorem dX5_passStatement_74 : jm_d cX5_passStatement 74 (.iconst 0) 1 75 := ⟨by decide +kernel, rfl⟩
theorem dX5_passStatement_75 : jm_d cX5_passStatement 75 (.ireturn) 1 76 := ⟨by decide +kernel, rfl⟩
theorem dX5_passStatement_61 : jm_d cX5_passStatement 61 (.aload_n 0) 1 62 := ⟨by decide +kernel, rfl⟩
theorem dX5_passStatement_62 : jm_d cX5_passStatement 62 (.bipush 59) 2 64 := ⟨by decide +kernel, rfl⟩
theorem dX5_passStatement_64 : jm_d cX5_passStatement 64 (.invokevirtual 51) 3 67 := ⟨by decide +kernel, rfl⟩
theorem dX5_passStatement_67 : jm_b cX5_passStatement 67 (.ifCond .eq) 70 74 := ⟨7, by decide +kernel, rfl, by decide⟩
theorem dX5_passStatement_70 : jm_d cX5_passStatement 70 (.iconst 1) 1 71 := ⟨by decide +kernel, rfl⟩
theorem dX5_passStatement_71 : jm_b cX5_passStatement 71 .goto 74 75 := ⟨4, by decide +kernel, rfl, by decide⟩
theorem dX5_passStatement_11 : jm_d cX5_passStatement 11 (.iload_n 1) 1 12 := ⟨by decide +kernel, rfl⟩
theorem dX5_passStatement_12 : jm_d cX5_passStatement 12 (.bipush 98) 2 14 := ⟨by decide +kernel, rfl⟩
theorem dX5_passStatement_14 : jm_b cX5_passStatement 14 (.if_icmp .eq) 17 43 := ⟨29, by decide +kernel, rfl, by decide⟩
theorem dX5_passStatement_17 : jm_d cX5_passStatement 17 (.iload_n 1) 1 18 := ⟨by decide +kernel, rfl⟩
theorem dX5_passStatement_18 : jm_d cX5_passStatement 18 (.bipush 114) 2 20 := ⟨by decide +kernel, rfl⟩
theorem dX5_passStatement_20 : jm_b cX5_passStatement 20 (.if_icmp .eq) 23 43 := ⟨23, by decide +kernel, rfl, by decide⟩
theorem dX5_passStatement_23 : jm_d cX5_passStatement 23 (.iload_n 1) 1 24 := ⟨by decide +kernel, rfl⟩
theorem dX5_passStatement_24 : jm_d cX5_passStatement 24 (.bipush 104) 2 26 := ⟨by decide +kernel, rfl⟩
theorem dX5_passStatement_26 : jm_b cX5_passStatement 26 (.if_icmp .eq) 29 43 := ⟨17, by decide +kernel, rfl, by decide⟩
theorem dX5_passStatement_29 : jm_d cX5_passStatement 29 (.iload_n 1) 1 30 := ⟨by decide +kernel, rfl⟩
theorem dX5_passStatement_30 : jm_d cX5_passStatement 30 (.bipush 108) 2 32 := ⟨by decide +kernel, rfl⟩
theorem dX5_passStatement_32 : jm_b cX5_passStatement 32 (.if_icmp .eq) 35 43 := ⟨11, by decide +kernel, rfl, by decide⟩
theorem dX5_passStatement_35 : jm_d cX5_passStatement 35 (.iload_n 1) 1 36 := ⟨by decide +kernel, rfl⟩
theorem dX5_passStatement_36 : jm_d cX5_passStatement 36 (.bipush 119) 2 38 := ⟨by decide +kernel, rfl⟩
theorem dX5_passStatement_38 : jm_b cX5_passStatement 38 (.if_icmp .eq) 41 43 := ⟨5, by decide +kernel, rfl, by decide⟩
theorem dX5_passStatement_41 : jm_d cX5_passStatement 41 (.iconst 0) 1 42 := ⟨by decide +kernel, rfl⟩
theorem dX5_passStatement_42 : jm_d cX5_passStatement 42 (.ireturn) 1 43 := ⟨by decide +kernel, rfl⟩
set_option maxHeartbeats 4000000 in
set_option maxRecDepth 100000 in
theorem kS_passStatement (E : jm_Ev) (hE : jm_dj E jm_LC) {M : jm_M}  {r : Int32 × jm_M} (h : sS_passStatement M = some r) : jm_Ct E jm_LC yX5_passStatement cX5_passStatement 2 (some .boolean) 4 85 [.ref (jm_a E 14 0)] M (some (.int r.1)) r.2 := by
  refine jm_enter (lv := [some (.ref (jm_a E 14 0)), none]) hE (by decide) (Nat.le_of_ble_eq_true rfl) rfl ?_
  intro z w F hz
  have G : jm_G w 0 [some (.ref (jm_a E 14 0)), none] [] M (sS_passStatement M) (fun e => z (some (.int e.1)) e.2) := by
    unfold sS_passStatement
    refine jm_aload_n (i := 0) F dX5_passStatement_0 rfl rfl ?_
    refine jm_callV (As := []) (st := []) (rv := fun r => some (.int r)) (mm := fun _ => M) F dX5_passStatement_1 qX5_37 rfl lo_X5 rfl (fun r h => kS_here E hE h) rfl (Nat.le_of_ble_eq_true rfl) ⟨Nat.le_of_ble_eq_true rfl, Nat.le_of_ble_eq_true rfl⟩ (fun r1 => ?_)
    refine jm_istore_n (i := 1) (lv' := [some (.ref (jm_a E 14 0)), some (.int r1)]) F dX5_passStatement_4 rfl (by decide) rfl rfl ?_
    refine jm_iload_n (i := 1) F dX5_passStatement_5 rfl rfl ?_
    refine jm_bipush F dX5_passStatement_6 kb_112 ?_
    refine jm_icmp_eq F dX5_passStatement_8 (fun c2 => ?_) (fun c2 => ?_)
    · refine jm_aload_n (i := 0) F dX5_passStatement_43 rfl rfl ?_
      refine jm_dup F dX5_passStatement_44 rfl ?_
      refine jm_getI F dX5_passStatement_45 fl_X5_30 lo_X5 rfl ?_
      refine jm_iconst F dX5_passStatement_48 kc_1 ?_
      refine jm_iadd F dX5_passStatement_49 ?_
      refine jm_putI F dX5_passStatement_50 fp_X5_30 lo_X5 rfl (fun M3 => ?_)
      refine jm_aload_n (i := 0) F dX5_passStatement_53 rfl rfl ?_
      refine jm_iload_n (i := 1) F dX5_passStatement_54 rfl rfl ?_
      refine jm_callV (As := [.int r1]) (st := []) (rv := fun r => some (.int r.1)) (mm := fun r => r.2) F dX5_passStatement_55 qX5_48 rfl lo_X5 rfl (fun r h => kS_passBody E hE h) rfl (Nat.le_of_ble_eq_true rfl) ⟨Nat.le_of_ble_eq_true rfl, Nat.le_of_ble_eq_true rfl⟩ (fun r4 => ?_)
      refine jm_if_eq F dX5_passStatement_58 (fun c5 => ?_) (fun c5 => ?_)
      · refine jm_iconst F dX5_passStatement_74 kc_0 ?_
        exact jm_zret F dX5_passStatement_75 (Or.inl rfl) (fun h => h)
      · refine jm_aload_n (i := 0) F dX5_passStatement_61 rfl rfl ?_
        refine jm_bipush F dX5_passStatement_62 kb_59 ?_
        refine jm_callV (As := [.int 59]) (st := []) (rv := fun r => some (.int r.1)) (mm := fun r => r.2) F dX5_passStatement_64 qX5_51 rfl lo_X5 rfl (fun r h => kS_passLetter E hE h) rfl (Nat.le_of_ble_eq_true rfl) ⟨Nat.le_of_ble_eq_true rfl, Nat.le_of_ble_eq_true rfl⟩ (fun r6 => ?_)
        refine jm_if_eq F dX5_passStatement_67 (fun c7 => ?_) (fun c7 => ?_)
        · refine jm_iconst F dX5_passStatement_74 kc_0 ?_
          exact jm_zret F dX5_passStatement_75 (Or.inl rfl) (fun h => h)
        · refine jm_iconst F dX5_passStatement_70 kc_1 ?_
          refine jm_goto F dX5_passStatement_71 ?_
          exact jm_zret F dX5_passStatement_75 (Or.inr rfl) (fun h => h)
    · refine jm_iload_n (i := 1) F dX5_passStatement_11 rfl rfl ?_
      refine jm_bipush F dX5_passStatement_12 kb_98 ?_
      refine jm_icmp_eq F dX5_passStatement_14 (fun c8 => ?_) (fun c8 => ?_)
      · refine jm_aload_n (i := 0) F dX5_passStatement_43 rfl rfl ?_
        refine jm_dup F dX5_passStatement_44 rfl ?_
        refine jm_getI F dX5_passStatement_45 fl_X5_30 lo_X5 rfl ?_
        refine jm_iconst F dX5_passStatement_48 kc_1 ?_
        refine jm_iadd F dX5_passStatement_49 ?_
        refine jm_putI F dX5_passStatement_50 fp_X5_30 lo_X5 rfl (fun M9 => ?_)
        refine jm_aload_n (i := 0) F dX5_passStatement_53 rfl rfl ?_
        refine jm_iload_n (i := 1) F dX5_passStatement_54 rfl rfl ?_
        refine jm_callV (As := [.int r1]) (st := []) (rv := fun r => some (.int r.1)) (mm := fun r => r.2) F dX5_passStatement_55 qX5_48 rfl lo_X5 rfl (fun r h => kS_passBody E hE h) rfl (Nat.le_of_ble_eq_true rfl) ⟨Nat.le_of_ble_eq_true rfl, Nat.le_of_ble_eq_true rfl⟩ (fun r10 => ?_)
        refine jm_if_eq F dX5_passStatement_58 (fun c11 => ?_) (fun c11 => ?_)
        · refine jm_iconst F dX5_passStatement_74 kc_0 ?_
          exact jm_zret F dX5_passStatement_75 (Or.inl rfl) (fun h => h)
        · refine jm_aload_n (i := 0) F dX5_passStatement_61 rfl rfl ?_
          refine jm_bipush F dX5_passStatement_62 kb_59 ?_
          refine jm_callV (As := [.int 59]) (st := []) (rv := fun r => some (.int r.1)) (mm := fun r => r.2) F dX5_passStatement_64 qX5_51 rfl lo_X5 rfl (fun r h => kS_passLetter E hE h) rfl (Nat.le_of_ble_eq_true rfl) ⟨Nat.le_of_ble_eq_true rfl, Nat.le_of_ble_eq_true rfl⟩ (fun r12 => ?_)
          refine jm_if_eq F dX5_passStatement_67 (fun c13 => ?_) (fun c13 => ?_)
          · refine jm_iconst F dX5_passStatement_74 kc_0 ?_
            exact jm_zret F dX5_passStatement_75 (Or.inl rfl) (fun h => h)
          · refine jm_iconst F dX5_passStatement_70 kc_1 ?_
            refine jm_goto F dX5_passStatement_71 ?_
            exact jm_zret F dX5_passStatement_75 (Or.inr rfl) (fun h => h)
      · refine jm_iload_n (i := 1) F dX5_passStatement_17 rfl rfl ?_
        refine jm_bipush F dX5_passStatement_18 kb_114 ?_
        refine jm_icmp_eq F dX5_passStatement_20 (fun c14 => ?_) (fun c14 => ?_)
        · refine jm_aload_n (i := 0) F dX5_passStatement_43 rfl rfl ?_
          refine jm_dup F dX5_passStatement_44 rfl ?_
          refine jm_getI F dX5_passStatement_45 fl_X5_30 lo_X5 rfl ?_
          refine jm_iconst F dX5_passStatement_48 kc_1 ?_
          refine jm_iadd F dX5_passStatement_49 ?_
          refine jm_putI F dX5_passStatement_50 fp_X5_30 lo_X5 rfl (fun M15 => ?_)
          refine jm_aload_n (i := 0) F dX5_passStatement_53 rfl rfl ?_
          refine jm_iload_n (i := 1) F dX5_passStatement_54 rfl rfl ?_
          refine jm_callV (As := [.int r1]) (st := []) (rv := fun r => some (.int r.1)) (mm := fun r => r.2) F dX5_passStatement_55 qX5_48 rfl lo_X5 rfl (fun r h => kS_passBody E hE h) rfl (Nat.le_of_ble_eq_true rfl) ⟨Nat.le_of_ble_eq_true rfl, Nat.le_of_ble_eq_true rfl⟩ (fun r16 => ?_)
          refine jm_if_eq F dX5_passStatement_58 (fun c17 => ?_) (fun c17 => ?_)
          · refine jm_iconst F dX5_passStatement_74 kc_0 ?_
            exact jm_zret F dX5_passStatement_75 (Or.inl rfl) (fun h => h)
          · refine jm_aload_n (i := 0) F dX5_passStatement_61 rfl rfl ?_
            refine jm_bipush F dX5_passStatement_62 kb_59 ?_
            refine jm_callV (As := [.int 59]) (st := []) (rv := fun r => some (.int r.1)) (mm := fun r => r.2) F dX5_passStatement_64 qX5_51 rfl lo_X5 rfl (fun r h => kS_passLetter E hE h) rfl (Nat.le_of_ble_eq_true rfl) ⟨Nat.le_of_ble_eq_true rfl, Nat.le_of_ble_eq_true rfl⟩ (fun r18 => ?_)
            refine jm_if_eq F dX5_passStatement_67 (fun c19 => ?_) (fun c19 => ?_)
            · refine jm_iconst F dX5_passStatement_74 kc_0 ?_
              exact jm_zret F dX5_passStatement_75 (Or.inl rfl) (fun h => h)
            · refine jm_iconst F dX5_passStatement_70 kc_1 ?_
              refine jm_goto F dX5_passStatement_71 ?_
              exact jm_zret F dX5_passStatement_75 (Or.inr rfl) (fun h => h)
        · refine jm_iload_n (i := 1) F dX5_passStatement_23 rfl rfl ?_
          refine jm_bipush F dX5_passStatement_24 kb_104 ?_
          refine jm_icmp_eq F dX5_passStatement_26 (fun c20 => ?_) (fun c20 => ?_)
          · refine jm_aload_n (i := 0) F dX5_passStatement_43 rfl rfl ?_
            refine jm_dup F dX5_passStatement_44 rfl ?_
            refine jm_getI F dX5_passStatement_45 fl_X5_30 lo_X5 rfl ?_
            refine jm_iconst F dX5_passStatement_48 kc_1 ?_
            refine jm_iadd F dX5_passStatement_49 ?_
            refine jm_putI F dX5_passStatement_50 fp_X5_30 lo_X5 rfl (fun M21 => ?_)
            refine jm_aload_n (i := 0) F dX5_passStatement_53 rfl rfl ?_
            refine jm_iload_n (i := 1) F dX5_passStatement_54 rfl rfl ?_
            refine jm_callV (As := [.int r1]) (st := []) (rv := fun r => some (.int r.1)) (mm := fun r => r.2) F dX5_passStatement_55 qX5_48 rfl lo_X5 rfl (fun r h => kS_passBody E hE h) rfl (Nat.le_of_ble_eq_true rfl) ⟨Nat.le_of_ble_eq_true rfl, Nat.le_of_ble_eq_true rfl⟩ (fun r22 => ?_)
            refine jm_if_eq F dX5_passStatement_58 (fun c23 => ?_) (fun c23 => ?_)
            · refine jm_iconst F dX5_passStatement_74 kc_0 ?_
              exact jm_zret F dX5_passStatement_75 (Or.inl rfl) (fun h => h)
            · refine jm_aload_n (i := 0) F dX5_passStatement_61 rfl rfl ?_
              refine jm_bipush F dX5_passStatement_62 kb_59 ?_
              refine jm_callV (As := [.int 59]) (st := []) (rv := fun r => some (.int r.1)) (mm := fun r => r.2) F dX5_passStatement_64 qX5_51 rfl lo_X5 rfl (fun r h => kS_passLetter E hE h) rfl (Nat.le_of_ble_eq_true rfl) ⟨Nat.le_of_ble_eq_true rfl, Nat.le_of_ble_eq_true rfl⟩ (fun r24 => ?_)
              refine jm_if_eq F dX5_passStatement_67 (fun c25 => ?_) (fun c25 => ?_)
              · refine jm_iconst F dX5_passStatement_74 kc_0 ?_
                exact jm_zret F dX5_passStatement_75 (Or.inl rfl) (fun h => h)
              · refine jm_iconst F dX5_passStatement_70 kc_1 ?_
                refine jm_goto F dX5_passStatement_71 ?_
                exact jm_zret F dX5_passStatement_75 (Or.inr rfl) (fun h => h)
          · refine jm_iload_n (i := 1) F dX5_passStatement_29 rfl rfl ?_
            refine jm_bipush F dX5_passStatement_30 kb_108 ?_
            refine jm_icmp_eq F dX5_passStatement_32 (fun c26 => ?_) (fun c26 => ?_)
            · refine jm_aload_n (i := 0) F dX5_passStatement_43 rfl rfl ?_
              refine jm_dup F dX5_passStatement_44 rfl ?_
              refine jm_getI F dX5_passStatement_45 fl_X5_30 lo_X5 rfl ?_
              refine jm_iconst F dX5_passStatement_48 kc_1 ?_
              refine jm_iadd F dX5_passStatement_49 ?_
              refine jm_putI F dX5_passStatement_50 fp_X5_30 lo_X5 rfl (fun M27 => ?_)
              refine jm_aload_n (i := 0) F dX5_passStatement_53 rfl rfl ?_
              refine jm_iload_n (i := 1) F dX5_passStatement_54 rfl rfl ?_
              refine jm_callV (As := [.int r1]) (st := []) (rv := fun r => some (.int r.1)) (mm := fun r => r.2) F dX5_passStatement_55 qX5_48 rfl lo_X5 rfl (fun r h => kS_passBody E hE h) rfl (Nat.le_of_ble_eq_true rfl) ⟨Nat.le_of_ble_eq_true rfl, Nat.le_of_ble_eq_true rfl⟩ (fun r28 => ?_)
              refine jm_if_eq F dX5_passStatement_58 (fun c29 => ?_) (fun c29 => ?_)
              · refine jm_iconst F dX5_passStatement_74 kc_0 ?_
                exact jm_zret F dX5_passStatement_75 (Or.inl rfl) (fun h => h)
              · refine jm_aload_n (i := 0) F dX5_passStatement_61 rfl rfl ?_
                refine jm_bipush F dX5_passStatement_62 kb_59 ?_
                refine jm_callV (As := [.int 59]) (st := []) (rv := fun r => some (.int r.1)) (mm := fun r => r.2) F dX5_passStatement_64 qX5_51 rfl lo_X5 rfl (fun r h => kS_passLetter E hE h) rfl (Nat.le_of_ble_eq_true rfl) ⟨Nat.le_of_ble_eq_true rfl, Nat.le_of_ble_eq_true rfl⟩ (fun r30 => ?_)
                refine jm_if_eq F dX5_passStatement_67 (fun c31 => ?_) (fun c31 => ?_)
                · refine jm_iconst F dX5_passStatement_74 kc_0 ?_
                  exact jm_zret F dX5_passStatement_75 (Or.inl rfl) (fun h => h)
                · refine jm_iconst F dX5_passStatement_70 kc_1 ?_
                  refine jm_goto F dX5_passStatement_71 ?_
                  exact jm_zret F dX5_passStatement_75 (Or.inr rfl) (fun h => h)
            · refine jm_iload_n (i := 1) F dX5_passStatement_35 rfl rfl ?_
              refine jm_bipush F dX5_passStatement_36 kb_119 ?_
              refine jm_icmp_eq F dX5_passStatement_38 (fun c32 => ?_) (fun c32 => ?_)
              · refine jm_aload_n (i := 0) F dX5_passStatement_43 rfl rfl ?_
                refine jm_dup F dX5_passStatement_44 rfl ?_
                refine jm_getI F dX5_passStatement_45 fl_X5_30 lo_X5 rfl ?_
                refine jm_iconst F dX5_passStatement_48 kc_1 ?_
                refine jm_iadd F dX5_passStatement_49 ?_
                refine jm_putI F dX5_passStatement_50 fp_X5_30 lo_X5 rfl (fun M33 => ?_)
                refine jm_aload_n (i := 0) F dX5_passStatement_53 rfl rfl ?_
                refine jm_iload_n (i := 1) F dX5_passStatement_54 rfl rfl ?_
                refine jm_callV (As := [.int r1]) (st := []) (rv := fun r => some (.int r.1)) (mm := fun r => r.2) F dX5_passStatement_55 qX5_48 rfl lo_X5 rfl (fun r h => kS_passBody E hE h) rfl (Nat.le_of_ble_eq_true rfl) ⟨Nat.le_of_ble_eq_true rfl, Nat.le_of_ble_eq_true rfl⟩ (fun r34 => ?_)
                refine jm_if_eq F dX5_passStatement_58 (fun c35 => ?_) (fun c35 => ?_)
                · refine jm_iconst F dX5_passStatement_74 kc_0 ?_
                  exact jm_zret F dX5_passStatement_75 (Or.inl rfl) (fun h => h)
                · refine jm_aload_n (i := 0) F dX5_passStatement_61 rfl rfl ?_
                  refine jm_bipush F dX5_passStatement_62 kb_59 ?_
                  refine jm_callV (As := [.int 59]) (st := []) (rv := fun r => some (.int r.1)) (mm := fun r => r.2) F dX5_passStatement_64 qX5_51 rfl lo_X5 rfl (fun r h => kS_passLetter E hE h) rfl (Nat.le_of_ble_eq_true rfl) ⟨Nat.le_of_ble_eq_true rfl, Nat.le_of_ble_eq_true rfl⟩ (fun r36 => ?_)
                  refine jm_if_eq F dX5_passStatement_67 (fun c37 => ?_) (fun c37 => ?_)
                  · refine jm_iconst F dX5_passStatement_74 kc_0 ?_
                    exact jm_zret F dX5_passStatement_75 (Or.inl rfl) (fun h => h)
                  · refine jm_iconst F dX5_passStatement_70 kc_1 ?_
                    refine jm_goto F dX5_passStatement_71 ?_
                    exact jm_zret F dX5_passStatement_75 (Or.inr rfl) (fun h => h)
              · refine jm_iconst F dX5_passStatement_41 kc_0 ?_
                exact jm_zret F dX5_passStatement_42 (Or.inl rfl) (fun h => h)
  exact G r h hz
theorem dX5_canBeRead_0 : jm_d cX5_canBeRead 0 (.aload_n 0) 1 1 := ⟨by decide +kernel, rfl⟩
theorem dX5_canBeRead_1 : jm_d cX5_canBeRead 1 (.iconst 0) 1 2 := ⟨by decide +kernel, rfl⟩
theorem dX5_canBeRead_2 : jm_d cX5_canBeRead 2 (.putfield 30) 3 5 := ⟨by decide +kernel, rfl⟩
theorem dX5_canBeRead_5 : jm_d cX5_canBeRead 5 (.aload_n 0) 1 6 := ⟨by decide +kernel, rfl⟩
theorem dX5_canBeRead_6 : jm_d cX5_canBeRead 6 (.invokevirtual 45) 3 9 := ⟨by decide +kernel, rfl⟩
theorem dX5_canBeRead_9 : jm_d cX5_canBeRead 9 (.istore_n 1) 1 10 := ⟨by decide +kernel, rfl⟩
theorem dX5_canBeRead_10 : jm_d cX5_canBeRead 10 (.iconst 0) 1 11 := ⟨by decide +kernel, rfl⟩
theorem dX5_canBeRead_11 : jm_d cX5_canBeRead 11 (.istore_n 2) 1 12 := ⟨by decide +kernel, rfl⟩
theorem dX5_canBeRead_12 : jm_d cX5_canBeRead 12 (.iload_n 2) 1 13 := ⟨by decide +kernel, rfl⟩
theorem dX5_canBeRead_13 : jm_d cX5_canBeRead 13 (.bipush 96) 2 15 := ⟨by decide +kernel, rfl⟩
theorem dX5_canBeRead_15 : jm_b cX5_canBeRead 15 (.if_icmp .ge) 18 44 := ⟨29, by decide +kernel, rfl, by decide⟩
theorem dX5_canBeRead_18 : jm_d cX5_canBeRead 18 (.iload_n 1) 1 19 := ⟨by decide +kernel, rfl⟩
theorem dX5_canBeRead_19 : jm_b cX5_canBeRead 19 (.ifCond .eq) 22 44 := ⟨25, by decide +kernel, rfl, by decide⟩
theorem dX5_canBeRead_22 : jm_d cX5_canBeRead 22 (.aload_n 0) 1 23 := ⟨by decide +kernel, rfl⟩
theorem dX5_canBeRead_23 : jm_d cX5_canBeRead 23 (.getfield 30) 3 26 := ⟨by decide +kernel, rfl⟩
theorem dX5_canBeRead_26 : jm_d cX5_canBeRead 26 (.aload_n 0) 1 27 := ⟨by decide +kernel, rfl⟩
theorem dX5_canBeRead_27 : jm_d cX5_canBeRead 27 (.getfield 22) 3 30 := ⟨by decide +kernel, rfl⟩
theorem dX5_canBeRead_30 : jm_b cX5_canBeRead 30 (.if_icmp .ge) 33 44 := ⟨14, by decide +kernel, rfl, by decide⟩
theorem dX5_canBeRead_33 : jm_d cX5_canBeRead 33 (.aload_n 0) 1 34 := ⟨by decide +kernel, rfl⟩
theorem dX5_canBeRead_34 : jm_d cX5_canBeRead 34 (.invokevirtual 45) 3 37 := ⟨by decide +kernel, rfl⟩
theorem dX5_canBeRead_37 : jm_d cX5_canBeRead 37 (.istore_n 1) 1 38 := ⟨by decide +kernel, rfl⟩
theorem dX5_canBeRead_38 : jm_d cX5_canBeRead 38 (.iinc 2 1) 3 41 := ⟨by decide +kernel, rfl⟩
theorem dX5_canBeRead_41 : jm_b cX5_canBeRead 41 .goto 44 12 := ⟨(-29), by decide +kernel, rfl, by decide⟩
theorem dX5_canBeRead_44 : jm_d cX5_canBeRead 44 (.iload_n 1) 1 45 := ⟨by decide +kernel, rfl⟩
theorem dX5_canBeRead_45 : jm_d cX5_canBeRead 45 (.ireturn) 1 46 := ⟨by decide +kernel, rfl⟩
set_option maxHeartbeats 4000000 in
set_option maxRecDepth 100000 in
theorem kS_canBeRead (E : jm_Ev) (hE : jm_dj E jm_LC) {M : jm_M}  {r : Int32 × jm_M} (h : sS_canBeRead M = some r) : jm_Ct E jm_LC yX5_canBeRead cX5_canBeRead 3 (some .boolean) 5 106 [.ref (jm_a E 14 0)] M (some (.int r.1)) r.2 := by
  refine jm_enter (lv := [some (.ref (jm_a E 14 0)), none, none]) hE (by decide) (Nat.le_of_ble_eq_true rfl) rfl ?_
  intro z w F hz
  have G : jm_G w 0 [some (.ref (jm_a E 14 0)), none, none] [] M (sS_canBeRead M) (fun e => z (some (.int e.1)) e.2) := by
    unfold sS_canBeRead
    refine jm_aload_n (i := 0) F dX5_canBeRead_0 rfl rfl ?_
    refine jm_iconst F dX5_canBeRead_1 kc_0 ?_
    refine jm_putI F dX5_canBeRead_2 fp_X5_30 lo_X5 rfl (fun M1 => ?_)
    refine jm_aload_n (i := 0) F dX5_canBeRead_5 rfl rfl ?_
    refine jm_callV (As := []) (st := []) (rv := fun r => some (.int r.1)) (mm := fun r => r.2) F dX5_canBeRead_6 qX5_45 rfl lo_X5 rfl (fun r h => kS_passStatement E hE h) rfl (Nat.le_of_ble_eq_true rfl) ⟨Nat.le_of_ble_eq_true rfl, Nat.le_of_ble_eq_true rfl⟩ (fun r2 => ?_)
    refine jm_istore_n (i := 1) (lv' := [some (.ref (jm_a E 14 0)), some (.int r2.1), none]) F dX5_canBeRead_9 rfl (by decide) rfl rfl ?_
    refine jm_iconst F dX5_canBeRead_10 kc_0 ?_
    refine jm_istore_n (i := 2) (lv' := [some (.ref (jm_a E 14 0)), some (.int r2.1), some (.int 0)]) F dX5_canBeRead_11 rfl (by decide) rfl rfl ?_
    refine jm_bind (pcJ := 44) (lvJ := fun e8 => [none, some (.int e8.1), none]) (stJ := fun _ => []) (MJ := fun e8 => e8.2) ?_ (fun e8 => ?_)
    · refine jm_weak F (lv' := [some (.ref (jm_a E 14 0)), some (.int r2.1), some (.int 0)]) ⟨rfl, rfl, rfl, trivial⟩ ?_
      refine jm_loopR (lvH := fun s3 => [some (.ref (jm_a E 14 0)), some (.int s3.1), some (.int s3.2.1)]) (MH := fun s3 => s3.2.2) (fun s3 => ?_) jm_N (r2.1, 0, r2.2)
      unfold sS_canBeRead_L12
      refine jm_iload_n (i := 2) F dX5_canBeRead_12 rfl rfl ?_
      refine jm_bipush F dX5_canBeRead_13 kb_96 ?_
      refine jm_icmp_ge F dX5_canBeRead_15 (fun c4 => ?_) (fun c4 => ?_)
      · exact jm_weakD F (lv' := [none, some (.int s3.1), none]) ⟨rfl, trivial⟩ (fun h => h)
      · refine jm_iload_n (i := 1) F dX5_canBeRead_18 rfl rfl ?_
        refine jm_if_eq F dX5_canBeRead_19 (fun c5 => ?_) (fun c5 => ?_)
        · exact jm_weakD F (lv' := [none, some (.int s3.1), none]) ⟨rfl, trivial⟩ (fun h => h)
        · refine jm_aload_n (i := 0) F dX5_canBeRead_22 rfl rfl ?_
          refine jm_getI F dX5_canBeRead_23 fl_X5_30 lo_X5 rfl ?_
          refine jm_aload_n (i := 0) F dX5_canBeRead_26 rfl rfl ?_
          refine jm_getI F dX5_canBeRead_27 fl_X5_22 lo_X5 rfl ?_
          refine jm_icmp_ge F dX5_canBeRead_30 (fun c6 => ?_) (fun c6 => ?_)
          · exact jm_weakD F (lv' := [none, some (.int s3.1), none]) ⟨rfl, trivial⟩ (fun h => h)
          · refine jm_aload_n (i := 0) F dX5_canBeRead_33 rfl rfl ?_
            refine jm_callV (As := []) (st := []) (rv := fun r => some (.int r.1)) (mm := fun r => r.2) F dX5_canBeRead_34 qX5_45 rfl lo_X5 rfl (fun r h => kS_passStatement E hE h) rfl (Nat.le_of_ble_eq_true rfl) ⟨Nat.le_of_ble_eq_true rfl, Nat.le_of_ble_eq_true rfl⟩ (fun r7 => ?_)
            refine jm_istore_n (i := 1) (lv' := [some (.ref (jm_a E 14 0)), some (.int r7.1), some (.int s3.2.1)]) F dX5_canBeRead_37 rfl (by decide) rfl rfl ?_
            refine jm_iinc (i := 2) (lv' := [some (.ref (jm_a E 14 0)), some (.int r7.1), some (.int (s3.2.1 + 1))]) F dX5_canBeRead_38 kc_1 rfl (by decide) rfl rfl ?_
            refine jm_goto F dX5_canBeRead_41 ?_
            exact jm_weakD F (lv' := [some (.ref (jm_a E 14 0)), some (.int r7.1), some (.int (s3.2.1 + 1))]) ⟨rfl, rfl, rfl, trivial⟩ (fun h => h)
    · refine jm_iload_n (i := 1) F dX5_canBeRead_44 rfl rfl ?_
      refine jm_bzB (fun hb10 => ?_)
      exact jm_zret F dX5_canBeRead_45 hb10 (fun h => h)
  exact G r h hz
theorem dX7_copyFrom_0 : jm_d cX7_copyFrom 0 (.aload_n 0) 1 1 := ⟨by decide +kernel, rfl⟩
theorem dX7_copyFrom_1 : jm_d cX7_copyFrom 1 (.aload_n 1) 1 2 := ⟨by decide +kernel, rfl⟩
theorem dX7_copyFrom_2 : jm_d cX7_copyFrom 2 (.getfield 45) 3 5 := ⟨by decide +kernel, rfl⟩
theorem dX7_copyFrom_5 : jm_d cX7_copyFrom 5 (.putfield 45) 3 8 := ⟨by decide +kernel, rfl⟩
theorem dX7_copyFrom_8 : jm_d cX7_copyFrom 8 (.aload_n 1) 1 9 := ⟨by decide +kernel, rfl⟩
theorem dX7_copyFrom_9 : jm_d cX7_copyFrom 9 (.getfield 9) 3 12 := ⟨by decide +kernel, rfl⟩
theorem dX7_copyFrom_12 : jm_d cX7_copyFrom 12 (.iconst 0) 1 13 := ⟨by decide +kernel, rfl⟩
theorem dX7_copyFrom_13 : jm_d cX7_copyFrom 13 (.aload_n 0) 1 14 := ⟨by decide +kernel, rfl⟩
theorem dX7_copyFrom_14 : jm_d cX7_copyFrom 14 (.getfield 9) 3 17 := ⟨by decide +kernel, rfl⟩
theorem dX7_copyFrom_17 : jm_d cX7_copyFrom 17 (.iconst 0) 1 18 := ⟨by decide +kernel, rfl⟩
theorem dX7_copyFrom_18 : jm_d cX7_copyFrom 18 (.bipush 6) 2 20 := ⟨by decide +kernel, rfl⟩
theorem dX7_copyFrom_20 : jm_d cX7_copyFrom 20 (.invokestatic 49) 3 23 := ⟨by decide +kernel, rfl⟩
theorem dX7_copyFrom_23 : jm_d cX7_copyFrom 23 (.aload_n 1) 1 24 := ⟨by decide +kernel, rfl⟩
theorem dX7_copyFrom_24 : jm_d cX7_copyFrom 24 (.getfield 15) 3 27 := ⟨by decide +kernel, rfl⟩
theorem dX7_copyFrom_27 : jm_d cX7_copyFrom 27 (.iconst 0) 1 28 := ⟨by decide +kernel, rfl⟩
theorem dX7_copyFrom_28 : jm_d cX7_copyFrom 28 (.aload_n 0) 1 29 := ⟨by decide +kernel, rfl⟩
theorem dX7_copyFrom_29 : jm_d cX7_copyFrom 29 (.getfield 15) 3 32 := ⟨by decide +kernel, rfl⟩
theorem dX7_copyFrom_32 : jm_d cX7_copyFrom 32 (.iconst 0) 1 33 := ⟨by decide +kernel, rfl⟩
theorem dX7_copyFrom_33 : jm_d cX7_copyFrom 33 (.bipush 6) 2 35 := ⟨by decide +kernel, rfl⟩
theorem dX7_copyFrom_35 : jm_d cX7_copyFrom 35 (.invokestatic 49) 3 38 := ⟨by decide +kernel, rfl⟩
theorem dX7_copyFrom_38 : jm_d cX7_copyFrom 38 (.aload_n 1) 1 39 := ⟨by decide +kernel, rfl⟩
theorem dX7_copyFrom_39 : jm_d cX7_copyFrom 39 (.getfield 18) 3 42 := ⟨by decide +kernel, rfl⟩
theorem dX7_copyFrom_42 : jm_d cX7_copyFrom 42 (.iconst 0) 1 43 := ⟨by decide +kernel, rfl⟩
theorem dX7_copyFrom_43 : jm_d cX7_copyFrom 43 (.aload_n 0) 1 44 := ⟨by decide +kernel, rfl⟩
theorem dX7_copyFrom_44 : jm_d cX7_copyFrom 44 (.getfield 18) 3 47 := ⟨by decide +kernel, rfl⟩
theorem dX7_copyFrom_47 : jm_d cX7_copyFrom 47 (.iconst 0) 1 48 := ⟨by decide +kernel, rfl⟩
theorem dX7_copyFrom_48 : jm_d cX7_copyFrom 48 (.bipush 6) 2 50 := ⟨by decide +kernel, rfl⟩
theorem dX7_copyFrom_50 : jm_d cX7_copyFrom 50 (.invokestatic 49) 3 53 := ⟨by decide +kernel, rfl⟩
theorem dX7_copyFrom_53 : jm_d cX7_copyFrom 53 (.aload_n 0) 1 54 := ⟨by decide +kernel, rfl⟩
theorem dX7_copyFrom_54 : jm_d cX7_copyFrom 54 (.aload_n 1) 1 55 := ⟨by decide +kernel, rfl⟩
theorem dX7_copyFrom_55 : jm_d cX7_copyFrom 55 (.getfield 55) 3 58 := ⟨by decide +kernel, rfl⟩
theorem dX7_copyFrom_58 : jm_d cX7_copyFrom 58 (.putfield 55) 3 61 := ⟨by decide +kernel, rfl⟩
theorem dX7_copyFrom_61 : jm_d cX7_copyFrom 61 (.aload_n 1) 1 62 := ⟨by decide +kernel, rfl⟩
theorem dX7_copyFrom_62 : jm_d cX7_copyFrom 62 (.getfield 21) 3 65 := ⟨by decide +kernel, rfl⟩
theorem dX7_copyFrom_65 : jm_d cX7_copyFrom 65 (.iconst 0) 1 66 := ⟨by decide +kernel, rfl⟩
theorem dX7_copyFrom_66 : jm_d cX7_copyFrom 66 (.aload_n 0) 1 67 := ⟨by decide +kernel, rfl⟩
theorem dX7_copyFrom_67 : jm_d cX7_copyFrom 67 (.getfield 21) 3 70 := ⟨by decide +kernel, rfl⟩
theorem dX7_copyFrom_70 : jm_d cX7_copyFrom 70 (.iconst 0) 1 71 := ⟨by decide +kernel, rfl⟩
theorem dX7_copyFrom_71 : jm_d cX7_copyFrom 71 (.bipush 10) 2 73 := ⟨by decide +kernel, rfl⟩
theorem dX7_copyFrom_73 : jm_d cX7_copyFrom 73 (.invokestatic 49) 3 76 := ⟨by decide +kernel, rfl⟩
theorem dX7_copyFrom_76 : jm_d cX7_copyFrom 76 (.aload_n 1) 1 77 := ⟨by decide +kernel, rfl⟩
theorem dX7_copyFrom_77 : jm_d cX7_copyFrom 77 (.getfield 24) 3 80 := ⟨by decide +kernel, rfl⟩
theorem dX7_copyFrom_80 : jm_d cX7_copyFrom 80 (.iconst 0) 1 81 := ⟨by decide +kernel, rfl⟩
theorem dX7_copyFrom_81 : jm_d cX7_copyFrom 81 (.aload_n 0) 1 82 := ⟨by decide +kernel, rfl⟩
theorem dX7_copyFrom_82 : jm_d cX7_copyFrom 82 (.getfield 24) 3 85 := ⟨by decide +kernel, rfl⟩
theorem dX7_copyFrom_85 : jm_d cX7_copyFrom 85 (.iconst 0) 1 86 := ⟨by decide +kernel, rfl⟩
theorem dX7_copyFrom_86 : jm_d cX7_copyFrom 86 (.bipush 10) 2 88 := ⟨by decide +kernel, rfl⟩
theorem dX7_copyFrom_88 : jm_d cX7_copyFrom 88 (.invokestatic 49) 3 91 := ⟨by decide +kernel, rfl⟩
theorem dX7_copyFrom_91 : jm_d cX7_copyFrom 91 (.aload_n 1) 1 92 := ⟨by decide +kernel, rfl⟩
theorem dX7_copyFrom_92 : jm_d cX7_copyFrom 92 (.getfield 27) 3 95 := ⟨by decide +kernel, rfl⟩
theorem dX7_copyFrom_95 : jm_d cX7_copyFrom 95 (.iconst 0) 1 96 := ⟨by decide +kernel, rfl⟩
theorem dX7_copyFrom_96 : jm_d cX7_copyFrom 96 (.aload_n 0) 1 97 := ⟨by decide +kernel, rfl⟩
theorem dX7_copyFrom_97 : jm_d cX7_copyFrom 97 (.getfield 27) 3 100 := ⟨by decide +kernel, rfl⟩
theorem dX7_copyFrom_100 : jm_d cX7_copyFrom 100 (.iconst 0) 1 101 := ⟨by decide +kernel, rfl⟩
theorem dX7_copyFrom_101 : jm_d cX7_copyFrom 101 (.bipush 10) 2 103 := ⟨by decide +kernel, rfl⟩
theorem dX7_copyFrom_103 : jm_d cX7_copyFrom 103 (.invokestatic 49) 3 106 := ⟨by decide +kernel, rfl⟩
theorem dX7_copyFrom_106 : jm_d cX7_copyFrom 106 (.aload_n 1) 1 107 := ⟨by decide +kernel, rfl⟩
theorem dX7_copyFrom_107 : jm_d cX7_copyFrom 107 (.getfield 30) 3 110 := ⟨by decide +kernel, rfl⟩
theorem dX7_copyFrom_110 : jm_d cX7_copyFrom 110 (.iconst 0) 1 111 := ⟨by decide +kernel, rfl⟩
theorem dX7_copyFrom_111 : jm_d cX7_copyFrom 111 (.aload_n 0) 1 112 := ⟨by decide +kernel, rfl⟩
theorem dX7_copyFrom_112 : jm_d cX7_copyFrom 112 (.getfield 30) 3 115 := ⟨by decide +kernel, rfl⟩
theorem dX7_copyFrom_115 : jm_d cX7_copyFrom 115 (.iconst 0) 1 116 := ⟨by decide +kernel, rfl⟩
theorem dX7_copyFrom_116 : jm_d cX7_copyFrom 116 (.bipush 10) 2 118 := ⟨by decide +kernel, rfl⟩
theorem dX7_copyFrom_118 : jm_d cX7_copyFrom 118 (.invokestatic 49) 3 121 := ⟨by decide +kernel, rfl⟩
theorem dX7_copyFrom_121 : jm_d cX7_copyFrom 121 (.aload_n 1) 1 122 := ⟨by decide +kernel, rfl⟩
theorem dX7_copyFrom_122 : jm_d cX7_copyFrom 122 (.getfield 33) 3 125 := ⟨by decide +kernel, rfl⟩
theorem dX7_copyFrom_125 : jm_d cX7_copyFrom 125 (.iconst 0) 1 126 := ⟨by decide +kernel, rfl⟩
theorem dX7_copyFrom_126 : jm_d cX7_copyFrom 126 (.aload_n 0) 1 127 := ⟨by decide +kernel, rfl⟩
theorem dX7_copyFrom_127 : jm_d cX7_copyFrom 127 (.getfield 33) 3 130 := ⟨by decide +kernel, rfl⟩
theorem dX7_copyFrom_130 : jm_d cX7_copyFrom 130 (.iconst 0) 1 131 := ⟨by decide +kernel, rfl⟩
theorem dX7_copyFrom_131 : jm_d cX7_copyFrom 131 (.bipush 10) 2 133 := ⟨by decide +kernel, rfl⟩
theorem dX7_copyFrom_133 : jm_d cX7_copyFrom 133 (.invokestatic 49) 3 136 := ⟨by decide +kernel, rfl⟩
theorem dX7_copyFrom_136 : jm_d cX7_copyFrom 136 (.aload_n 1) 1 137 := ⟨by decide +kernel, rfl⟩
theorem dX7_copyFrom_137 : jm_d cX7_copyFrom 137 (.getfield 36) 3 140 := ⟨by decide +kernel, rfl⟩
theorem dX7_copyFrom_140 : jm_d cX7_copyFrom 140 (.iconst 0) 1 141 := ⟨by decide +kernel, rfl⟩
theorem dX7_copyFrom_141 : jm_d cX7_copyFrom 141 (.aload_n 0) 1 142 := ⟨by decide +kernel, rfl⟩
theorem dX7_copyFrom_142 : jm_d cX7_copyFrom 142 (.getfield 36) 3 145 := ⟨by decide +kernel, rfl⟩
theorem dX7_copyFrom_145 : jm_d cX7_copyFrom 145 (.iconst 0) 1 146 := ⟨by decide +kernel, rfl⟩
theorem dX7_copyFrom_146 : jm_d cX7_copyFrom 146 (.bipush 10) 2 148 := ⟨by decide +kernel, rfl⟩
theorem dX7_copyFrom_148 : jm_d cX7_copyFrom 148 (.invokestatic 49) 3 151 := ⟨by decide +kernel, rfl⟩
theorem dX7_copyFrom_151 : jm_d cX7_copyFrom 151 (.aload_n 0) 1 152 := ⟨by decide +kernel, rfl⟩
theorem dX7_copyFrom_152 : jm_d cX7_copyFrom 152 (.aload_n 1) 1 153 := ⟨by decide +kernel, rfl⟩
theorem dX7_copyFrom_153 : jm_d cX7_copyFrom 153 (.getfield 58) 3 156 := ⟨by decide +kernel, rfl⟩
theorem dX7_copyFrom_156 : jm_d cX7_copyFrom 156 (.putfield 58) 3 159 := ⟨by decide +kernel, rfl⟩
theorem dX7_copyFrom_159 : jm_d cX7_copyFrom 159 (.aload_n 0) 1 160 := ⟨by decide +kernel, rfl⟩
theorem dX7_copyFrom_160 : jm_d cX7_copyFrom 160 (.aload_n 1) 1 161 := ⟨by decide +kernel, rfl⟩
theorem dX7_copyFrom_161 : jm_d cX7_copyFrom 161 (.getfield 61) 3 164 := ⟨by decide +kernel, rfl⟩
theorem dX7_copyFrom_164 : jm_d cX7_copyFrom 164 (.putfield 61) 3 167 := ⟨by decide +kernel, rfl⟩
theorem dX7_copyFrom_167 : jm_d cX7_copyFrom 167 (.aload_n 1) 1 168 := ⟨by decide +kernel, rfl⟩
theorem dX7_copyFrom_168 : jm_d cX7_copyFrom 168 (.getfield 39) 3 171 := ⟨by decide +kernel, rfl⟩
theorem dX7_copyFrom_171 : jm_d cX7_copyFrom 171 (.iconst 0) 1 172 := ⟨by decide +kernel, rfl⟩
theorem dX7_copyFrom_172 : jm_d cX7_copyFrom 172 (.aload_n 0) 1 173 := ⟨by decide +kernel, rfl⟩
theorem dX7_copyFrom_173 : jm_d cX7_copyFrom 173 (.getfield 39) 3 176 := ⟨by decide +kernel, rfl⟩
theorem dX7_copyFrom_176 : jm_d cX7_copyFrom 176 (.iconst 0) 1 177 := ⟨by decide +kernel, rfl⟩
theorem dX7_copyFrom_177 : jm_d cX7_copyFrom 177 (.bipush 6) 2 179 := ⟨by decide +kernel, rfl⟩
theorem dX7_copyFrom_179 : jm_d cX7_copyFrom 179 (.invokestatic 49) 3 182 := ⟨by decide +kernel, rfl⟩
theorem dX7_copyFrom_182 : jm_d cX7_copyFrom 182 (.aload_n 1) 1 183 := ⟨by decide +kernel, rfl⟩
theorem dX7_copyFrom_183 : jm_d cX7_copyFrom 183 (.getfield 42) 3 186 := ⟨by decide +kernel, rfl⟩
theorem dX7_copyFrom_186 : jm_d cX7_copyFrom 186 (.iconst 0) 1 187 := ⟨by decide +kernel, rfl⟩
theorem dX7_copyFrom_187 : jm_d cX7_copyFrom 187 (.aload_n 0) 1 188 := ⟨by decide +kernel, rfl⟩
theorem dX7_copyFrom_188 : jm_d cX7_copyFrom 188 (.getfield 42) 3 191 := ⟨by decide +kernel, rfl⟩
theorem dX7_copyFrom_191 : jm_d cX7_copyFrom 191 (.iconst 0) 1 192 := ⟨by decide +kernel, rfl⟩
theorem dX7_copyFrom_192 : jm_d cX7_copyFrom 192 (.bipush 6) 2 194 := ⟨by decide +kernel, rfl⟩
theorem dX7_copyFrom_194 : jm_d cX7_copyFrom 194 (.invokestatic 49) 3 197 := ⟨by decide +kernel, rfl⟩
theorem dX7_copyFrom_197 : jm_d cX7_copyFrom 197 (.return_) 1 198 := ⟨by decide +kernel, rfl⟩
set_option maxHeartbeats 4000000 in
set_option maxRecDepth 100000 in
theorem kT_copyFrom (E : jm_Ev) (hE : jm_dj E jm_LC) {M : jm_M} {t : Nat} {p1 : Nat} (ht : jm_isT t) (hp1 : jm_isT p1) {r : jm_M} (h : sT_copyFrom M t p1 = some r) : jm_Ct E jm_LC yX7_copyFrom cX7_copyFrom 2 none 1 40 [.ref (jm_a E t 0), .ref (jm_a E p1 0)] M none r := by
  refine jm_enter (lv := [some (.ref (jm_a E t 0)), some (.ref (jm_a E p1 0))]) hE (by decide) (Nat.le_of_ble_eq_true rfl) rfl ?_
  intro z w F hz
  have G : jm_G w 0 [some (.ref (jm_a E t 0)), some (.ref (jm_a E p1 0))] [] M (sT_copyFrom M t p1) (fun e => z none e) := by
    unfold sT_copyFrom
    refine jm_aload_n (i := 0) F dX7_copyFrom_0 rfl rfl ?_
    refine jm_aload_n (i := 1) F dX7_copyFrom_1 rfl rfl ?_
    refine jm_getI F dX7_copyFrom_2 fl_X7_45 (lo_T hp1) rfl ?_
    refine jm_putI F dX7_copyFrom_5 fp_X7_45 (lo_T ht) rfl (fun M1 => ?_)
    refine jm_aload_n (i := 1) F dX7_copyFrom_8 rfl rfl ?_
    refine jm_getR F dX7_copyFrom_9 fl_X7_9 (lo_T hp1) rfl ?_
    refine jm_iconst F dX7_copyFrom_12 kc_0 ?_
    refine jm_aload_n (i := 0) F dX7_copyFrom_13 rfl rfl ?_
    refine jm_getR F dX7_copyFrom_14 fl_X7_9 (lo_T ht) rfl ?_
    refine jm_iconst F dX7_copyFrom_17 kc_0 ?_
    refine jm_bipush F dX7_copyFrom_18 kb_6 ?_
    refine jm_acopy F dX7_copyFrom_20 tw_405 tw_407 tw_406 tw_90 (la_T_2 hp1) (la_T_2 ht) (by decide) (by decide) ⟨Nat.le_of_ble_eq_true rfl, Nat.le_of_ble_eq_true rfl⟩ (fun M2 => ?_)
    refine jm_aload_n (i := 1) F dX7_copyFrom_23 rfl rfl ?_
    refine jm_getR F dX7_copyFrom_24 fl_X7_15 (lo_T hp1) rfl ?_
    refine jm_iconst F dX7_copyFrom_27 kc_0 ?_
    refine jm_aload_n (i := 0) F dX7_copyFrom_28 rfl rfl ?_
    refine jm_getR F dX7_copyFrom_29 fl_X7_15 (lo_T ht) rfl ?_
    refine jm_iconst F dX7_copyFrom_32 kc_0 ?_
    refine jm_bipush F dX7_copyFrom_33 kb_6 ?_
    refine jm_acopy F dX7_copyFrom_35 tw_405 tw_407 tw_406 tw_90 (la_T_3 hp1) (la_T_3 ht) (by decide) (by decide) ⟨Nat.le_of_ble_eq_true rfl, Nat.le_of_ble_eq_true rfl⟩ (fun M3 => ?_)
    refine jm_aload_n (i := 1) F dX7_copyFrom_38 rfl rfl ?_
    refine jm_getR F dX7_copyFrom_39 fl_X7_18 (lo_T hp1) rfl ?_
    refine jm_iconst F dX7_copyFrom_42 kc_0 ?_
    refine jm_aload_n (i := 0) F dX7_copyFrom_43 rfl rfl ?_
    refine jm_getR F dX7_copyFrom_44 fl_X7_18 (lo_T ht) rfl ?_
    refine jm_iconst F dX7_copyFrom_47 kc_0 ?_
    refine jm_bipush F dX7_copyFrom_48 kb_6 ?_
    refine jm_acopy F dX7_copyFrom_50 tw_405 tw_407 tw_406 tw_90 (la_T_4 hp1) (la_T_4 ht) (by decide) (by decide) ⟨Nat.le_of_ble_eq_true rfl, Nat.le_of_ble_eq_true rfl⟩ (fun M4 => ?_)
    refine jm_aload_n (i := 0) F dX7_copyFrom_53 rfl rfl ?_
    refine jm_aload_n (i := 1) F dX7_copyFrom_54 rfl rfl ?_
    refine jm_getI F dX7_copyFrom_55 fl_X7_55 (lo_T hp1) rfl ?_
    refine jm_putI F dX7_copyFrom_58 fp_X7_55 (lo_T ht) rfl (fun M5 => ?_)
    refine jm_aload_n (i := 1) F dX7_copyFrom_61 rfl rfl ?_
    refine jm_getR F dX7_copyFrom_62 fl_X7_21 (lo_T hp1) rfl ?_
    refine jm_iconst F dX7_copyFrom_65 kc_0 ?_
    refine jm_aload_n (i := 0) F dX7_copyFrom_66 rfl rfl ?_
    refine jm_getR F dX7_copyFrom_67 fl_X7_21 (lo_T ht) rfl ?_
    refine jm_iconst F dX7_copyFrom_70 kc_0 ?_
    refine jm_bipush F dX7_copyFrom_71 kb_10 ?_
    refine jm_acopy F dX7_copyFrom_73 tw_405 tw_407 tw_406 tw_90 (la_T_6 hp1) (la_T_6 ht) (by decide) (by decide) ⟨Nat.le_of_ble_eq_true rfl, Nat.le_of_ble_eq_true rfl⟩ (fun M6 => ?_)
    refine jm_aload_n (i := 1) F dX7_copyFrom_76 rfl rfl ?_
    refine jm_getR F dX7_copyFrom_77 fl_X7_24 (lo_T hp1) rfl ?_
    refine jm_iconst F dX7_copyFrom_80 kc_0 ?_
    refine jm_aload_n (i := 0) F dX7_copyFrom_81 rfl rfl ?_
    refine jm_getR F dX7_copyFrom_82 fl_X7_24 (lo_T ht) rfl ?_
    refine jm_iconst F dX7_copyFrom_85 kc_0 ?_
    refine jm_bipush F dX7_copyFrom_86 kb_10 ?_
    refine jm_acopy F dX7_copyFrom_88 tw_405 tw_407 tw_406 tw_90 (la_T_7 hp1) (la_T_7 ht) (by decide) (by decide) ⟨Nat.le_of_ble_eq_true rfl, Nat.le_of_ble_eq_true rfl⟩ (fun M7 => ?_)
    refine jm_aload_n (i := 1) F dX7_copyFrom_91 rfl rfl ?_
    refine jm_getR F dX7_copyFrom_92 fl_X7_27 (lo_T hp1) rfl ?_
    refine jm_iconst F dX7_copyFrom_95 kc_0 ?_
    refine jm_aload_n (i := 0) F dX7_copyFrom_96 rfl rfl ?_
    refine jm_getR F dX7_copyFrom_97 fl_X7_27 (lo_T ht) rfl ?_
    refine jm_iconst F dX7_copyFrom_100 kc_0 ?_
    refine jm_bipush F dX7_copyFrom_101 kb_10 ?_
    refine jm_acopy F dX7_copyFrom_103 tw_405 tw_407 tw_406 tw_90 (la_T_8 hp1) (la_T_8 ht) (by decide) (by decide) ⟨Nat.le_of_ble_eq_true rfl, Nat.le_of_ble_eq_true rfl⟩ (fun M8 => ?_)
    refine jm_aload_n (i := 1) F dX7_copyFrom_106 rfl rfl ?_
    refine jm_getR F dX7_copyFrom_107 fl_X7_30 (lo_T hp1) rfl ?_
    refine jm_iconst F dX7_copyFrom_110 kc_0 ?_
    refine jm_aload_n (i := 0) F dX7_copyFrom_111 rfl rfl ?_
    refine jm_getR F dX7_copyFrom_112 fl_X7_30 (lo_T ht) rfl ?_
    refine jm_iconst F dX7_copyFrom_115 kc_0 ?_
    refine jm_bipush F dX7_copyFrom_116 kb_10 ?_
    refine jm_acopy F dX7_copyFrom_118 tw_405 tw_407 tw_406 tw_90 (la_T_9 hp1) (la_T_9 ht) (by decide) (by decide) ⟨Nat.le_of_ble_eq_true rfl, Nat.le_of_ble_eq_true rfl⟩ (fun M9 => ?_)
    refine jm_aload_n (i := 1) F dX7_copyFrom_121 rfl rfl ?_
    refine jm_getR F dX7_copyFrom_122 fl_X7_33 (lo_T hp1) rfl ?_
    refine jm_iconst F dX7_copyFrom_125 kc_0 ?_
    refine jm_aload_n (i := 0) F dX7_copyFrom_126 rfl rfl ?_
    refine jm_getR F dX7_copyFrom_127 fl_X7_33 (lo_T ht) rfl ?_
    refine jm_iconst F dX7_copyFrom_130 kc_0 ?_
    refine jm_bipush F dX7_copyFrom_131 kb_10 ?_
    refine jm_acopy F dX7_copyFrom_133 tw_405 tw_407 tw_406 tw_90 (la_T_10 hp1) (la_T_10 ht) (by decide) (by decide) ⟨Nat.le_of_ble_eq_true rfl, Nat.le_of_ble_eq_true rfl⟩ (fun M10 => ?_)
    refine jm_aload_n (i := 1) F dX7_copyFrom_136 rfl rfl ?_
    refine jm_getR F dX7_copyFrom_137 fl_X7_36 (lo_T hp1) rfl ?_
    refine jm_iconst F dX7_copyFrom_140 kc_0 ?_
    refine jm_aload_n (i := 0) F dX7_copyFrom_141 rfl rfl ?_
    refine jm_getR F dX7_copyFrom_142 fl_X7_36 (lo_T ht) rfl ?_
    refine jm_iconst F dX7_copyFrom_145 kc_0 ?_
    refine jm_bipush F dX7_copyFrom_146 kb_10 ?_
    refine jm_acopy F dX7_copyFrom_148 tw_405 tw_407 tw_406 tw_90 (la_T_11 hp1) (la_T_11 ht) (by decide) (by decide) ⟨Nat.le_of_ble_eq_true rfl, Nat.le_of_ble_eq_true rfl⟩ (fun M11 => ?_)
    refine jm_aload_n (i := 0) F dX7_copyFrom_151 rfl rfl ?_
    refine jm_aload_n (i := 1) F dX7_copyFrom_152 rfl rfl ?_
    refine jm_getI F dX7_copyFrom_153 fl_X7_58 (lo_T hp1) rfl ?_
    refine jm_putI F dX7_copyFrom_156 fp_X7_58 (lo_T ht) rfl (fun M12 => ?_)
    refine jm_aload_n (i := 0) F dX7_copyFrom_159 rfl rfl ?_
    refine jm_aload_n (i := 1) F dX7_copyFrom_160 rfl rfl ?_
    refine jm_getI F dX7_copyFrom_161 fl_X7_61 (lo_T hp1) rfl ?_
    refine jm_putI F dX7_copyFrom_164 fp_X7_61 (lo_T ht) rfl (fun M13 => ?_)
    refine jm_aload_n (i := 1) F dX7_copyFrom_167 rfl rfl ?_
    refine jm_getR F dX7_copyFrom_168 fl_X7_39 (lo_T hp1) rfl ?_
    refine jm_iconst F dX7_copyFrom_171 kc_0 ?_
    refine jm_aload_n (i := 0) F dX7_copyFrom_172 rfl rfl ?_
    refine jm_getR F dX7_copyFrom_173 fl_X7_39 (lo_T ht) rfl ?_
    refine jm_iconst F dX7_copyFrom_176 kc_0 ?_
    refine jm_bipush F dX7_copyFrom_177 kb_6 ?_
    refine jm_acopy F dX7_copyFrom_179 tw_405 tw_407 tw_406 tw_90 (la_T_14 hp1) (la_T_14 ht) (by decide) (by decide) ⟨Nat.le_of_ble_eq_true rfl, Nat.le_of_ble_eq_true rfl⟩ (fun M14 => ?_)
    refine jm_aload_n (i := 1) F dX7_copyFrom_182 rfl rfl ?_
    refine jm_getR F dX7_copyFrom_183 fl_X7_42 (lo_T hp1) rfl ?_
    refine jm_iconst F dX7_copyFrom_186 kc_0 ?_
    refine jm_aload_n (i := 0) F dX7_copyFrom_187 rfl rfl ?_
    refine jm_getR F dX7_copyFrom_188 fl_X7_42 (lo_T ht) rfl ?_
    refine jm_iconst F dX7_copyFrom_191 kc_0 ?_
    refine jm_bipush F dX7_copyFrom_192 kb_6 ?_
    refine jm_acopy F dX7_copyFrom_194 tw_405 tw_407 tw_406 tw_90 (la_T_15 hp1) (la_T_15 ht) (by decide) (by decide) ⟨Nat.le_of_ble_eq_true rfl, Nat.le_of_ble_eq_true rfl⟩ (fun M15 => ?_)
    exact jm_vret F dX7_copyFrom_197 (fun h => h)
  exact G r h hz
theorem dX5_takeNumber_0 : jm_d cX5_takeNumber 0 (.iconst 0) 1 1 := ⟨by decide +kernel, rfl⟩
theorem dX5_takeNumber_1 : jm_d cX5_takeNumber 1 (.istore_n 2) 1 2 := ⟨by decide +kernel, rfl⟩
theorem dX5_takeNumber_2 : jm_d cX5_takeNumber 2 (.iconst 0) 1 3 := ⟨by decide +kernel, rfl⟩
theorem dX5_takeNumber_3 : jm_d cX5_takeNumber 3 (.istore_n 3) 1 4 := ⟨by decide +kernel, rfl⟩
theorem dX5_takeNumber_4 : jm_d cX5_takeNumber 4 (.iload_n 3) 1 5 := ⟨by decide +kernel, rfl⟩
theorem dX5_takeNumber_5 : jm_d cX5_takeNumber 5 (.iload_n 1) 1 6 := ⟨by decide +kernel, rfl⟩
theorem dX5_takeNumber_6 : jm_b cX5_takeNumber 6 (.if_icmp .ge) 9 38 := ⟨32, by decide +kernel, rfl, by decide⟩
theorem dX5_takeNumber_9 : jm_d cX5_takeNumber 9 (.bipush 10) 2 11 := ⟨by decide +kernel, rfl⟩
theorem dX5_takeNumber_11 : jm_d cX5_takeNumber 11 (.iload_n 2) 1 12 := ⟨by decide +kernel, rfl⟩
theorem dX5_takeNumber_12 : jm_d cX5_takeNumber 12 (.imul) 1 13 := ⟨by decide +kernel, rfl⟩
theorem dX5_takeNumber_13 : jm_d cX5_takeNumber 13 (.aload_n 0) 1 14 := ⟨by decide +kernel, rfl⟩
theorem dX5_takeNumber_14 : jm_d cX5_takeNumber 14 (.invokevirtual 37) 3 17 := ⟨by decide +kernel, rfl⟩
theorem dX5_takeNumber_17 : jm_d cX5_takeNumber 17 (.iadd) 1 18 := ⟨by decide +kernel, rfl⟩
theorem dX5_takeNumber_18 : jm_d cX5_takeNumber 18 (.bipush 48) 2 20 := ⟨by decide +kernel, rfl⟩
theorem dX5_takeNumber_20 : jm_d cX5_takeNumber 20 (.isub) 1 21 := ⟨by decide +kernel, rfl⟩
theorem dX5_takeNumber_21 : jm_d cX5_takeNumber 21 (.istore_n 2) 1 22 := ⟨by decide +kernel, rfl⟩
theorem dX5_takeNumber_22 : jm_d cX5_takeNumber 22 (.aload_n 0) 1 23 := ⟨by decide +kernel, rfl⟩
theorem dX5_takeNumber_23 : jm_d cX5_takeNumber 23 (.dup) 1 24 := ⟨by decide +kernel, rfl⟩
theorem dX5_takeNumber_24 : jm_d cX5_takeNumber 24 (.getfield 30) 3 27 := ⟨by decide +kernel, rfl⟩
theorem dX5_takeNumber_27 : jm_d cX5_takeNumber 27 (.iconst 1) 1 28 := ⟨by decide +kernel, rfl⟩
theorem dX5_takeNumber_28 : jm_d cX5_takeNumber 28 (.iadd) 1 29 := ⟨by decide +kernel, rfl⟩
theorem dX5_takeNumber_29 : jm_d cX5_takeNumber 29 (.putfield 30) 3 32 := ⟨by decide +kernel, rfl⟩
theorem dX5_takeNumber_32 : jm_d cX5_takeNumber 32 (.iinc 3 1) 3 35 := ⟨by decide +kernel, rfl⟩
theorem dX5_takeNumber_35 : jm_b cX5_takeNumber 35 .goto 38 4 := ⟨(-31), by decide +kernel, rfl, by decide⟩
theorem dX5_takeNumber_38 : jm_d cX5_takeNumber 38 (.iload_n 2) 1 39 := ⟨by decide +kernel, rfl⟩
theorem dX5_takeNumber_39 : jm_d cX5_takeNumber 39 (.ireturn) 1 40 := ⟨by decide +kernel, rfl⟩
set_option maxHeartbeats 4000000 in
set_option maxRecDepth 100000 in
theorem kS_takeNumber (E : jm_Ev) (hE : jm_dj E jm_LC) {M : jm_M} {p1 : Int32}  {r : Int32 × jm_M} (h : sS_takeNumber M p1 = some r) : jm_Ct E jm_LC yX5_takeNumber cX5_takeNumber 4 (some .int) 1 20 [.ref (jm_a E 14 0), .int p1] M (some (.int r.1)) r.2 := by
  refine jm_enter (lv := [some (.ref (jm_a E 14 0)), some (.int p1), none, none]) hE (by decide) (Nat.le_of_ble_eq_true rfl) rfl ?_
  intro z w F hz
  have G : jm_G w 0 [some (.ref (jm_a E 14 0)), some (.int p1), none, none] [] M (sS_takeNumber M p1) (fun e => z (some (.int e.1)) e.2) := by
    unfold sS_takeNumber
    refine jm_iconst F dX5_takeNumber_0 kc_0 ?_
    refine jm_istore_n (i := 2) (lv' := [some (.ref (jm_a E 14 0)), some (.int p1), some (.int 0), none]) F dX5_takeNumber_1 rfl (by decide) rfl rfl ?_
    refine jm_iconst F dX5_takeNumber_2 kc_0 ?_
    refine jm_istore_n (i := 3) (lv' := [some (.ref (jm_a E 14 0)), some (.int p1), some (.int 0), some (.int 0)]) F dX5_takeNumber_3 rfl (by decide) rfl rfl ?_
    refine jm_bind (pcJ := 38) (lvJ := fun e6 => [none, none, some (.int e6.1), none]) (stJ := fun _ => []) (MJ := fun e6 => e6.2) ?_ (fun e6 => ?_)
    · refine jm_weak F (lv' := [some (.ref (jm_a E 14 0)), some (.int p1), some (.int 0), some (.int 0)]) ⟨rfl, rfl, rfl, rfl, trivial⟩ ?_
      refine jm_loopR (lvH := fun s1 => [some (.ref (jm_a E 14 0)), some (.int p1), some (.int s1.1), some (.int s1.2.1)]) (MH := fun s1 => s1.2.2) (fun s1 => ?_) jm_N (0, 0, M)
      unfold sS_takeNumber_L4
      refine jm_iload_n (i := 3) F dX5_takeNumber_4 rfl rfl ?_
      refine jm_iload_n (i := 1) F dX5_takeNumber_5 rfl rfl ?_
      refine jm_icmp_ge F dX5_takeNumber_6 (fun c2 => ?_) (fun c2 => ?_)
      · exact jm_weakD F (lv' := [none, none, some (.int s1.1), none]) ⟨rfl, trivial⟩ (fun h => h)
      · refine jm_bipush F dX5_takeNumber_9 kb_10 ?_
        refine jm_iload_n (i := 2) F dX5_takeNumber_11 rfl rfl ?_
        refine jm_imul F dX5_takeNumber_12 ?_
        refine jm_aload_n (i := 0) F dX5_takeNumber_13 rfl rfl ?_
        refine jm_callV (As := []) (st := [.int (10 * s1.1)]) (rv := fun r => some (.int r)) (mm := fun _ => s1.2.2) F dX5_takeNumber_14 qX5_37 rfl lo_X5 rfl (fun r h => kS_here E hE h) rfl (Nat.le_of_ble_eq_true rfl) ⟨Nat.le_of_ble_eq_true rfl, Nat.le_of_ble_eq_true rfl⟩ (fun r3 => ?_)
        refine jm_iadd F dX5_takeNumber_17 ?_
        refine jm_bipush F dX5_takeNumber_18 kb_48 ?_
        refine jm_isub F dX5_takeNumber_20 ?_
        refine jm_nameI (f := fun x4 => [.int x4]) (fun x4 => ?_) rfl
        refine jm_istore_n (i := 2) (lv' := [some (.ref (jm_a E 14 0)), some (.int p1), some (.int x4), some (.int s1.2.1)]) F dX5_takeNumber_21 rfl (by decide) rfl rfl ?_
        refine jm_aload_n (i := 0) F dX5_takeNumber_22 rfl rfl ?_
        refine jm_dup F dX5_takeNumber_23 rfl ?_
        refine jm_getI F dX5_takeNumber_24 fl_X5_30 lo_X5 rfl ?_
        refine jm_iconst F dX5_takeNumber_27 kc_1 ?_
        refine jm_iadd F dX5_takeNumber_28 ?_
        refine jm_putI F dX5_takeNumber_29 fp_X5_30 lo_X5 rfl (fun M5 => ?_)
        refine jm_iinc (i := 3) (lv' := [some (.ref (jm_a E 14 0)), some (.int p1), some (.int x4), some (.int (s1.2.1 + 1))]) F dX5_takeNumber_32 kc_1 rfl (by decide) rfl rfl ?_
        refine jm_goto F dX5_takeNumber_35 ?_
        exact jm_weakD F (lv' := [some (.ref (jm_a E 14 0)), some (.int p1), some (.int x4), some (.int (s1.2.1 + 1))]) ⟨rfl, rfl, rfl, rfl, trivial⟩ (fun h => h)
    · refine jm_iload_n (i := 2) F dX5_takeNumber_38 rfl rfl ?_
      exact jm_iret F dX5_takeNumber_39 (fun h => h)
  exact G r h hz
theorem dX7_addPerson_0 : jm_d cX7_addPerson 0 (.aload_n 0) 1 1 := ⟨by decide +kernel, rfl⟩
theorem dX7_addPerson_1 : jm_d cX7_addPerson 1 (.getfield 45) 3 4 := ⟨by decide +kernel, rfl⟩
theorem dX7_addPerson_4 : jm_d cX7_addPerson 4 (.istore 4) 2 6 := ⟨by decide +kernel, rfl⟩
theorem dX7_addPerson_6 : jm_d cX7_addPerson 6 (.iload 4) 2 8 := ⟨by decide +kernel, rfl⟩
theorem dX7_addPerson_8 : jm_d cX7_addPerson 8 (.bipush 6) 2 10 := ⟨by decide +kernel, rfl⟩
theorem dX7_addPerson_10 : jm_b cX7_addPerson 10 (.if_icmp .ge) 13 47 := ⟨37, by decide +kernel, rfl, by decide⟩
theorem dX7_addPerson_47 : jm_d cX7_addPerson 47 (.iload 4) 2 49 := ⟨by decide +kernel, rfl⟩
theorem dX7_addPerson_49 : jm_d cX7_addPerson 49 (.ireturn) 1 50 := ⟨by decide +kernel, rfl⟩
theorem dX7_addPerson_13 : jm_d cX7_addPerson 13 (.aload_n 0) 1 14 := ⟨by decide +kernel, rfl⟩
theorem dX7_addPerson_14 : jm_d cX7_addPerson 14 (.getfield 9) 3 17 := ⟨by decide +kernel, rfl⟩
theorem dX7_addPerson_17 : jm_d cX7_addPerson 17 (.iload 4) 2 19 := ⟨by decide +kernel, rfl⟩
theorem dX7_addPerson_19 : jm_d cX7_addPerson 19 (.iload_n 1) 1 20 := ⟨by decide +kernel, rfl⟩
theorem dX7_addPerson_20 : jm_d cX7_addPerson 20 (.iastore) 1 21 := ⟨by decide +kernel, rfl⟩
theorem dX7_addPerson_21 : jm_d cX7_addPerson 21 (.aload_n 0) 1 22 := ⟨by decide +kernel, rfl⟩
theorem dX7_addPerson_22 : jm_d cX7_addPerson 22 (.getfield 15) 3 25 := ⟨by decide +kernel, rfl⟩
theorem dX7_addPerson_25 : jm_d cX7_addPerson 25 (.iload 4) 2 27 := ⟨by decide +kernel, rfl⟩
theorem dX7_addPerson_27 : jm_d cX7_addPerson 27 (.iload_n 2) 1 28 := ⟨by decide +kernel, rfl⟩
theorem dX7_addPerson_28 : jm_d cX7_addPerson 28 (.iastore) 1 29 := ⟨by decide +kernel, rfl⟩
theorem dX7_addPerson_29 : jm_d cX7_addPerson 29 (.aload_n 0) 1 30 := ⟨by decide +kernel, rfl⟩
theorem dX7_addPerson_30 : jm_d cX7_addPerson 30 (.getfield 18) 3 33 := ⟨by decide +kernel, rfl⟩
theorem dX7_addPerson_33 : jm_d cX7_addPerson 33 (.iload 4) 2 35 := ⟨by decide +kernel, rfl⟩
theorem dX7_addPerson_35 : jm_d cX7_addPerson 35 (.iload_n 3) 1 36 := ⟨by decide +kernel, rfl⟩
theorem dX7_addPerson_36 : jm_d cX7_addPerson 36 (.iastore) 1 37 := ⟨by decide +kernel, rfl⟩
theorem dX7_addPerson_37 : jm_d cX7_addPerson 37 (.aload_n 0) 1 38 := ⟨by decide +kernel, rfl⟩
theorem dX7_addPerson_38 : jm_d cX7_addPerson 38 (.dup) 1 39 := ⟨by decide +kernel, rfl⟩
theorem dX7_addPerson_39 : jm_d cX7_addPerson 39 (.getfield 45) 3 42 := ⟨by decide +kernel, rfl⟩
theorem dX7_addPerson_42 : jm_d cX7_addPerson 42 (.iconst 1) 1 43 := ⟨by decide +kernel, rfl⟩
theorem dX7_addPerson_43 : jm_d cX7_addPerson 43 (.iadd) 1 44 := ⟨by decide +kernel, rfl⟩
theorem dX7_addPerson_44 : jm_d cX7_addPerson 44 (.putfield 45) 3 47 := ⟨by decide +kernel, rfl⟩
set_option maxHeartbeats 4000000 in
set_option maxRecDepth 100000 in
theorem kT_addPerson (E : jm_Ev) (hE : jm_dj E jm_LC) {M : jm_M} {t : Nat} {p1 : Int32} {p2 : Int32} {p3 : Int32} (ht : jm_isT t) {r : Int32 × jm_M} (h : sT_addPerson M t p1 p2 p3 = some r) : jm_Ct E jm_LC yX7_addPerson cX7_addPerson 5 (some .int) 0 0 [.ref (jm_a E t 0), .int p1, .int p2, .int p3] M (some (.int r.1)) r.2 := by
  refine jm_enter (lv := [some (.ref (jm_a E t 0)), some (.int p1), some (.int p2), some (.int p3), none]) hE (by decide) (Nat.le_of_ble_eq_true rfl) rfl ?_
  intro z w F hz
  have G : jm_G w 0 [some (.ref (jm_a E t 0)), some (.int p1), some (.int p2), some (.int p3), none] [] M (sT_addPerson M t p1 p2 p3) (fun e => z (some (.int e.1)) e.2) := by
    unfold sT_addPerson
    refine jm_aload_n (i := 0) F dX7_addPerson_0 rfl rfl ?_
    refine jm_getI F dX7_addPerson_1 fl_X7_45 (lo_T ht) rfl ?_
    refine jm_nameI (f := fun x1 => [.int x1]) (fun x1 => ?_) rfl
    refine jm_istore (i := 4) (lv' := [some (.ref (jm_a E t 0)), some (.int p1), some (.int p2), some (.int p3), some (.int x1)]) F dX7_addPerson_4 (by decide) rfl rfl ?_
    refine jm_iload F dX7_addPerson_6 rfl ?_
    refine jm_bipush F dX7_addPerson_8 kb_6 ?_
    refine jm_icmp_ge F dX7_addPerson_10 (fun c2 => ?_) (fun c2 => ?_)
    · refine jm_iload F dX7_addPerson_47 rfl ?_
      exact jm_iret F dX7_addPerson_49 (fun h => h)
    · refine jm_aload_n (i := 0) F dX7_addPerson_13 rfl rfl ?_
      refine jm_getR F dX7_addPerson_14 fl_X7_9 (lo_T ht) rfl ?_
      refine jm_iload F dX7_addPerson_17 rfl ?_
      refine jm_iload_n (i := 1) F dX7_addPerson_19 rfl rfl ?_
      refine jm_iast F dX7_addPerson_20 (la_T_2 ht) (fun M3 => ?_)
      refine jm_aload_n (i := 0) F dX7_addPerson_21 rfl rfl ?_
      refine jm_getR F dX7_addPerson_22 fl_X7_15 (lo_T ht) rfl ?_
      refine jm_iload F dX7_addPerson_25 rfl ?_
      refine jm_iload_n (i := 2) F dX7_addPerson_27 rfl rfl ?_
      refine jm_iast F dX7_addPerson_28 (la_T_3 ht) (fun M4 => ?_)
      refine jm_aload_n (i := 0) F dX7_addPerson_29 rfl rfl ?_
      refine jm_getR F dX7_addPerson_30 fl_X7_18 (lo_T ht) rfl ?_
      refine jm_iload F dX7_addPerson_33 rfl ?_
      refine jm_iload_n (i := 3) F dX7_addPerson_35 rfl rfl ?_
      refine jm_iast F dX7_addPerson_36 (la_T_4 ht) (fun M5 => ?_)
      refine jm_aload_n (i := 0) F dX7_addPerson_37 rfl rfl ?_
      refine jm_dup F dX7_addPerson_38 rfl ?_
      refine jm_getI F dX7_addPerson_39 fl_X7_45 (lo_T ht) rfl ?_
      refine jm_iconst F dX7_addPerson_42 kc_1 ?_
      refine jm_iadd F dX7_addPerson_43 ?_
      refine jm_putI F dX7_addPerson_44 fp_X7_45 (lo_T ht) rfl (fun M6 => ?_)
      refine jm_iload F dX7_addPerson_47 rfl ?_
      exact jm_iret F dX7_addPerson_49 (fun h => h)
  exact G r h hz
theorem dX5_takePerson_0 : jm_d cX5_takePerson 0 (.aload_n 0) 1 1 := ⟨by decide +kernel, rfl⟩
theorem dX5_takePerson_1 : jm_d cX5_takePerson 1 (.iconst 2) 1 2 := ⟨by decide +kernel, rfl⟩
theorem dX5_takePerson_2 : jm_d cX5_takePerson 2 (.invokevirtual 91) 3 5 := ⟨by decide +kernel, rfl⟩
theorem dX5_takePerson_5 : jm_d cX5_takePerson 5 (.istore_n 1) 1 6 := ⟨by decide +kernel, rfl⟩
theorem dX5_takePerson_6 : jm_d cX5_takePerson 6 (.aload_n 0) 1 7 := ⟨by decide +kernel, rfl⟩
theorem dX5_takePerson_7 : jm_d cX5_takePerson 7 (.iconst 1) 1 8 := ⟨by decide +kernel, rfl⟩
theorem dX5_takePerson_8 : jm_d cX5_takePerson 8 (.invokevirtual 91) 3 11 := ⟨by decide +kernel, rfl⟩
theorem dX5_takePerson_11 : jm_d cX5_takePerson 11 (.istore_n 2) 1 12 := ⟨by decide +kernel, rfl⟩
theorem dX5_takePerson_12 : jm_d cX5_takePerson 12 (.aload_n 0) 1 13 := ⟨by decide +kernel, rfl⟩
theorem dX5_takePerson_13 : jm_d cX5_takePerson 13 (.iconst 2) 1 14 := ⟨by decide +kernel, rfl⟩
theorem dX5_takePerson_14 : jm_d cX5_takePerson 14 (.invokevirtual 91) 3 17 := ⟨by decide +kernel, rfl⟩
theorem dX5_takePerson_17 : jm_d cX5_takePerson 17 (.istore_n 3) 1 18 := ⟨by decide +kernel, rfl⟩
theorem dX5_takePerson_18 : jm_d cX5_takePerson 18 (.aload_n 0) 1 19 := ⟨by decide +kernel, rfl⟩
theorem dX5_takePerson_19 : jm_d cX5_takePerson 19 (.getfield 18) 3 22 := ⟨by decide +kernel, rfl⟩
theorem dX5_takePerson_22 : jm_d cX5_takePerson 22 (.getfield 95) 3 25 := ⟨by decide +kernel, rfl⟩
theorem dX5_takePerson_25 : jm_d cX5_takePerson 25 (.bipush 6) 2 27 := ⟨by decide +kernel, rfl⟩
theorem dX5_takePerson_27 : jm_b cX5_takePerson 27 (.if_icmp .lt) 30 32 := ⟨5, by decide +kernel, rfl, by decide⟩
theorem dX5_takePerson_32 : jm_d cX5_takePerson 32 (.aload_n 0) 1 33 := ⟨by decide +kernel, rfl⟩
theorem dX5_takePerson_33 : jm_d cX5_takePerson 33 (.getfield 18) 3 36 := ⟨by decide +kernel, rfl⟩
theorem dX5_takePerson_36 : jm_d cX5_takePerson 36 (.iload_n 1) 1 37 := ⟨by decide +kernel, rfl⟩
theorem dX5_takePerson_37 : jm_d cX5_takePerson 37 (.iload_n 2) 1 38 := ⟨by decide +kernel, rfl⟩
theorem dX5_takePerson_38 : jm_d cX5_takePerson 38 (.iload_n 3) 1 39 := ⟨by decide +kernel, rfl⟩
theorem dX5_takePerson_39 : jm_d cX5_takePerson 39 (.invokevirtual 98) 3 42 := ⟨by decide +kernel, rfl⟩
theorem dX5_takePerson_42 : jm_d cX5_takePerson 42 (.pop) 1 43 := ⟨by decide +kernel, rfl⟩
theorem dX5_takePerson_43 : jm_d cX5_takePerson 43 (.iconst 1) 1 44 := ⟨by decide +kernel, rfl⟩
theorem dX5_takePerson_44 : jm_d cX5_takePerson 44 (.ireturn) 1 45 := ⟨by decide +kernel, rfl⟩
theorem dX5_takePerson_30 : jm_d cX5_takePerson 30 (.iconst 0) 1 31 := ⟨by decide +kernel, rfl⟩
theorem dX5_takePerson_31 : jm_d cX5_takePerson 31 (.ireturn) 1 32 := ⟨by decide +kernel, rfl⟩
set_option maxHeartbeats 4000000 in
set_option maxRecDepth 100000 in
theorem kS_takePerson (E : jm_Ev) (hE : jm_dj E jm_LC) {M : jm_M}  {r : Int32 × jm_M} (h : sS_takePerson M = some r) : jm_Ct E jm_LC yX5_takePerson cX5_takePerson 4 (some .boolean) 2 43 [.ref (jm_a E 14 0)] M (some (.int r.1)) r.2 := by
  refine jm_enter (lv := [some (.ref (jm_a E 14 0)), none, none, none]) hE (by decide) (Nat.le_of_ble_eq_true rfl) rfl ?_
  intro z w F hz
  have G : jm_G w 0 [some (.ref (jm_a E 14 0)), none, none, none] [] M (sS_takePerson M) (fun e => z (some (.int e.1)) e.2) := by
    unfold sS_takePerson
    refine jm_aload_n (i := 0) F dX5_takePerson_0 rfl rfl ?_
    refine jm_iconst F dX5_takePerson_1 kc_2 ?_
    refine jm_callV (As := [.int 2]) (st := []) (rv := fun r => some (.int r.1)) (mm := fun r => r.2) F dX5_takePerson_2 qX5_91 rfl lo_X5 rfl (fun r h => kS_takeNumber E hE h) rfl (Nat.le_of_ble_eq_true rfl) ⟨Nat.le_of_ble_eq_true rfl, Nat.le_of_ble_eq_true rfl⟩ (fun r1 => ?_)
    refine jm_istore_n (i := 1) (lv' := [some (.ref (jm_a E 14 0)), some (.int r1.1), none, none]) F dX5_takePerson_5 rfl (by decide) rfl rfl ?_
    refine jm_aload_n (i := 0) F dX5_takePerson_6 rfl rfl ?_
    refine jm_iconst F dX5_takePerson_7 kc_1 ?_
    refine jm_callV (As := [.int 1]) (st := []) (rv := fun r => some (.int r.1)) (mm := fun r => r.2) F dX5_takePerson_8 qX5_91 rfl lo_X5 rfl (fun r h => kS_takeNumber E hE h) rfl (Nat.le_of_ble_eq_true rfl) ⟨Nat.le_of_ble_eq_true rfl, Nat.le_of_ble_eq_true rfl⟩ (fun r2 => ?_)
    refine jm_istore_n (i := 2) (lv' := [some (.ref (jm_a E 14 0)), some (.int r1.1), some (.int r2.1), none]) F dX5_takePerson_11 rfl (by decide) rfl rfl ?_
    refine jm_aload_n (i := 0) F dX5_takePerson_12 rfl rfl ?_
    refine jm_iconst F dX5_takePerson_13 kc_2 ?_
    refine jm_callV (As := [.int 2]) (st := []) (rv := fun r => some (.int r.1)) (mm := fun r => r.2) F dX5_takePerson_14 qX5_91 rfl lo_X5 rfl (fun r h => kS_takeNumber E hE h) rfl (Nat.le_of_ble_eq_true rfl) ⟨Nat.le_of_ble_eq_true rfl, Nat.le_of_ble_eq_true rfl⟩ (fun r3 => ?_)
    refine jm_istore_n (i := 3) (lv' := [some (.ref (jm_a E 14 0)), some (.int r1.1), some (.int r2.1), some (.int r3.1)]) F dX5_takePerson_17 rfl (by decide) rfl rfl ?_
    refine jm_aload_n (i := 0) F dX5_takePerson_18 rfl rfl ?_
    refine jm_getR F dX5_takePerson_19 fl_X5_18 lo_X5 rfl ?_
    refine jm_getI F dX5_takePerson_22 fl_X5_95 (lo_T isT_3) rfl ?_
    refine jm_bipush F dX5_takePerson_25 kb_6 ?_
    refine jm_icmp_lt F dX5_takePerson_27 (fun c4 => ?_) (fun c4 => ?_)
    · refine jm_aload_n (i := 0) F dX5_takePerson_32 rfl rfl ?_
      refine jm_getR F dX5_takePerson_33 fl_X5_18 lo_X5 rfl ?_
      refine jm_iload_n (i := 1) F dX5_takePerson_36 rfl rfl ?_
      refine jm_iload_n (i := 2) F dX5_takePerson_37 rfl rfl ?_
      refine jm_iload_n (i := 3) F dX5_takePerson_38 rfl rfl ?_
      refine jm_callV (As := [.int r1.1, .int r2.1, .int r3.1]) (st := []) (rv := fun r => some (.int r.1)) (mm := fun r => r.2) F dX5_takePerson_39 qX5_98 rfl (lo_T isT_3) rfl (fun r h => kT_addPerson E hE isT_3 h) rfl (Nat.le_of_ble_eq_true rfl) ⟨Nat.le_of_ble_eq_true rfl, Nat.le_of_ble_eq_true rfl⟩ (fun r5 => ?_)
      refine jm_pop F dX5_takePerson_42 rfl ?_
      refine jm_iconst F dX5_takePerson_43 kc_1 ?_
      exact jm_zret F dX5_takePerson_44 (Or.inr rfl) (fun h => h)
    · refine jm_iconst F dX5_takePerson_30 kc_0 ?_
      exact jm_zret F dX5_takePerson_31 (Or.inl rfl) (fun h => h)
  exact G r h hz
theorem dX6_longer_0 : jm_d cX6_longer 0 (.iload_n 2) 1 1 := ⟨by decide +kernel, rfl⟩
theorem dX6_longer_1 : jm_d cX6_longer 1 (.iconst 1) 1 2 := ⟨by decide +kernel, rfl⟩
theorem dX6_longer_2 : jm_d cX6_longer 2 (.iadd) 1 3 := ⟨by decide +kernel, rfl⟩
theorem dX6_longer_3 : jm_d cX6_longer 3 (.istore_n 3) 1 4 := ⟨by decide +kernel, rfl⟩
theorem dX6_longer_4 : jm_d cX6_longer 4 (.iload_n 1) 1 5 := ⟨by decide +kernel, rfl⟩
theorem dX6_longer_5 : jm_d cX6_longer 5 (.iconst 1) 1 6 := ⟨by decide +kernel, rfl⟩
theorem dX6_longer_6 : jm_d cX6_longer 6 (.iadd) 1 7 := ⟨by decide +kernel, rfl⟩
theorem dX6_longer_7 : jm_d cX6_longer 7 (.istore 4) 2 9 := ⟨by decide +kernel, rfl⟩
theorem dX6_longer_9 : jm_d cX6_longer 9 (.iload 4) 2 11 := ⟨by decide +kernel, rfl⟩
theorem dX6_longer_11 : jm_d cX6_longer 11 (.iconst 4) 1 12 := ⟨by decide +kernel, rfl⟩
theorem dX6_longer_12 : jm_b cX6_longer 12 (.if_icmp .ge) 15 26 := ⟨14, by decide +kernel, rfl, by decide⟩
theorem dX6_longer_15 : jm_d cX6_longer 15 (.iload_n 3) 1 16 := ⟨by decide +kernel, rfl⟩
theorem dX6_longer_16 : jm_d cX6_longer 16 (.bipush 27) 2 18 := ⟨by decide +kernel, rfl⟩
theorem dX6_longer_18 : jm_d cX6_longer 18 (.imul) 1 19 := ⟨by decide +kernel, rfl⟩
theorem dX6_longer_19 : jm_d cX6_longer 19 (.istore_n 3) 1 20 := ⟨by decide +kernel, rfl⟩
theorem dX6_longer_20 : jm_d cX6_longer 20 (.iinc 4 1) 3 23 := ⟨by decide +kernel, rfl⟩
theorem dX6_longer_23 : jm_b cX6_longer 23 .goto 26 9 := ⟨(-14), by decide +kernel, rfl, by decide⟩
theorem dX6_longer_26 : jm_d cX6_longer 26 (.iload_n 0) 1 27 := ⟨by decide +kernel, rfl⟩
theorem dX6_longer_27 : jm_d cX6_longer 27 (.iload_n 3) 1 28 := ⟨by decide +kernel, rfl⟩
theorem dX6_longer_28 : jm_d cX6_longer 28 (.iadd) 1 29 := ⟨by decide +kernel, rfl⟩
theorem dX6_longer_29 : jm_d cX6_longer 29 (.ireturn) 1 30 := ⟨by decide +kernel, rfl⟩
set_option maxHeartbeats 4000000 in
set_option maxRecDepth 100000 in
theorem kI_longer (E : jm_Ev) (hE : jm_dj E jm_LC) {p1 : Int32} {p2 : Int32} {p3 : Int32} {M : jm_M}  {r : Int32} (h : sI_longer p1 p2 p3 = some r) : jm_Ct E jm_LC yX6_longer cX6_longer 5 (some .int) 0 0 [.int p1, .int p2, .int p3] M (some (.int r)) M := by
  refine jm_enter (lv := [some (.int p1), some (.int p2), some (.int p3), none, none]) hE (by decide) (Nat.le_of_ble_eq_true rfl) rfl ?_
  intro z w F hz
  have G : jm_G w 0 [some (.int p1), some (.int p2), some (.int p3), none, none] [] M (sI_longer p1 p2 p3) (fun e => z (some (.int e)) M) := by
    unfold sI_longer
    refine jm_iload_n (i := 2) F dX6_longer_0 rfl rfl ?_
    refine jm_iconst F dX6_longer_1 kc_1 ?_
    refine jm_iadd F dX6_longer_2 ?_
    refine jm_nameI (f := fun x1 => [.int x1]) (fun x1 => ?_) rfl
    refine jm_istore_n (i := 3) (lv' := [some (.int p1), some (.int p2), some (.int p3), some (.int x1), none]) F dX6_longer_3 rfl (by decide) rfl rfl ?_
    refine jm_iload_n (i := 1) F dX6_longer_4 rfl rfl ?_
    refine jm_iconst F dX6_longer_5 kc_1 ?_
    refine jm_iadd F dX6_longer_6 ?_
    refine jm_nameI (f := fun x2 => [.int x2]) (fun x2 => ?_) rfl
    refine jm_istore (i := 4) (lv' := [some (.int p1), some (.int p2), some (.int p3), some (.int x1), some (.int x2)]) F dX6_longer_7 (by decide) rfl rfl ?_
    refine jm_bind (pcJ := 26) (lvJ := fun e6 => [some (.int p1), none, none, some (.int e6), none]) (stJ := fun _ => []) (MJ := fun e6 => M) ?_ (fun e6 => ?_)
    · refine jm_weak F (lv' := [some (.int p1), none, none, some (.int x1), some (.int x2)]) ⟨rfl, rfl, rfl, trivial⟩ ?_
      refine jm_loopR (lvH := fun s3 => [some (.int p1), none, none, some (.int s3.1), some (.int s3.2)]) (MH := fun s3 => M) (fun s3 => ?_) jm_N (x1, x2)
      unfold sI_longer_L9
      refine jm_iload F dX6_longer_9 rfl ?_
      refine jm_iconst F dX6_longer_11 kc_4 ?_
      refine jm_icmp_ge F dX6_longer_12 (fun c4 => ?_) (fun c4 => ?_)
      · exact jm_weakD F (lv' := [some (.int p1), none, none, some (.int s3.1), none]) ⟨rfl, rfl, trivial⟩ (fun h => h)
      · refine jm_iload_n (i := 3) F dX6_longer_15 rfl rfl ?_
        refine jm_bipush F dX6_longer_16 kb_27 ?_
        refine jm_imul F dX6_longer_18 ?_
        refine jm_nameI (f := fun x5 => [.int x5]) (fun x5 => ?_) rfl
        refine jm_istore_n (i := 3) (lv' := [some (.int p1), none, none, some (.int x5), some (.int s3.2)]) F dX6_longer_19 rfl (by decide) rfl rfl ?_
        refine jm_iinc (i := 4) (lv' := [some (.int p1), none, none, some (.int x5), some (.int (s3.2 + 1))]) F dX6_longer_20 kc_1 rfl (by decide) rfl rfl ?_
        refine jm_goto F dX6_longer_23 ?_
        exact jm_weakD F (lv' := [some (.int p1), none, none, some (.int x5), some (.int (s3.2 + 1))]) ⟨rfl, rfl, rfl, trivial⟩ (fun h => h)
    · refine jm_iload_n (i := 0) F dX6_longer_26 rfl rfl ?_
      refine jm_iload_n (i := 3) F dX6_longer_27 rfl rfl ?_
      refine jm_iadd F dX6_longer_28 ?_
      exact jm_iret F dX6_longer_29 (fun h => h)
  exact G r h hz
theorem dX5_takeTitle_0 : jm_d cX5_takeTitle 0 (.iconst 0) 1 1 := ⟨by decide +kernel, rfl⟩
theorem dX5_takeTitle_1 : jm_d cX5_takeTitle 1 (.istore_n 1) 1 2 := ⟨by decide +kernel, rfl⟩
theorem dX5_takeTitle_2 : jm_d cX5_takeTitle 2 (.iconst 0) 1 3 := ⟨by decide +kernel, rfl⟩
theorem dX5_takeTitle_3 : jm_d cX5_takeTitle 3 (.istore_n 2) 1 4 := ⟨by decide +kernel, rfl⟩
theorem dX5_takeTitle_4 : jm_d cX5_takeTitle 4 (.aload_n 0) 1 5 := ⟨by decide +kernel, rfl⟩
theorem dX5_takeTitle_5 : jm_d cX5_takeTitle 5 (.getfield 30) 3 8 := ⟨by decide +kernel, rfl⟩
theorem dX5_takeTitle_8 : jm_d cX5_takeTitle 8 (.aload_n 0) 1 9 := ⟨by decide +kernel, rfl⟩
theorem dX5_takeTitle_9 : jm_d cX5_takeTitle 9 (.getfield 22) 3 12 := ⟨by decide +kernel, rfl⟩
theorem dX5_takeTitle_12 : jm_b cX5_takeTitle 12 (.if_icmp .ge) 15 60 := ⟨48, by decide +kernel, rfl, by decide⟩
theorem dX5_takeTitle_15 : jm_d cX5_takeTitle 15 (.aload_n 0) 1 16 := ⟨by decide +kernel, rfl⟩
theorem dX5_takeTitle_16 : jm_d cX5_takeTitle 16 (.aload_n 0) 1 17 := ⟨by decide +kernel, rfl⟩
theorem dX5_takeTitle_17 : jm_d cX5_takeTitle 17 (.invokevirtual 37) 3 20 := ⟨by decide +kernel, rfl⟩
theorem dX5_takeTitle_20 : jm_d cX5_takeTitle 20 (.invokevirtual 66) 3 23 := ⟨by decide +kernel, rfl⟩
theorem dX5_takeTitle_23 : jm_b cX5_takeTitle 23 (.ifCond .eq) 26 60 := ⟨37, by decide +kernel, rfl, by decide⟩
theorem dX5_takeTitle_26 : jm_d cX5_takeTitle 26 (.iload_n 2) 1 27 := ⟨by decide +kernel, rfl⟩
theorem dX5_takeTitle_27 : jm_d cX5_takeTitle 27 (.iconst 4) 1 28 := ⟨by decide +kernel, rfl⟩
theorem dX5_takeTitle_28 : jm_b cX5_takeTitle 28 (.if_icmp .ge) 31 44 := ⟨16, by decide +kernel, rfl, by decide⟩
theorem dX5_takeTitle_31 : jm_d cX5_takeTitle 31 (.iload_n 1) 1 32 := ⟨by decide +kernel, rfl⟩
theorem dX5_takeTitle_32 : jm_d cX5_takeTitle 32 (.iload_n 2) 1 33 := ⟨by decide +kernel, rfl⟩
theorem dX5_takeTitle_33 : jm_d cX5_takeTitle 33 (.aload_n 0) 1 34 := ⟨by decide +kernel, rfl⟩
theorem dX5_takeTitle_34 : jm_d cX5_takeTitle 34 (.invokevirtual 37) 3 37 := ⟨by decide +kernel, rfl⟩
theorem dX5_takeTitle_37 : jm_d cX5_takeTitle 37 (.bipush 97) 2 39 := ⟨by decide +kernel, rfl⟩
theorem dX5_takeTitle_39 : jm_d cX5_takeTitle 39 (.isub) 1 40 := ⟨by decide +kernel, rfl⟩
theorem dX5_takeTitle_40 : jm_d cX5_takeTitle 40 (.invokestatic 146) 3 43 := ⟨by decide +kernel, rfl⟩
theorem dX5_takeTitle_43 : jm_d cX5_takeTitle 43 (.istore_n 1) 1 44 := ⟨by decide +kernel, rfl⟩
theorem dX5_takeTitle_44 : jm_d cX5_takeTitle 44 (.iinc 2 1) 3 47 := ⟨by decide +kernel, rfl⟩
theorem dX5_takeTitle_47 : jm_d cX5_takeTitle 47 (.aload_n 0) 1 48 := ⟨by decide +kernel, rfl⟩
theorem dX5_takeTitle_48 : jm_d cX5_takeTitle 48 (.dup) 1 49 := ⟨by decide +kernel, rfl⟩
theorem dX5_takeTitle_49 : jm_d cX5_takeTitle 49 (.getfield 30) 3 52 := ⟨by decide +kernel, rfl⟩
theorem dX5_takeTitle_52 : jm_d cX5_takeTitle 52 (.iconst 1) 1 53 := ⟨by decide +kernel, rfl⟩
theorem dX5_takeTitle_53 : jm_d cX5_takeTitle 53 (.iadd) 1 54 := ⟨by decide +kernel, rfl⟩
theorem dX5_takeTitle_54 : jm_d cX5_takeTitle 54 (.putfield 30) 3 57 := ⟨by decide +kernel, rfl⟩
theorem dX5_takeTitle_57 : jm_b cX5_takeTitle 57 .goto 60 4 := ⟨(-53), by decide +kernel, rfl, by decide⟩
theorem dX5_takeTitle_60 : jm_d cX5_takeTitle 60 (.iload_n 2) 1 61 := ⟨by decide +kernel, rfl⟩
theorem dX5_takeTitle_61 : jm_d cX5_takeTitle 61 (.iconst 4) 1 62 := ⟨by decide +kernel, rfl⟩
theorem dX5_takeTitle_62 : jm_b cX5_takeTitle 62 (.if_icmp .gt) 65 69 := ⟨7, by decide +kernel, rfl, by decide⟩
theorem dX5_takeTitle_69 : jm_d cX5_takeTitle 69 (.iconst (-1)) 1 70 := ⟨by decide +kernel, rfl⟩
theorem dX5_takeTitle_70 : jm_d cX5_takeTitle 70 (.ireturn) 1 71 := ⟨by decide +kernel, rfl⟩
theorem dX5_takeTitle_65 : jm_d cX5_takeTitle 65 (.iload_n 1) 1 66 := ⟨by decide +kernel, rfl⟩
theorem dX5_takeTitle_66 : jm_b cX5_takeTitle 66 .goto 69 70 := ⟨4, by decide +kernel, rfl, by decide⟩
set_option maxHeartbeats 4000000 in
set_option maxRecDepth 100000 in
theorem kS_takeTitle (E : jm_Ev) (hE : jm_dj E jm_LC) {M : jm_M}  {r : Int32 × jm_M} (h : sS_takeTitle M = some r) : jm_Ct E jm_LC yX5_takeTitle cX5_takeTitle 3 (some .int) 1 24 [.ref (jm_a E 14 0)] M (some (.int r.1)) r.2 := by
  refine jm_enter (lv := [some (.ref (jm_a E 14 0)), none, none]) hE (by decide) (Nat.le_of_ble_eq_true rfl) rfl ?_
  intro z w F hz
  have G : jm_G w 0 [some (.ref (jm_a E 14 0)), none, none] [] M (sS_takeTitle M) (fun e => z (some (.int e.1)) e.2) := by
    unfold sS_takeTitle
    refine jm_iconst F dX5_takeTitle_0 kc_0 ?_
    refine jm_istore_n (i := 1) (lv' := [some (.ref (jm_a E 14 0)), some (.int 0), none]) F dX5_takeTitle_1 rfl (by decide) rfl rfl ?_
    refine jm_iconst F dX5_takeTitle_2 kc_0 ?_
    refine jm_istore_n (i := 2) (lv' := [some (.ref (jm_a E 14 0)), some (.int 0), some (.int 0)]) F dX5_takeTitle_3 rfl (by decide) rfl rfl ?_
    refine jm_bind (pcJ := 60) (lvJ := fun e11 => [none, some (.int e11.1), some (.int e11.2.1)]) (stJ := fun _ => []) (MJ := fun e11 => e11.2.2) ?_ (fun e11 => ?_)
    · refine jm_weak F (lv' := [some (.ref (jm_a E 14 0)), some (.int 0), some (.int 0)]) ⟨rfl, rfl, rfl, trivial⟩ ?_
      refine jm_loopR (lvH := fun s1 => [some (.ref (jm_a E 14 0)), some (.int s1.1), some (.int s1.2.1)]) (MH := fun s1 => s1.2.2) (fun s1 => ?_) jm_N (0, 0, M)
      unfold sS_takeTitle_L4
      refine jm_aload_n (i := 0) F dX5_takeTitle_4 rfl rfl ?_
      refine jm_getI F dX5_takeTitle_5 fl_X5_30 lo_X5 rfl ?_
      refine jm_aload_n (i := 0) F dX5_takeTitle_8 rfl rfl ?_
      refine jm_getI F dX5_takeTitle_9 fl_X5_22 lo_X5 rfl ?_
      refine jm_icmp_ge F dX5_takeTitle_12 (fun c2 => ?_) (fun c2 => ?_)
      · exact jm_weakD F (lv' := [none, some (.int s1.1), some (.int s1.2.1)]) ⟨rfl, rfl, trivial⟩ (fun h => h)
      · refine jm_aload_n (i := 0) F dX5_takeTitle_15 rfl rfl ?_
        refine jm_aload_n (i := 0) F dX5_takeTitle_16 rfl rfl ?_
        refine jm_callV (As := []) (st := [.ref (jm_a E 14 0)]) (rv := fun r => some (.int r)) (mm := fun _ => s1.2.2) F dX5_takeTitle_17 qX5_37 rfl lo_X5 rfl (fun r h => kS_here E hE h) rfl (Nat.le_of_ble_eq_true rfl) ⟨Nat.le_of_ble_eq_true rfl, Nat.le_of_ble_eq_true rfl⟩ (fun r3 => ?_)
        refine jm_callV (As := [.int r3]) (st := []) (rv := fun r => some (.int r)) (mm := fun _ => s1.2.2) F dX5_takeTitle_20 qX5_66 rfl lo_X5 rfl (fun r h => kS_isTitleLetter E hE h) rfl (Nat.le_of_ble_eq_true rfl) ⟨Nat.le_of_ble_eq_true rfl, Nat.le_of_ble_eq_true rfl⟩ (fun r4 => ?_)
        refine jm_if_eq F dX5_takeTitle_23 (fun c5 => ?_) (fun c5 => ?_)
        · exact jm_weakD F (lv' := [none, some (.int s1.1), some (.int s1.2.1)]) ⟨rfl, rfl, trivial⟩ (fun h => h)
        · refine jm_iload_n (i := 2) F dX5_takeTitle_26 rfl rfl ?_
          refine jm_iconst F dX5_takeTitle_27 kc_4 ?_
          refine jm_bind (pcJ := 44) (lvJ := fun e6 => [some (.ref (jm_a E 14 0)), some (.int e6), some (.int s1.2.1)]) (stJ := fun e6 => []) (MJ := fun e6 => s1.2.2) ?_ (fun e6 => ?_)
          · refine jm_icmp_ge F dX5_takeTitle_28 (fun c7 => ?_) (fun c7 => ?_)
            · exact jm_weakD F (lv' := [some (.ref (jm_a E 14 0)), some (.int s1.1), some (.int s1.2.1)]) ⟨rfl, rfl, rfl, trivial⟩ (fun h => h)
            · refine jm_iload_n (i := 1) F dX5_takeTitle_31 rfl rfl ?_
              refine jm_iload_n (i := 2) F dX5_takeTitle_32 rfl rfl ?_
              refine jm_aload_n (i := 0) F dX5_takeTitle_33 rfl rfl ?_
              refine jm_callV (As := []) (st := [.int s1.2.1, .int s1.1]) (rv := fun r => some (.int r)) (mm := fun _ => s1.2.2) F dX5_takeTitle_34 qX5_37 rfl lo_X5 rfl (fun r h => kS_here E hE h) rfl (Nat.le_of_ble_eq_true rfl) ⟨Nat.le_of_ble_eq_true rfl, Nat.le_of_ble_eq_true rfl⟩ (fun r8 => ?_)
              refine jm_bipush F dX5_takeTitle_37 kb_97 ?_
              refine jm_isub F dX5_takeTitle_39 ?_
              refine jm_callS (As := [.int s1.1, .int s1.2.1, .int (r8 - 97)]) (st := []) (rv := fun r => some (.int r)) (mm := fun _ => s1.2.2) F dX5_takeTitle_40 qX5_146 rfl (fun r h => kI_longer E hE h) rfl (Nat.le_of_ble_eq_true rfl) ⟨Nat.le_of_ble_eq_true rfl, Nat.le_of_ble_eq_true rfl⟩ (fun r9 => ?_)
              refine jm_istore_n (i := 1) (lv' := [some (.ref (jm_a E 14 0)), some (.int r9), some (.int s1.2.1)]) F dX5_takeTitle_43 rfl (by decide) rfl rfl ?_
              exact jm_weakD F (lv' := [some (.ref (jm_a E 14 0)), some (.int r9), some (.int s1.2.1)]) ⟨rfl, rfl, rfl, trivial⟩ (fun h => h)
          · refine jm_iinc (i := 2) (lv' := [some (.ref (jm_a E 14 0)), some (.int e6), some (.int (s1.2.1 + 1))]) F dX5_takeTitle_44 kc_1 rfl (by decide) rfl rfl ?_
            refine jm_aload_n (i := 0) F dX5_takeTitle_47 rfl rfl ?_
            refine jm_dup F dX5_takeTitle_48 rfl ?_
            refine jm_getI F dX5_takeTitle_49 fl_X5_30 lo_X5 rfl ?_
            refine jm_iconst F dX5_takeTitle_52 kc_1 ?_
            refine jm_iadd F dX5_takeTitle_53 ?_
            refine jm_putI F dX5_takeTitle_54 fp_X5_30 lo_X5 rfl (fun M10 => ?_)
            refine jm_goto F dX5_takeTitle_57 ?_
            exact jm_weakD F (lv' := [some (.ref (jm_a E 14 0)), some (.int e6), some (.int (s1.2.1 + 1))]) ⟨rfl, rfl, rfl, trivial⟩ (fun h => h)
    · refine jm_iload_n (i := 2) F dX5_takeTitle_60 rfl rfl ?_
      refine jm_iconst F dX5_takeTitle_61 kc_4 ?_
      refine jm_icmp_gt F dX5_takeTitle_62 (fun c12 => ?_) (fun c12 => ?_)
      · refine jm_iconst F dX5_takeTitle_69 kc_m1 ?_
        exact jm_iret F dX5_takeTitle_70 (fun h => h)
      · refine jm_iload_n (i := 1) F dX5_takeTitle_65 rfl rfl ?_
        refine jm_goto F dX5_takeTitle_66 ?_
        exact jm_iret F dX5_takeTitle_70 (fun h => h)
  exact G r h hz
theorem dX7_hasPerson_0 : jm_d cX7_hasPerson 0 (.iload_n 1) 1 1 := ⟨by decide +kernel, rfl⟩
theorem dX7_hasPerson_1 : jm_b cX7_hasPerson 1 (.ifCond .lt) 4 16 := ⟨15, by decide +kernel, rfl, by decide⟩
theorem dX7_hasPerson_16 : jm_d cX7_hasPerson 16 (.iconst 0) 1 17 := ⟨by decide +kernel, rfl⟩
theorem dX7_hasPerson_17 : jm_d cX7_hasPerson 17 (.ireturn) 1 18 := ⟨by decide +kernel, rfl⟩
theorem dX7_hasPerson_4 : jm_d cX7_hasPerson 4 (.iload_n 1) 1 5 := ⟨by decide +kernel, rfl⟩
theorem dX7_hasPerson_5 : jm_d cX7_hasPerson 5 (.aload_n 0) 1 6 := ⟨by decide +kernel, rfl⟩
theorem dX7_hasPerson_6 : jm_d cX7_hasPerson 6 (.getfield 45) 3 9 := ⟨by decide +kernel, rfl⟩
theorem dX7_hasPerson_9 : jm_b cX7_hasPerson 9 (.if_icmp .ge) 12 16 := ⟨7, by decide +kernel, rfl, by decide⟩
theorem dX7_hasPerson_12 : jm_d cX7_hasPerson 12 (.iconst 1) 1 13 := ⟨by decide +kernel, rfl⟩
theorem dX7_hasPerson_13 : jm_b cX7_hasPerson 13 .goto 16 17 := ⟨4, by decide +kernel, rfl, by decide⟩
set_option maxHeartbeats 4000000 in
set_option maxRecDepth 100000 in
theorem kT_hasPerson (E : jm_Ev) (hE : jm_dj E jm_LC) {M : jm_M} {t : Nat} {p1 : Int32} (ht : jm_isT t) {r : Int32} (h : sT_hasPerson M t p1 = some r) : jm_Ct E jm_LC yX7_hasPerson cX7_hasPerson 2 (some .boolean) 0 0 [.ref (jm_a E t 0), .int p1] M (some (.int r)) M := by
  refine jm_enter (lv := [some (.ref (jm_a E t 0)), some (.int p1)]) hE (by decide) (Nat.le_of_ble_eq_true rfl) rfl ?_
  intro z w F hz
  have G : jm_G w 0 [some (.ref (jm_a E t 0)), some (.int p1)] [] M (sT_hasPerson M t p1) (fun e => z (some (.int e)) M) := by
    unfold sT_hasPerson
    refine jm_iload_n (i := 1) F dX7_hasPerson_0 rfl rfl ?_
    refine jm_if_lt F dX7_hasPerson_1 (fun c1 => ?_) (fun c1 => ?_)
    · refine jm_iconst F dX7_hasPerson_16 kc_0 ?_
      exact jm_zret F dX7_hasPerson_17 (Or.inl rfl) (fun h => h)
    · refine jm_iload_n (i := 1) F dX7_hasPerson_4 rfl rfl ?_
      refine jm_aload_n (i := 0) F dX7_hasPerson_5 rfl rfl ?_
      refine jm_getI F dX7_hasPerson_6 fl_X7_45 (lo_T ht) rfl ?_
      refine jm_icmp_ge F dX7_hasPerson_9 (fun c2 => ?_) (fun c2 => ?_)
      · refine jm_iconst F dX7_hasPerson_16 kc_0 ?_
        exact jm_zret F dX7_hasPerson_17 (Or.inl rfl) (fun h => h)
      · refine jm_iconst F dX7_hasPerson_12 kc_1 ?_
        refine jm_goto F dX7_hasPerson_13 ?_
        exact jm_zret F dX7_hasPerson_17 (Or.inr rfl) (fun h => h)
  exact G r h hz
theorem dX7_hasKeeper_0 : jm_d cX7_hasKeeper 0 (.iload_n 1) 1 1 := ⟨by decide +kernel, rfl⟩
theorem dX7_hasKeeper_1 : jm_d cX7_hasKeeper 1 (.bipush 9) 2 3 := ⟨by decide +kernel, rfl⟩
theorem dX7_hasKeeper_3 : jm_b cX7_hasKeeper 3 (.if_icmp .eq) 6 14 := ⟨11, by decide +kernel, rfl, by decide⟩
theorem dX7_hasKeeper_14 : jm_d cX7_hasKeeper 14 (.iconst 1) 1 15 := ⟨by decide +kernel, rfl⟩
theorem dX7_hasKeeper_15 : jm_b cX7_hasKeeper 15 .goto 18 19 := ⟨4, by decide +kernel, rfl, by decide⟩
theorem dX7_hasKeeper_19 : jm_d cX7_hasKeeper 19 (.ireturn) 1 20 := ⟨by decide +kernel, rfl⟩
theorem dX7_hasKeeper_6 : jm_d cX7_hasKeeper 6 (.aload_n 0) 1 7 := ⟨by decide +kernel, rfl⟩
theorem dX7_hasKeeper_7 : jm_d cX7_hasKeeper 7 (.iload_n 1) 1 8 := ⟨by decide +kernel, rfl⟩
theorem dX7_hasKeeper_8 : jm_d cX7_hasKeeper 8 (.invokevirtual 64) 3 11 := ⟨by decide +kernel, rfl⟩
theorem dX7_hasKeeper_11 : jm_b cX7_hasKeeper 11 (.ifCond .eq) 14 18 := ⟨7, by decide +kernel, rfl, by decide⟩
theorem dX7_hasKeeper_18 : jm_d cX7_hasKeeper 18 (.iconst 0) 1 19 := ⟨by decide +kernel, rfl⟩
set_option maxHeartbeats 4000000 in
set_option maxRecDepth 100000 in
theorem kT_hasKeeper (E : jm_Ev) (hE : jm_dj E jm_LC) {M : jm_M} {t : Nat} {p1 : Int32} (ht : jm_isT t) {r : Int32} (h : sT_hasKeeper M t p1 = some r) : jm_Ct E jm_LC yX7_hasKeeper cX7_hasKeeper 2 (some .boolean) 1 21 [.ref (jm_a E t 0), .int p1] M (some (.int r)) M := by
  refine jm_enter (lv := [some (.ref (jm_a E t 0)), some (.int p1)]) hE (by decide) (Nat.le_of_ble_eq_true rfl) rfl ?_
  intro z w F hz
  have G : jm_G w 0 [some (.ref (jm_a E t 0)), some (.int p1)] [] M (sT_hasKeeper M t p1) (fun e => z (some (.int e)) M) := by
    unfold sT_hasKeeper
    refine jm_iload_n (i := 1) F dX7_hasKeeper_0 rfl rfl ?_
    refine jm_bipush F dX7_hasKeeper_1 kb_9 ?_
    refine jm_icmp_eq F dX7_hasKeeper_3 (fun c1 => ?_) (fun c1 => ?_)
    · refine jm_iconst F dX7_hasKeeper_14 kc_1 ?_
      refine jm_goto F dX7_hasKeeper_15 ?_
      exact jm_zret F dX7_hasKeeper_19 (Or.inr rfl) (fun h => h)
    · refine jm_aload_n (i := 0) F dX7_hasKeeper_6 rfl rfl ?_
      refine jm_iload_n (i := 1) F dX7_hasKeeper_7 rfl rfl ?_
      refine jm_callV (As := [.int p1]) (st := []) (rv := fun r => some (.int r)) (mm := fun _ => M) F dX7_hasKeeper_8 qX7_64 rfl (lo_T ht) rfl (fun r h => kT_hasPerson E hE ht h) rfl (Nat.le_of_ble_eq_true rfl) ⟨Nat.le_of_ble_eq_true rfl, Nat.le_of_ble_eq_true rfl⟩ (fun r2 => ?_)
      refine jm_if_eq F dX7_hasKeeper_11 (fun c3 => ?_) (fun c3 => ?_)
      · refine jm_iconst F dX7_hasKeeper_18 kc_0 ?_
        exact jm_zret F dX7_hasKeeper_19 (Or.inl rfl) (fun h => h)
      · refine jm_iconst F dX7_hasKeeper_14 kc_1 ?_
        refine jm_goto F dX7_hasKeeper_15 ?_
        exact jm_zret F dX7_hasKeeper_19 (Or.inr rfl) (fun h => h)
  exact G r h hz
theorem dX7_bookWithTitle_0 : jm_d cX7_bookWithTitle 0 (.iconst 0) 1 1 := ⟨by decide +kernel, rfl⟩
theorem dX7_bookWithTitle_1 : jm_d cX7_bookWithTitle 1 (.istore_n 2) 1 2 := ⟨by decide +kernel, rfl⟩
theorem dX7_bookWithTitle_2 : jm_d cX7_bookWithTitle 2 (.iload_n 2) 1 3 := ⟨by decide +kernel, rfl⟩
theorem dX7_bookWithTitle_3 : jm_d cX7_bookWithTitle 3 (.aload_n 0) 1 4 := ⟨by decide +kernel, rfl⟩
theorem dX7_bookWithTitle_4 : jm_d cX7_bookWithTitle 4 (.getfield 55) 3 7 := ⟨by decide +kernel, rfl⟩
theorem dX7_bookWithTitle_7 : jm_b cX7_bookWithTitle 7 (.if_icmp .ge) 10 28 := ⟨21, by decide +kernel, rfl, by decide⟩
theorem dX7_bookWithTitle_10 : jm_d cX7_bookWithTitle 10 (.aload_n 0) 1 11 := ⟨by decide +kernel, rfl⟩
theorem dX7_bookWithTitle_11 : jm_d cX7_bookWithTitle 11 (.getfield 36) 3 14 := ⟨by decide +kernel, rfl⟩
theorem dX7_bookWithTitle_14 : jm_d cX7_bookWithTitle 14 (.iload_n 2) 1 15 := ⟨by decide +kernel, rfl⟩
theorem dX7_bookWithTitle_15 : jm_d cX7_bookWithTitle 15 (.iaload) 1 16 := ⟨by decide +kernel, rfl⟩
theorem dX7_bookWithTitle_16 : jm_d cX7_bookWithTitle 16 (.iload_n 1) 1 17 := ⟨by decide +kernel, rfl⟩
theorem dX7_bookWithTitle_17 : jm_b cX7_bookWithTitle 17 (.if_icmp .ne) 20 22 := ⟨5, by decide +kernel, rfl, by decide⟩
theorem dX7_bookWithTitle_20 : jm_d cX7_bookWithTitle 20 (.iload_n 2) 1 21 := ⟨by decide +kernel, rfl⟩
theorem dX7_bookWithTitle_21 : jm_d cX7_bookWithTitle 21 (.ireturn) 1 22 := ⟨by decide +kernel, rfl⟩
theorem dX7_bookWithTitle_22 : jm_d cX7_bookWithTitle 22 (.iinc 2 1) 3 25 := ⟨by decide +kernel, rfl⟩
theorem dX7_bookWithTitle_25 : jm_b cX7_bookWithTitle 25 .goto 28 2 := ⟨(-23), by decide +kernel, rfl, by decide⟩
theorem dX7_bookWithTitle_28 : jm_d cX7_bookWithTitle 28 (.bipush (-9)) 2 30 := ⟨by decide +kernel, rfl⟩
theorem dX7_bookWithTitle_30 : jm_d cX7_bookWithTitle 30 (.ireturn) 1 31 := ⟨by decide +kernel, rfl⟩
set_option maxHeartbeats 4000000 in
set_option maxRecDepth 100000 in
theorem kT_bookWithTitle (E : jm_Ev) (hE : jm_dj E jm_LC) {M : jm_M} {t : Nat} {p1 : Int32} (ht : jm_isT t) {r : Int32} (h : sT_bookWithTitle M t p1 = some r) : jm_Ct E jm_LC yX7_bookWithTitle cX7_bookWithTitle 3 (some .int) 0 0 [.ref (jm_a E t 0), .int p1] M (some (.int r)) M := by
  refine jm_enter (lv := [some (.ref (jm_a E t 0)), some (.int p1), none]) hE (by decide) (Nat.le_of_ble_eq_true rfl) rfl ?_
  intro z w F hz
  have G : jm_G w 0 [some (.ref (jm_a E t 0)), some (.int p1), none] [] M (sT_bookWithTitle M t p1) (fun e => z (some (.int e)) M) := by
    unfold sT_bookWithTitle
    refine jm_iconst F dX7_bookWithTitle_0 kc_0 ?_
    refine jm_istore_n (i := 2) (lv' := [some (.ref (jm_a E t 0)), some (.int p1), some (.int 0)]) F dX7_bookWithTitle_1 rfl (by decide) rfl rfl ?_
    refine jm_bindS (pcJ := 28) (lvJ := fun e5 => [none, none, none]) (stJ := fun _ => []) (MJ := fun e5 => M) ?_ (fun e5 => ?_)
    · refine jm_weak F (lv' := [some (.ref (jm_a E t 0)), some (.int p1), some (.int 0)]) ⟨rfl, rfl, rfl, trivial⟩ ?_
      refine jm_loopR (lvH := fun s1 => [some (.ref (jm_a E t 0)), some (.int p1), some (.int s1)]) (MH := fun s1 => M) (fun s1 => ?_) jm_N 0
      unfold sT_bookWithTitle_L2
      refine jm_iload_n (i := 2) F dX7_bookWithTitle_2 rfl rfl ?_
      refine jm_aload_n (i := 0) F dX7_bookWithTitle_3 rfl rfl ?_
      refine jm_getI F dX7_bookWithTitle_4 fl_X7_55 (lo_T ht) rfl ?_
      refine jm_icmp_ge F dX7_bookWithTitle_7 (fun c2 => ?_) (fun c2 => ?_)
      · exact jm_weakD F (lv' := [none, none, none]) trivial (fun h => h)
      · refine jm_aload_n (i := 0) F dX7_bookWithTitle_10 rfl rfl ?_
        refine jm_getR F dX7_bookWithTitle_11 fl_X7_36 (lo_T ht) rfl ?_
        refine jm_iload_n (i := 2) F dX7_bookWithTitle_14 rfl rfl ?_
        refine jm_iald F dX7_bookWithTitle_15 (la_T_11 ht) (fun v3 => ?_)
        refine jm_iload_n (i := 1) F dX7_bookWithTitle_16 rfl rfl ?_
        refine jm_icmp_ne F dX7_bookWithTitle_17 (fun c4 => ?_) (fun c4 => ?_)
        · refine jm_iload_n (i := 2) F dX7_bookWithTitle_20 rfl rfl ?_
          exact jm_iret F dX7_bookWithTitle_21 (fun h => h)
        · refine jm_iinc (i := 2) (lv' := [some (.ref (jm_a E t 0)), some (.int p1), some (.int (s1 + 1))]) F dX7_bookWithTitle_22 kc_1 rfl (by decide) rfl rfl ?_
          refine jm_goto F dX7_bookWithTitle_25 ?_
          exact jm_weakD F (lv' := [some (.ref (jm_a E t 0)), some (.int p1), some (.int (s1 + 1))]) ⟨rfl, rfl, rfl, trivial⟩ (fun h => h)
    · refine jm_bipush F dX7_bookWithTitle_28 kb_m9 ?_
      exact jm_iret F dX7_bookWithTitle_30 (fun h => h)
  exact G r h hz
theorem dX7_addBook_0 : jm_d cX7_addBook 0 (.aload_n 0) 1 1 := ⟨by decide +kernel, rfl⟩
theorem dX7_addBook_1 : jm_d cX7_addBook 1 (.getfield 55) 3 4 := ⟨by decide +kernel, rfl⟩
theorem dX7_addBook_4 : jm_d cX7_addBook 4 (.istore 5) 2 6 := ⟨by decide +kernel, rfl⟩
theorem dX7_addBook_6 : jm_d cX7_addBook 6 (.iload 5) 2 8 := ⟨by decide +kernel, rfl⟩
theorem dX7_addBook_8 : jm_d cX7_addBook 8 (.bipush 10) 2 10 := ⟨by decide +kernel, rfl⟩
theorem dX7_addBook_10 : jm_b cX7_addBook 10 (.if_icmp .ge) 13 72 := ⟨62, by decide +kernel, rfl, by decide⟩
theorem dX7_addBook_72 : jm_d cX7_addBook 72 (.iload 5) 2 74 := ⟨by decide +kernel, rfl⟩
theorem dX7_addBook_74 : jm_d cX7_addBook 74 (.ireturn) 1 75 := ⟨by decide +kernel, rfl⟩
theorem dX7_addBook_13 : jm_d cX7_addBook 13 (.aload_n 0) 1 14 := ⟨by decide +kernel, rfl⟩
theorem dX7_addBook_14 : jm_d cX7_addBook 14 (.getfield 21) 3 17 := ⟨by decide +kernel, rfl⟩
theorem dX7_addBook_17 : jm_d cX7_addBook 17 (.iload 5) 2 19 := ⟨by decide +kernel, rfl⟩
theorem dX7_addBook_19 : jm_d cX7_addBook 19 (.iload_n 1) 1 20 := ⟨by decide +kernel, rfl⟩
theorem dX7_addBook_20 : jm_d cX7_addBook 20 (.iastore) 1 21 := ⟨by decide +kernel, rfl⟩
theorem dX7_addBook_21 : jm_d cX7_addBook 21 (.aload_n 0) 1 22 := ⟨by decide +kernel, rfl⟩
theorem dX7_addBook_22 : jm_d cX7_addBook 22 (.getfield 24) 3 25 := ⟨by decide +kernel, rfl⟩
theorem dX7_addBook_25 : jm_d cX7_addBook 25 (.iload 5) 2 27 := ⟨by decide +kernel, rfl⟩
theorem dX7_addBook_27 : jm_d cX7_addBook 27 (.iload_n 2) 1 28 := ⟨by decide +kernel, rfl⟩
theorem dX7_addBook_28 : jm_d cX7_addBook 28 (.iastore) 1 29 := ⟨by decide +kernel, rfl⟩
theorem dX7_addBook_29 : jm_d cX7_addBook 29 (.aload_n 0) 1 30 := ⟨by decide +kernel, rfl⟩
theorem dX7_addBook_30 : jm_d cX7_addBook 30 (.getfield 27) 3 33 := ⟨by decide +kernel, rfl⟩
theorem dX7_addBook_33 : jm_d cX7_addBook 33 (.iload 5) 2 35 := ⟨by decide +kernel, rfl⟩
theorem dX7_addBook_35 : jm_d cX7_addBook 35 (.iload_n 3) 1 36 := ⟨by decide +kernel, rfl⟩
theorem dX7_addBook_36 : jm_d cX7_addBook 36 (.iastore) 1 37 := ⟨by decide +kernel, rfl⟩
theorem dX7_addBook_37 : jm_d cX7_addBook 37 (.aload_n 0) 1 38 := ⟨by decide +kernel, rfl⟩
theorem dX7_addBook_38 : jm_d cX7_addBook 38 (.getfield 30) 3 41 := ⟨by decide +kernel, rfl⟩
theorem dX7_addBook_41 : jm_d cX7_addBook 41 (.iload 5) 2 43 := ⟨by decide +kernel, rfl⟩
theorem dX7_addBook_43 : jm_d cX7_addBook 43 (.iload_n 3) 1 44 := ⟨by decide +kernel, rfl⟩
theorem dX7_addBook_44 : jm_d cX7_addBook 44 (.iastore) 1 45 := ⟨by decide +kernel, rfl⟩
theorem dX7_addBook_45 : jm_d cX7_addBook 45 (.aload_n 0) 1 46 := ⟨by decide +kernel, rfl⟩
theorem dX7_addBook_46 : jm_d cX7_addBook 46 (.getfield 33) 3 49 := ⟨by decide +kernel, rfl⟩
theorem dX7_addBook_49 : jm_d cX7_addBook 49 (.iload 5) 2 51 := ⟨by decide +kernel, rfl⟩
theorem dX7_addBook_51 : jm_d cX7_addBook 51 (.iconst 0) 1 52 := ⟨by decide +kernel, rfl⟩
theorem dX7_addBook_52 : jm_d cX7_addBook 52 (.iastore) 1 53 := ⟨by decide +kernel, rfl⟩
theorem dX7_addBook_53 : jm_d cX7_addBook 53 (.aload_n 0) 1 54 := ⟨by decide +kernel, rfl⟩
theorem dX7_addBook_54 : jm_d cX7_addBook 54 (.getfield 36) 3 57 := ⟨by decide +kernel, rfl⟩
theorem dX7_addBook_57 : jm_d cX7_addBook 57 (.iload 5) 2 59 := ⟨by decide +kernel, rfl⟩
theorem dX7_addBook_59 : jm_d cX7_addBook 59 (.iload 4) 2 61 := ⟨by decide +kernel, rfl⟩
theorem dX7_addBook_61 : jm_d cX7_addBook 61 (.iastore) 1 62 := ⟨by decide +kernel, rfl⟩
theorem dX7_addBook_62 : jm_d cX7_addBook 62 (.aload_n 0) 1 63 := ⟨by decide +kernel, rfl⟩
theorem dX7_addBook_63 : jm_d cX7_addBook 63 (.dup) 1 64 := ⟨by decide +kernel, rfl⟩
theorem dX7_addBook_64 : jm_d cX7_addBook 64 (.getfield 55) 3 67 := ⟨by decide +kernel, rfl⟩
theorem dX7_addBook_67 : jm_d cX7_addBook 67 (.iconst 1) 1 68 := ⟨by decide +kernel, rfl⟩
theorem dX7_addBook_68 : jm_d cX7_addBook 68 (.iadd) 1 69 := ⟨by decide +kernel, rfl⟩
theorem dX7_addBook_69 : jm_d cX7_addBook 69 (.putfield 55) 3 72 := ⟨by decide +kernel, rfl⟩
set_option maxHeartbeats 4000000 in
set_option maxRecDepth 100000 in
theorem kT_addBook (E : jm_Ev) (hE : jm_dj E jm_LC) {M : jm_M} {t : Nat} {p1 : Int32} {p2 : Int32} {p3 : Int32} {p4 : Int32} (ht : jm_isT t) {r : Int32 × jm_M} (h : sT_addBook M t p1 p2 p3 p4 = some r) : jm_Ct E jm_LC yX7_addBook cX7_addBook 6 (some .int) 0 0 [.ref (jm_a E t 0), .int p1, .int p2, .int p3, .int p4] M (some (.int r.1)) r.2 := by
  refine jm_enter (lv := [some (.ref (jm_a E t 0)), some (.int p1), some (.int p2), some (.int p3), some (.int p4), none]) hE (by decide) (Nat.le_of_ble_eq_true rfl) rfl ?_
  intro z w F hz
  have G : jm_G w 0 [some (.ref (jm_a E t 0)), some (.int p1), some (.int p2), some (.int p3), some (.int p4), none] [] M (sT_addBook M t p1 p2 p3 p4) (fun e => z (some (.int e.1)) e.2) := by
    unfold sT_addBook
    refine jm_aload_n (i := 0) F dX7_addBook_0 rfl rfl ?_
    refine jm_getI F dX7_addBook_1 fl_X7_55 (lo_T ht) rfl ?_
    refine jm_nameI (f := fun x1 => [.int x1]) (fun x1 => ?_) rfl
    refine jm_istore (i := 5) (lv' := [some (.ref (jm_a E t 0)), some (.int p1), some (.int p2), some (.int p3), some (.int p4), some (.int x1)]) F dX7_addBook_4 (by decide) rfl rfl ?_
    refine jm_iload F dX7_addBook_6 rfl ?_
    refine jm_bipush F dX7_addBook_8 kb_10 ?_
    refine jm_icmp_ge F dX7_addBook_10 (fun c2 => ?_) (fun c2 => ?_)
    · refine jm_iload F dX7_addBook_72 rfl ?_
      exact jm_iret F dX7_addBook_74 (fun h => h)
    · refine jm_aload_n (i := 0) F dX7_addBook_13 rfl rfl ?_
      refine jm_getR F dX7_addBook_14 fl_X7_21 (lo_T ht) rfl ?_
      refine jm_iload F dX7_addBook_17 rfl ?_
      refine jm_iload_n (i := 1) F dX7_addBook_19 rfl rfl ?_
      refine jm_iast F dX7_addBook_20 (la_T_6 ht) (fun M3 => ?_)
      refine jm_aload_n (i := 0) F dX7_addBook_21 rfl rfl ?_
      refine jm_getR F dX7_addBook_22 fl_X7_24 (lo_T ht) rfl ?_
      refine jm_iload F dX7_addBook_25 rfl ?_
      refine jm_iload_n (i := 2) F dX7_addBook_27 rfl rfl ?_
      refine jm_iast F dX7_addBook_28 (la_T_7 ht) (fun M4 => ?_)
      refine jm_aload_n (i := 0) F dX7_addBook_29 rfl rfl ?_
      refine jm_getR F dX7_addBook_30 fl_X7_27 (lo_T ht) rfl ?_
      refine jm_iload F dX7_addBook_33 rfl ?_
      refine jm_iload_n (i := 3) F dX7_addBook_35 rfl rfl ?_
      refine jm_iast F dX7_addBook_36 (la_T_8 ht) (fun M5 => ?_)
      refine jm_aload_n (i := 0) F dX7_addBook_37 rfl rfl ?_
      refine jm_getR F dX7_addBook_38 fl_X7_30 (lo_T ht) rfl ?_
      refine jm_iload F dX7_addBook_41 rfl ?_
      refine jm_iload_n (i := 3) F dX7_addBook_43 rfl rfl ?_
      refine jm_iast F dX7_addBook_44 (la_T_9 ht) (fun M6 => ?_)
      refine jm_aload_n (i := 0) F dX7_addBook_45 rfl rfl ?_
      refine jm_getR F dX7_addBook_46 fl_X7_33 (lo_T ht) rfl ?_
      refine jm_iload F dX7_addBook_49 rfl ?_
      refine jm_iconst F dX7_addBook_51 kc_0 ?_
      refine jm_iast F dX7_addBook_52 (la_T_10 ht) (fun M7 => ?_)
      refine jm_aload_n (i := 0) F dX7_addBook_53 rfl rfl ?_
      refine jm_getR F dX7_addBook_54 fl_X7_36 (lo_T ht) rfl ?_
      refine jm_iload F dX7_addBook_57 rfl ?_
      refine jm_iload F dX7_addBook_59 rfl ?_
      refine jm_iast F dX7_addBook_61 (la_T_11 ht) (fun M8 => ?_)
      refine jm_aload_n (i := 0) F dX7_addBook_62 rfl rfl ?_
      refine jm_dup F dX7_addBook_63 rfl ?_
      refine jm_getI F dX7_addBook_64 fl_X7_55 (lo_T ht) rfl ?_
      refine jm_iconst F dX7_addBook_67 kc_1 ?_
      refine jm_iadd F dX7_addBook_68 ?_
      refine jm_putI F dX7_addBook_69 fp_X7_55 (lo_T ht) rfl (fun M9 => ?_)
      refine jm_iload F dX7_addBook_72 rfl ?_
      exact jm_iret F dX7_addBook_74 (fun h => h)
  exact G r h hz
theorem dX5_takeBook_0 : jm_d cX5_takeBook 0 (.aload_n 0) 1 1 := ⟨by decide +kernel, rfl⟩
theorem dX5_takeBook_1 : jm_d cX5_takeBook 1 (.iconst 1) 1 2 := ⟨by decide +kernel, rfl⟩
theorem dX5_takeBook_2 : jm_d cX5_takeBook 2 (.invokevirtual 91) 3 5 := ⟨by decide +kernel, rfl⟩
theorem dX5_takeBook_5 : jm_d cX5_takeBook 5 (.istore_n 1) 1 6 := ⟨by decide +kernel, rfl⟩
theorem dX5_takeBook_6 : jm_d cX5_takeBook 6 (.aload_n 0) 1 7 := ⟨by decide +kernel, rfl⟩
theorem dX5_takeBook_7 : jm_d cX5_takeBook 7 (.iconst 1) 1 8 := ⟨by decide +kernel, rfl⟩
theorem dX5_takeBook_8 : jm_d cX5_takeBook 8 (.invokevirtual 91) 3 11 := ⟨by decide +kernel, rfl⟩
theorem dX5_takeBook_11 : jm_d cX5_takeBook 11 (.istore_n 2) 1 12 := ⟨by decide +kernel, rfl⟩
theorem dX5_takeBook_12 : jm_d cX5_takeBook 12 (.aload_n 0) 1 13 := ⟨by decide +kernel, rfl⟩
theorem dX5_takeBook_13 : jm_d cX5_takeBook 13 (.iconst 1) 1 14 := ⟨by decide +kernel, rfl⟩
theorem dX5_takeBook_14 : jm_d cX5_takeBook 14 (.invokevirtual 91) 3 17 := ⟨by decide +kernel, rfl⟩
theorem dX5_takeBook_17 : jm_d cX5_takeBook 17 (.istore_n 3) 1 18 := ⟨by decide +kernel, rfl⟩
theorem dX5_takeBook_18 : jm_d cX5_takeBook 18 (.aload_n 0) 1 19 := ⟨by decide +kernel, rfl⟩
theorem dX5_takeBook_19 : jm_d cX5_takeBook 19 (.invokevirtual 102) 3 22 := ⟨by decide +kernel, rfl⟩
theorem dX5_takeBook_22 : jm_d cX5_takeBook 22 (.istore 4) 2 24 := ⟨by decide +kernel, rfl⟩
theorem dX5_takeBook_24 : jm_d cX5_takeBook 24 (.iload_n 1) 1 25 := ⟨by decide +kernel, rfl⟩
theorem dX5_takeBook_25 : jm_d cX5_takeBook 25 (.bipush 8) 2 27 := ⟨by decide +kernel, rfl⟩
theorem dX5_takeBook_27 : jm_b cX5_takeBook 27 (.if_icmp .ge) 30 73 := ⟨46, by decide +kernel, rfl, by decide⟩
theorem dX5_takeBook_73 : jm_d cX5_takeBook 73 (.iconst 0) 1 74 := ⟨by decide +kernel, rfl⟩
theorem dX5_takeBook_74 : jm_d cX5_takeBook 74 (.ireturn) 1 75 := ⟨by decide +kernel, rfl⟩
theorem dX5_takeBook_30 : jm_d cX5_takeBook 30 (.aload_n 0) 1 31 := ⟨by decide +kernel, rfl⟩
theorem dX5_takeBook_31 : jm_d cX5_takeBook 31 (.getfield 18) 3 34 := ⟨by decide +kernel, rfl⟩
theorem dX5_takeBook_34 : jm_d cX5_takeBook 34 (.iload_n 3) 1 35 := ⟨by decide +kernel, rfl⟩
theorem dX5_takeBook_35 : jm_d cX5_takeBook 35 (.invokevirtual 105) 3 38 := ⟨by decide +kernel, rfl⟩
theorem dX5_takeBook_38 : jm_b cX5_takeBook 38 (.ifCond .eq) 41 73 := ⟨35, by decide +kernel, rfl, by decide⟩
theorem dX5_takeBook_41 : jm_d cX5_takeBook 41 (.aload_n 0) 1 42 := ⟨by decide +kernel, rfl⟩
theorem dX5_takeBook_42 : jm_d cX5_takeBook 42 (.getfield 18) 3 45 := ⟨by decide +kernel, rfl⟩
theorem dX5_takeBook_45 : jm_d cX5_takeBook 45 (.getfield 108) 3 48 := ⟨by decide +kernel, rfl⟩
theorem dX5_takeBook_48 : jm_d cX5_takeBook 48 (.bipush 10) 2 50 := ⟨by decide +kernel, rfl⟩
theorem dX5_takeBook_50 : jm_b cX5_takeBook 50 (.if_icmp .ge) 53 73 := ⟨23, by decide +kernel, rfl, by decide⟩
theorem dX5_takeBook_53 : jm_d cX5_takeBook 53 (.iload 4) 2 55 := ⟨by decide +kernel, rfl⟩
theorem dX5_takeBook_55 : jm_d cX5_takeBook 55 (.iconst (-1)) 1 56 := ⟨by decide +kernel, rfl⟩
theorem dX5_takeBook_56 : jm_b cX5_takeBook 56 (.if_icmp .eq) 59 73 := ⟨17, by decide +kernel, rfl, by decide⟩
theorem dX5_takeBook_59 : jm_d cX5_takeBook 59 (.aload_n 0) 1 60 := ⟨by decide +kernel, rfl⟩
theorem dX5_takeBook_60 : jm_d cX5_takeBook 60 (.getfield 18) 3 63 := ⟨by decide +kernel, rfl⟩
theorem dX5_takeBook_63 : jm_d cX5_takeBook 63 (.iload 4) 2 65 := ⟨by decide +kernel, rfl⟩
theorem dX5_takeBook_65 : jm_d cX5_takeBook 65 (.invokevirtual 113) 3 68 := ⟨by decide +kernel, rfl⟩
theorem dX5_takeBook_68 : jm_d cX5_takeBook 68 (.bipush (-9)) 2 70 := ⟨by decide +kernel, rfl⟩
theorem dX5_takeBook_70 : jm_b cX5_takeBook 70 (.if_icmp .eq) 73 75 := ⟨5, by decide +kernel, rfl, by decide⟩
theorem dX5_takeBook_75 : jm_d cX5_takeBook 75 (.aload_n 0) 1 76 := ⟨by decide +kernel, rfl⟩
theorem dX5_takeBook_76 : jm_d cX5_takeBook 76 (.getfield 18) 3 79 := ⟨by decide +kernel, rfl⟩
theorem dX5_takeBook_79 : jm_d cX5_takeBook 79 (.iload_n 1) 1 80 := ⟨by decide +kernel, rfl⟩
theorem dX5_takeBook_80 : jm_d cX5_takeBook 80 (.iload_n 2) 1 81 := ⟨by decide +kernel, rfl⟩
theorem dX5_takeBook_81 : jm_d cX5_takeBook 81 (.iload_n 3) 1 82 := ⟨by decide +kernel, rfl⟩
theorem dX5_takeBook_82 : jm_d cX5_takeBook 82 (.iload 4) 2 84 := ⟨by decide +kernel, rfl⟩
theorem dX5_takeBook_84 : jm_d cX5_takeBook 84 (.invokevirtual 116) 3 87 := ⟨by decide +kernel, rfl⟩
theorem dX5_takeBook_87 : jm_d cX5_takeBook 87 (.pop) 1 88 := ⟨by decide +kernel, rfl⟩
theorem dX5_takeBook_88 : jm_d cX5_takeBook 88 (.iconst 1) 1 89 := ⟨by decide +kernel, rfl⟩
theorem dX5_takeBook_89 : jm_d cX5_takeBook 89 (.ireturn) 1 90 := ⟨by decide +kernel, rfl⟩
set_option maxHeartbeats 4000000 in
set_option maxRecDepth 100000 in
theorem kS_takeBook (E : jm_Ev) (hE : jm_dj E jm_LC) {M : jm_M}  {r : Int32 × jm_M} (h : sS_takeBook M = some r) : jm_Ct E jm_LC yX5_takeBook cX5_takeBook 5 (some .boolean) 2 46 [.ref (jm_a E 14 0)] M (some (.int r.1)) r.2 := by
  refine jm_enter (lv := [some (.ref (jm_a E 14 0)), none, none, none, none]) hE (by decide) (Nat.le_of_ble_eq_true rfl) rfl ?_
  intro z w F hz
  have G : jm_G w 0 [some (.ref (jm_a E 14 0)), none, none, none, none] [] M (sS_takeBook M) (fun e => z (some (.int e.1)) e.2) := by
    unfold sS_takeBook
    refine jm_aload_n (i := 0) F dX5_takeBook_0 rfl rfl ?_
    refine jm_iconst F dX5_takeBook_1 kc_1 ?_
    refine jm_callV (As := [.int 1]) (st := []) (rv := fun r => some (.int r.1)) (mm := fun r => r.2) F dX5_takeBook_2 qX5_91 rfl lo_X5 rfl (fun r h => kS_takeNumber E hE h) rfl (Nat.le_of_ble_eq_true rfl) ⟨Nat.le_of_ble_eq_true rfl, Nat.le_of_ble_eq_true rfl⟩ (fun r1 => ?_)
    refine jm_istore_n (i := 1) (lv' := [some (.ref (jm_a E 14 0)), some (.int r1.1), none, none, none]) F dX5_takeBook_5 rfl (by decide) rfl rfl ?_
    refine jm_aload_n (i := 0) F dX5_takeBook_6 rfl rfl ?_
    refine jm_iconst F dX5_takeBook_7 kc_1 ?_
    refine jm_callV (As := [.int 1]) (st := []) (rv := fun r => some (.int r.1)) (mm := fun r => r.2) F dX5_takeBook_8 qX5_91 rfl lo_X5 rfl (fun r h => kS_takeNumber E hE h) rfl (Nat.le_of_ble_eq_true rfl) ⟨Nat.le_of_ble_eq_true rfl, Nat.le_of_ble_eq_true rfl⟩ (fun r2 => ?_)
    refine jm_istore_n (i := 2) (lv' := [some (.ref (jm_a E 14 0)), some (.int r1.1), some (.int r2.1), none, none]) F dX5_takeBook_11 rfl (by decide) rfl rfl ?_
    refine jm_aload_n (i := 0) F dX5_takeBook_12 rfl rfl ?_
    refine jm_iconst F dX5_takeBook_13 kc_1 ?_
    refine jm_callV (As := [.int 1]) (st := []) (rv := fun r => some (.int r.1)) (mm := fun r => r.2) F dX5_takeBook_14 qX5_91 rfl lo_X5 rfl (fun r h => kS_takeNumber E hE h) rfl (Nat.le_of_ble_eq_true rfl) ⟨Nat.le_of_ble_eq_true rfl, Nat.le_of_ble_eq_true rfl⟩ (fun r3 => ?_)
    refine jm_istore_n (i := 3) (lv' := [some (.ref (jm_a E 14 0)), some (.int r1.1), some (.int r2.1), some (.int r3.1), none]) F dX5_takeBook_17 rfl (by decide) rfl rfl ?_
    refine jm_aload_n (i := 0) F dX5_takeBook_18 rfl rfl ?_
    refine jm_callV (As := []) (st := []) (rv := fun r => some (.int r.1)) (mm := fun r => r.2) F dX5_takeBook_19 qX5_102 rfl lo_X5 rfl (fun r h => kS_takeTitle E hE h) rfl (Nat.le_of_ble_eq_true rfl) ⟨Nat.le_of_ble_eq_true rfl, Nat.le_of_ble_eq_true rfl⟩ (fun r4 => ?_)
    refine jm_istore (i := 4) (lv' := [some (.ref (jm_a E 14 0)), some (.int r1.1), some (.int r2.1), some (.int r3.1), some (.int r4.1)]) F dX5_takeBook_22 (by decide) rfl rfl ?_
    refine jm_iload_n (i := 1) F dX5_takeBook_24 rfl rfl ?_
    refine jm_bipush F dX5_takeBook_25 kb_8 ?_
    refine jm_icmp_ge F dX5_takeBook_27 (fun c5 => ?_) (fun c5 => ?_)
    · refine jm_iconst F dX5_takeBook_73 kc_0 ?_
      exact jm_zret F dX5_takeBook_74 (Or.inl rfl) (fun h => h)
    · refine jm_aload_n (i := 0) F dX5_takeBook_30 rfl rfl ?_
      refine jm_getR F dX5_takeBook_31 fl_X5_18 lo_X5 rfl ?_
      refine jm_iload_n (i := 3) F dX5_takeBook_34 rfl rfl ?_
      refine jm_callV (As := [.int r3.1]) (st := []) (rv := fun r => some (.int r)) (mm := fun _ => r4.2) F dX5_takeBook_35 qX5_105 rfl (lo_T isT_3) rfl (fun r h => kT_hasKeeper E hE isT_3 h) rfl (Nat.le_of_ble_eq_true rfl) ⟨Nat.le_of_ble_eq_true rfl, Nat.le_of_ble_eq_true rfl⟩ (fun r6 => ?_)
      refine jm_if_eq F dX5_takeBook_38 (fun c7 => ?_) (fun c7 => ?_)
      · refine jm_iconst F dX5_takeBook_73 kc_0 ?_
        exact jm_zret F dX5_takeBook_74 (Or.inl rfl) (fun h => h)
      · refine jm_aload_n (i := 0) F dX5_takeBook_41 rfl rfl ?_
        refine jm_getR F dX5_takeBook_42 fl_X5_18 lo_X5 rfl ?_
        refine jm_getI F dX5_takeBook_45 fl_X5_108 (lo_T isT_3) rfl ?_
        refine jm_bipush F dX5_takeBook_48 kb_10 ?_
        refine jm_icmp_ge F dX5_takeBook_50 (fun c8 => ?_) (fun c8 => ?_)
        · refine jm_iconst F dX5_takeBook_73 kc_0 ?_
          exact jm_zret F dX5_takeBook_74 (Or.inl rfl) (fun h => h)
        · refine jm_iload F dX5_takeBook_53 rfl ?_
          refine jm_iconst F dX5_takeBook_55 kc_m1 ?_
          refine jm_icmp_eq F dX5_takeBook_56 (fun c9 => ?_) (fun c9 => ?_)
          · refine jm_iconst F dX5_takeBook_73 kc_0 ?_
            exact jm_zret F dX5_takeBook_74 (Or.inl rfl) (fun h => h)
          · refine jm_aload_n (i := 0) F dX5_takeBook_59 rfl rfl ?_
            refine jm_getR F dX5_takeBook_60 fl_X5_18 lo_X5 rfl ?_
            refine jm_iload F dX5_takeBook_63 rfl ?_
            refine jm_callV (As := [.int r4.1]) (st := []) (rv := fun r => some (.int r)) (mm := fun _ => r4.2) F dX5_takeBook_65 qX5_113 rfl (lo_T isT_3) rfl (fun r h => kT_bookWithTitle E hE isT_3 h) rfl (Nat.le_of_ble_eq_true rfl) ⟨Nat.le_of_ble_eq_true rfl, Nat.le_of_ble_eq_true rfl⟩ (fun r10 => ?_)
            refine jm_bipush F dX5_takeBook_68 kb_m9 ?_
            refine jm_icmp_eq F dX5_takeBook_70 (fun c11 => ?_) (fun c11 => ?_)
            · refine jm_aload_n (i := 0) F dX5_takeBook_75 rfl rfl ?_
              refine jm_getR F dX5_takeBook_76 fl_X5_18 lo_X5 rfl ?_
              refine jm_iload_n (i := 1) F dX5_takeBook_79 rfl rfl ?_
              refine jm_iload_n (i := 2) F dX5_takeBook_80 rfl rfl ?_
              refine jm_iload_n (i := 3) F dX5_takeBook_81 rfl rfl ?_
              refine jm_iload F dX5_takeBook_82 rfl ?_
              refine jm_callV (As := [.int r1.1, .int r2.1, .int r3.1, .int r4.1]) (st := []) (rv := fun r => some (.int r.1)) (mm := fun r => r.2) F dX5_takeBook_84 qX5_116 rfl (lo_T isT_3) rfl (fun r h => kT_addBook E hE isT_3 h) rfl (Nat.le_of_ble_eq_true rfl) ⟨Nat.le_of_ble_eq_true rfl, Nat.le_of_ble_eq_true rfl⟩ (fun r12 => ?_)
              refine jm_pop F dX5_takeBook_87 rfl ?_
              refine jm_iconst F dX5_takeBook_88 kc_1 ?_
              exact jm_zret F dX5_takeBook_89 (Or.inr rfl) (fun h => h)
            · refine jm_iconst F dX5_takeBook_73 kc_0 ?_
              exact jm_zret F dX5_takeBook_74 (Or.inl rfl) (fun h => h)
  exact G r h hz
theorem dX7_hasBook_0 : jm_d cX7_hasBook 0 (.iload_n 1) 1 1 := ⟨by decide +kernel, rfl⟩
theorem dX7_hasBook_1 : jm_b cX7_hasBook 1 (.ifCond .lt) 4 16 := ⟨15, by decide +kernel, rfl, by decide⟩
theorem dX7_hasBook_16 : jm_d cX7_hasBook 16 (.iconst 0) 1 17 := ⟨by decide +kernel, rfl⟩
theorem dX7_hasBook_17 : jm_d cX7_hasBook 17 (.ireturn) 1 18 := ⟨by decide +kernel, rfl⟩
theorem dX7_hasBook_4 : jm_d cX7_hasBook 4 (.iload_n 1) 1 5 := ⟨by decide +kernel, rfl⟩
theorem dX7_hasBook_5 : jm_d cX7_hasBook 5 (.aload_n 0) 1 6 := ⟨by decide +kernel, rfl⟩
theorem dX7_hasBook_6 : jm_d cX7_hasBook 6 (.getfield 55) 3 9 := ⟨by decide +kernel, rfl⟩
theorem dX7_hasBook_9 : jm_b cX7_hasBook 9 (.if_icmp .ge) 12 16 := ⟨7, by decide +kernel, rfl, by decide⟩
theorem dX7_hasBook_12 : jm_d cX7_hasBook 12 (.iconst 1) 1 13 := ⟨by decide +kernel, rfl⟩
theorem dX7_hasBook_13 : jm_b cX7_hasBook 13 .goto 16 17 := ⟨4, by decide +kernel, rfl, by decide⟩
set_option maxHeartbeats 4000000 in
set_option maxRecDepth 100000 in
theorem kT_hasBook (E : jm_Ev) (hE : jm_dj E jm_LC) {M : jm_M} {t : Nat} {p1 : Int32} (ht : jm_isT t) {r : Int32} (h : sT_hasBook M t p1 = some r) : jm_Ct E jm_LC yX7_hasBook cX7_hasBook 2 (some .boolean) 0 0 [.ref (jm_a E t 0), .int p1] M (some (.int r)) M := by
  refine jm_enter (lv := [some (.ref (jm_a E t 0)), some (.int p1)]) hE (by decide) (Nat.le_of_ble_eq_true rfl) rfl ?_
  intro z w F hz
  have G : jm_G w 0 [some (.ref (jm_a E t 0)), some (.int p1)] [] M (sT_hasBook M t p1) (fun e => z (some (.int e)) M) := by
    unfold sT_hasBook
    refine jm_iload_n (i := 1) F dX7_hasBook_0 rfl rfl ?_
    refine jm_if_lt F dX7_hasBook_1 (fun c1 => ?_) (fun c1 => ?_)
    · refine jm_iconst F dX7_hasBook_16 kc_0 ?_
      exact jm_zret F dX7_hasBook_17 (Or.inl rfl) (fun h => h)
    · refine jm_iload_n (i := 1) F dX7_hasBook_4 rfl rfl ?_
      refine jm_aload_n (i := 0) F dX7_hasBook_5 rfl rfl ?_
      refine jm_getI F dX7_hasBook_6 fl_X7_55 (lo_T ht) rfl ?_
      refine jm_icmp_ge F dX7_hasBook_9 (fun c2 => ?_) (fun c2 => ?_)
      · refine jm_iconst F dX7_hasBook_16 kc_0 ?_
        exact jm_zret F dX7_hasBook_17 (Or.inl rfl) (fun h => h)
      · refine jm_iconst F dX7_hasBook_12 kc_1 ?_
        refine jm_goto F dX7_hasBook_13 ?_
        exact jm_zret F dX7_hasBook_17 (Or.inr rfl) (fun h => h)
  exact G r h hz
theorem dX5_takeReading_0 : jm_d cX5_takeReading 0 (.aload_n 0) 1 1 := ⟨by decide +kernel, rfl⟩
theorem dX5_takeReading_1 : jm_d cX5_takeReading 1 (.iconst 1) 1 2 := ⟨by decide +kernel, rfl⟩
theorem dX5_takeReading_2 : jm_d cX5_takeReading 2 (.invokevirtual 91) 3 5 := ⟨by decide +kernel, rfl⟩
theorem dX5_takeReading_5 : jm_d cX5_takeReading 5 (.istore_n 1) 1 6 := ⟨by decide +kernel, rfl⟩
theorem dX5_takeReading_6 : jm_d cX5_takeReading 6 (.aload_n 0) 1 7 := ⟨by decide +kernel, rfl⟩
theorem dX5_takeReading_7 : jm_d cX5_takeReading 7 (.getfield 18) 3 10 := ⟨by decide +kernel, rfl⟩
theorem dX5_takeReading_10 : jm_d cX5_takeReading 10 (.aload_n 0) 1 11 := ⟨by decide +kernel, rfl⟩
theorem dX5_takeReading_11 : jm_d cX5_takeReading 11 (.invokevirtual 102) 3 14 := ⟨by decide +kernel, rfl⟩
theorem dX5_takeReading_14 : jm_d cX5_takeReading 14 (.invokevirtual 113) 3 17 := ⟨by decide +kernel, rfl⟩
theorem dX5_takeReading_17 : jm_d cX5_takeReading 17 (.istore_n 2) 1 18 := ⟨by decide +kernel, rfl⟩
theorem dX5_takeReading_18 : jm_d cX5_takeReading 18 (.aload_n 0) 1 19 := ⟨by decide +kernel, rfl⟩
theorem dX5_takeReading_19 : jm_d cX5_takeReading 19 (.getfield 18) 3 22 := ⟨by decide +kernel, rfl⟩
theorem dX5_takeReading_22 : jm_d cX5_takeReading 22 (.iload_n 1) 1 23 := ⟨by decide +kernel, rfl⟩
theorem dX5_takeReading_23 : jm_d cX5_takeReading 23 (.invokevirtual 120) 3 26 := ⟨by decide +kernel, rfl⟩
theorem dX5_takeReading_26 : jm_b cX5_takeReading 26 (.ifCond .eq) 29 40 := ⟨14, by decide +kernel, rfl, by decide⟩
theorem dX5_takeReading_40 : jm_d cX5_takeReading 40 (.iconst 0) 1 41 := ⟨by decide +kernel, rfl⟩
theorem dX5_takeReading_41 : jm_d cX5_takeReading 41 (.ireturn) 1 42 := ⟨by decide +kernel, rfl⟩
theorem dX5_takeReading_29 : jm_d cX5_takeReading 29 (.aload_n 0) 1 30 := ⟨by decide +kernel, rfl⟩
theorem dX5_takeReading_30 : jm_d cX5_takeReading 30 (.getfield 18) 3 33 := ⟨by decide +kernel, rfl⟩
theorem dX5_takeReading_33 : jm_d cX5_takeReading 33 (.iload_n 2) 1 34 := ⟨by decide +kernel, rfl⟩
theorem dX5_takeReading_34 : jm_d cX5_takeReading 34 (.invokevirtual 123) 3 37 := ⟨by decide +kernel, rfl⟩
theorem dX5_takeReading_37 : jm_b cX5_takeReading 37 (.ifCond .ne) 40 42 := ⟨5, by decide +kernel, rfl, by decide⟩
theorem dX5_takeReading_42 : jm_d cX5_takeReading 42 (.aload_n 0) 1 43 := ⟨by decide +kernel, rfl⟩
theorem dX5_takeReading_43 : jm_d cX5_takeReading 43 (.getfield 18) 3 46 := ⟨by decide +kernel, rfl⟩
theorem dX5_takeReading_46 : jm_d cX5_takeReading 46 (.getfield 126) 3 49 := ⟨by decide +kernel, rfl⟩
theorem dX5_takeReading_49 : jm_d cX5_takeReading 49 (.iload_n 2) 1 50 := ⟨by decide +kernel, rfl⟩
theorem dX5_takeReading_50 : jm_d cX5_takeReading 50 (.dup2) 1 51 := ⟨by decide +kernel, rfl⟩
theorem dX5_takeReading_51 : jm_d cX5_takeReading 51 (.iaload) 1 52 := ⟨by decide +kernel, rfl⟩
theorem dX5_takeReading_52 : jm_d cX5_takeReading 52 (.iconst 1) 1 53 := ⟨by decide +kernel, rfl⟩
theorem dX5_takeReading_53 : jm_d cX5_takeReading 53 (.iload_n 1) 1 54 := ⟨by decide +kernel, rfl⟩
theorem dX5_takeReading_54 : jm_d cX5_takeReading 54 (.ishl) 1 55 := ⟨by decide +kernel, rfl⟩
theorem dX5_takeReading_55 : jm_d cX5_takeReading 55 (.ior) 1 56 := ⟨by decide +kernel, rfl⟩
theorem dX5_takeReading_56 : jm_d cX5_takeReading 56 (.iastore) 1 57 := ⟨by decide +kernel, rfl⟩
theorem dX5_takeReading_57 : jm_d cX5_takeReading 57 (.iconst 1) 1 58 := ⟨by decide +kernel, rfl⟩
theorem dX5_takeReading_58 : jm_d cX5_takeReading 58 (.ireturn) 1 59 := ⟨by decide +kernel, rfl⟩
set_option maxHeartbeats 4000000 in
set_option maxRecDepth 100000 in
theorem kS_takeReading (E : jm_Ev) (hE : jm_dj E jm_LC) {M : jm_M}  {r : Int32 × jm_M} (h : sS_takeReading M = some r) : jm_Ct E jm_LC yX5_takeReading cX5_takeReading 3 (some .boolean) 2 46 [.ref (jm_a E 14 0)] M (some (.int r.1)) r.2 := by
  refine jm_enter (lv := [some (.ref (jm_a E 14 0)), none, none]) hE (by decide) (Nat.le_of_ble_eq_true rfl) rfl ?_
  intro z w F hz
  have G : jm_G w 0 [some (.ref (jm_a E 14 0)), none, none] [] M (sS_takeReading M) (fun e => z (some (.int e.1)) e.2) := by
    unfold sS_takeReading
    refine jm_aload_n (i := 0) F dX5_takeReading_0 rfl rfl ?_
    refine jm_iconst F dX5_takeReading_1 kc_1 ?_
    refine jm_callV (As := [.int 1]) (st := []) (rv := fun r => some (.int r.1)) (mm := fun r => r.2) F dX5_takeReading_2 qX5_91 rfl lo_X5 rfl (fun r h => kS_takeNumber E hE h) rfl (Nat.le_of_ble_eq_true rfl) ⟨Nat.le_of_ble_eq_true rfl, Nat.le_of_ble_eq_true rfl⟩ (fun r1 => ?_)
    refine jm_istore_n (i := 1) (lv' := [some (.ref (jm_a E 14 0)), some (.int r1.1), none]) F dX5_takeReading_5 rfl (by decide) rfl rfl ?_
    refine jm_aload_n (i := 0) F dX5_takeReading_6 rfl rfl ?_
    refine jm_getR F dX5_takeReading_7 fl_X5_18 lo_X5 rfl ?_
    refine jm_aload_n (i := 0) F dX5_takeReading_10 rfl rfl ?_
    refine jm_callV (As := []) (st := [.ref (jm_a E 3 0)]) (rv := fun r => some (.int r.1)) (mm := fun r => r.2) F dX5_takeReading_11 qX5_102 rfl lo_X5 rfl (fun r h => kS_takeTitle E hE h) rfl (Nat.le_of_ble_eq_true rfl) ⟨Nat.le_of_ble_eq_true rfl, Nat.le_of_ble_eq_true rfl⟩ (fun r2 => ?_)
    refine jm_callV (As := [.int r2.1]) (st := []) (rv := fun r => some (.int r)) (mm := fun _ => r2.2) F dX5_takeReading_14 qX5_113 rfl (lo_T isT_3) rfl (fun r h => kT_bookWithTitle E hE isT_3 h) rfl (Nat.le_of_ble_eq_true rfl) ⟨Nat.le_of_ble_eq_true rfl, Nat.le_of_ble_eq_true rfl⟩ (fun r3 => ?_)
    refine jm_istore_n (i := 2) (lv' := [some (.ref (jm_a E 14 0)), some (.int r1.1), some (.int r3)]) F dX5_takeReading_17 rfl (by decide) rfl rfl ?_
    refine jm_aload_n (i := 0) F dX5_takeReading_18 rfl rfl ?_
    refine jm_getR F dX5_takeReading_19 fl_X5_18 lo_X5 rfl ?_
    refine jm_iload_n (i := 1) F dX5_takeReading_22 rfl rfl ?_
    refine jm_callV (As := [.int r1.1]) (st := []) (rv := fun r => some (.int r)) (mm := fun _ => r2.2) F dX5_takeReading_23 qX5_120 rfl (lo_T isT_3) rfl (fun r h => kT_hasPerson E hE isT_3 h) rfl (Nat.le_of_ble_eq_true rfl) ⟨Nat.le_of_ble_eq_true rfl, Nat.le_of_ble_eq_true rfl⟩ (fun r4 => ?_)
    refine jm_if_eq F dX5_takeReading_26 (fun c5 => ?_) (fun c5 => ?_)
    · refine jm_iconst F dX5_takeReading_40 kc_0 ?_
      exact jm_zret F dX5_takeReading_41 (Or.inl rfl) (fun h => h)
    · refine jm_aload_n (i := 0) F dX5_takeReading_29 rfl rfl ?_
      refine jm_getR F dX5_takeReading_30 fl_X5_18 lo_X5 rfl ?_
      refine jm_iload_n (i := 2) F dX5_takeReading_33 rfl rfl ?_
      refine jm_callV (As := [.int r3]) (st := []) (rv := fun r => some (.int r)) (mm := fun _ => r2.2) F dX5_takeReading_34 qX5_123 rfl (lo_T isT_3) rfl (fun r h => kT_hasBook E hE isT_3 h) rfl (Nat.le_of_ble_eq_true rfl) ⟨Nat.le_of_ble_eq_true rfl, Nat.le_of_ble_eq_true rfl⟩ (fun r6 => ?_)
      refine jm_if_ne F dX5_takeReading_37 (fun c7 => ?_) (fun c7 => ?_)
      · refine jm_iconst F dX5_takeReading_40 kc_0 ?_
        exact jm_zret F dX5_takeReading_41 (Or.inl rfl) (fun h => h)
      · refine jm_aload_n (i := 0) F dX5_takeReading_42 rfl rfl ?_
        refine jm_getR F dX5_takeReading_43 fl_X5_18 lo_X5 rfl ?_
        refine jm_getR F dX5_takeReading_46 fl_X5_126 (lo_T isT_3) rfl ?_
        refine jm_iload_n (i := 2) F dX5_takeReading_49 rfl rfl ?_
        refine jm_dup2 F dX5_takeReading_50 rfl rfl ?_
        refine jm_iald F dX5_takeReading_51 (la_T_10 isT_3) (fun v8 => ?_)
        refine jm_iconst F dX5_takeReading_52 kc_1 ?_
        refine jm_iload_n (i := 1) F dX5_takeReading_53 rfl rfl ?_
        refine jm_ishl F dX5_takeReading_54 ?_
        refine jm_ior F dX5_takeReading_55 ?_
        refine jm_iast F dX5_takeReading_56 (la_T_10 isT_3) (fun M9 => ?_)
        refine jm_iconst F dX5_takeReading_57 kc_1 ?_
        exact jm_zret F dX5_takeReading_58 (Or.inr rfl) (fun h => h)
  exact G r h hz
theorem dX5_takeHolder_0 : jm_d cX5_takeHolder 0 (.aload_n 0) 1 1 := ⟨by decide +kernel, rfl⟩
theorem dX5_takeHolder_1 : jm_d cX5_takeHolder 1 (.iconst 1) 1 2 := ⟨by decide +kernel, rfl⟩
theorem dX5_takeHolder_2 : jm_d cX5_takeHolder 2 (.invokevirtual 91) 3 5 := ⟨by decide +kernel, rfl⟩
theorem dX5_takeHolder_5 : jm_d cX5_takeHolder 5 (.istore_n 1) 1 6 := ⟨by decide +kernel, rfl⟩
theorem dX5_takeHolder_6 : jm_d cX5_takeHolder 6 (.aload_n 0) 1 7 := ⟨by decide +kernel, rfl⟩
theorem dX5_takeHolder_7 : jm_d cX5_takeHolder 7 (.getfield 18) 3 10 := ⟨by decide +kernel, rfl⟩
theorem dX5_takeHolder_10 : jm_d cX5_takeHolder 10 (.aload_n 0) 1 11 := ⟨by decide +kernel, rfl⟩
theorem dX5_takeHolder_11 : jm_d cX5_takeHolder 11 (.invokevirtual 102) 3 14 := ⟨by decide +kernel, rfl⟩
theorem dX5_takeHolder_14 : jm_d cX5_takeHolder 14 (.invokevirtual 113) 3 17 := ⟨by decide +kernel, rfl⟩
theorem dX5_takeHolder_17 : jm_d cX5_takeHolder 17 (.istore_n 2) 1 18 := ⟨by decide +kernel, rfl⟩
theorem dX5_takeHolder_18 : jm_d cX5_takeHolder 18 (.aload_n 0) 1 19 := ⟨by decide +kernel, rfl⟩
theorem dX5_takeHolder_19 : jm_d cX5_takeHolder 19 (.getfield 18) 3 22 := ⟨by decide +kernel, rfl⟩
theorem dX5_takeHolder_22 : jm_d cX5_takeHolder 22 (.iload_n 1) 1 23 := ⟨by decide +kernel, rfl⟩
theorem dX5_takeHolder_23 : jm_d cX5_takeHolder 23 (.invokevirtual 105) 3 26 := ⟨by decide +kernel, rfl⟩
theorem dX5_takeHolder_26 : jm_b cX5_takeHolder 26 (.ifCond .eq) 29 40 := ⟨14, by decide +kernel, rfl, by decide⟩
theorem dX5_takeHolder_40 : jm_d cX5_takeHolder 40 (.iconst 0) 1 41 := ⟨by decide +kernel, rfl⟩
theorem dX5_takeHolder_41 : jm_d cX5_takeHolder 41 (.ireturn) 1 42 := ⟨by decide +kernel, rfl⟩
theorem dX5_takeHolder_29 : jm_d cX5_takeHolder 29 (.aload_n 0) 1 30 := ⟨by decide +kernel, rfl⟩
theorem dX5_takeHolder_30 : jm_d cX5_takeHolder 30 (.getfield 18) 3 33 := ⟨by decide +kernel, rfl⟩
theorem dX5_takeHolder_33 : jm_d cX5_takeHolder 33 (.iload_n 2) 1 34 := ⟨by decide +kernel, rfl⟩
theorem dX5_takeHolder_34 : jm_d cX5_takeHolder 34 (.invokevirtual 123) 3 37 := ⟨by decide +kernel, rfl⟩
theorem dX5_takeHolder_37 : jm_b cX5_takeHolder 37 (.ifCond .ne) 40 42 := ⟨5, by decide +kernel, rfl, by decide⟩
theorem dX5_takeHolder_42 : jm_d cX5_takeHolder 42 (.aload_n 0) 1 43 := ⟨by decide +kernel, rfl⟩
theorem dX5_takeHolder_43 : jm_d cX5_takeHolder 43 (.getfield 18) 3 46 := ⟨by decide +kernel, rfl⟩
theorem dX5_takeHolder_46 : jm_d cX5_takeHolder 46 (.getfield 129) 3 49 := ⟨by decide +kernel, rfl⟩
theorem dX5_takeHolder_49 : jm_d cX5_takeHolder 49 (.iload_n 2) 1 50 := ⟨by decide +kernel, rfl⟩
theorem dX5_takeHolder_50 : jm_d cX5_takeHolder 50 (.iload_n 1) 1 51 := ⟨by decide +kernel, rfl⟩
theorem dX5_takeHolder_51 : jm_d cX5_takeHolder 51 (.iastore) 1 52 := ⟨by decide +kernel, rfl⟩
theorem dX5_takeHolder_52 : jm_d cX5_takeHolder 52 (.iconst 1) 1 53 := ⟨by decide +kernel, rfl⟩
theorem dX5_takeHolder_53 : jm_d cX5_takeHolder 53 (.ireturn) 1 54 := ⟨by decide +kernel, rfl⟩
set_option maxHeartbeats 4000000 in
set_option maxRecDepth 100000 in
theorem kS_takeHolder (E : jm_Ev) (hE : jm_dj E jm_LC) {M : jm_M}  {r : Int32 × jm_M} (h : sS_takeHolder M = some r) : jm_Ct E jm_LC yX5_takeHolder cX5_takeHolder 3 (some .boolean) 2 46 [.ref (jm_a E 14 0)] M (some (.int r.1)) r.2 := by
  refine jm_enter (lv := [some (.ref (jm_a E 14 0)), none, none]) hE (by decide) (Nat.le_of_ble_eq_true rfl) rfl ?_
  intro z w F hz
  have G : jm_G w 0 [some (.ref (jm_a E 14 0)), none, none] [] M (sS_takeHolder M) (fun e => z (some (.int e.1)) e.2) := by
    unfold sS_takeHolder
    refine jm_aload_n (i := 0) F dX5_takeHolder_0 rfl rfl ?_
    refine jm_iconst F dX5_takeHolder_1 kc_1 ?_
    refine jm_callV (As := [.int 1]) (st := []) (rv := fun r => some (.int r.1)) (mm := fun r => r.2) F dX5_takeHolder_2 qX5_91 rfl lo_X5 rfl (fun r h => kS_takeNumber E hE h) rfl (Nat.le_of_ble_eq_true rfl) ⟨Nat.le_of_ble_eq_true rfl, Nat.le_of_ble_eq_true rfl⟩ (fun r1 => ?_)
    refine jm_istore_n (i := 1) (lv' := [some (.ref (jm_a E 14 0)), some (.int r1.1), none]) F dX5_takeHolder_5 rfl (by decide) rfl rfl ?_
    refine jm_aload_n (i := 0) F dX5_takeHolder_6 rfl rfl ?_
    refine jm_getR F dX5_takeHolder_7 fl_X5_18 lo_X5 rfl ?_
    refine jm_aload_n (i := 0) F dX5_takeHolder_10 rfl rfl ?_
    refine jm_callV (As := []) (st := [.ref (jm_a E 3 0)]) (rv := fun r => some (.int r.1)) (mm := fun r => r.2) F dX5_takeHolder_11 qX5_102 rfl lo_X5 rfl (fun r h => kS_takeTitle E hE h) rfl (Nat.le_of_ble_eq_true rfl) ⟨Nat.le_of_ble_eq_true rfl, Nat.le_of_ble_eq_true rfl⟩ (fun r2 => ?_)
    refine jm_callV (As := [.int r2.1]) (st := []) (rv := fun r => some (.int r)) (mm := fun _ => r2.2) F dX5_takeHolder_14 qX5_113 rfl (lo_T isT_3) rfl (fun r h => kT_bookWithTitle E hE isT_3 h) rfl (Nat.le_of_ble_eq_true rfl) ⟨Nat.le_of_ble_eq_true rfl, Nat.le_of_ble_eq_true rfl⟩ (fun r3 => ?_)
    refine jm_istore_n (i := 2) (lv' := [some (.ref (jm_a E 14 0)), some (.int r1.1), some (.int r3)]) F dX5_takeHolder_17 rfl (by decide) rfl rfl ?_
    refine jm_aload_n (i := 0) F dX5_takeHolder_18 rfl rfl ?_
    refine jm_getR F dX5_takeHolder_19 fl_X5_18 lo_X5 rfl ?_
    refine jm_iload_n (i := 1) F dX5_takeHolder_22 rfl rfl ?_
    refine jm_callV (As := [.int r1.1]) (st := []) (rv := fun r => some (.int r)) (mm := fun _ => r2.2) F dX5_takeHolder_23 qX5_105 rfl (lo_T isT_3) rfl (fun r h => kT_hasKeeper E hE isT_3 h) rfl (Nat.le_of_ble_eq_true rfl) ⟨Nat.le_of_ble_eq_true rfl, Nat.le_of_ble_eq_true rfl⟩ (fun r4 => ?_)
    refine jm_if_eq F dX5_takeHolder_26 (fun c5 => ?_) (fun c5 => ?_)
    · refine jm_iconst F dX5_takeHolder_40 kc_0 ?_
      exact jm_zret F dX5_takeHolder_41 (Or.inl rfl) (fun h => h)
    · refine jm_aload_n (i := 0) F dX5_takeHolder_29 rfl rfl ?_
      refine jm_getR F dX5_takeHolder_30 fl_X5_18 lo_X5 rfl ?_
      refine jm_iload_n (i := 2) F dX5_takeHolder_33 rfl rfl ?_
      refine jm_callV (As := [.int r3]) (st := []) (rv := fun r => some (.int r)) (mm := fun _ => r2.2) F dX5_takeHolder_34 qX5_123 rfl (lo_T isT_3) rfl (fun r h => kT_hasBook E hE isT_3 h) rfl (Nat.le_of_ble_eq_true rfl) ⟨Nat.le_of_ble_eq_true rfl, Nat.le_of_ble_eq_true rfl⟩ (fun r6 => ?_)
      refine jm_if_ne F dX5_takeHolder_37 (fun c7 => ?_) (fun c7 => ?_)
      · refine jm_iconst F dX5_takeHolder_40 kc_0 ?_
        exact jm_zret F dX5_takeHolder_41 (Or.inl rfl) (fun h => h)
      · refine jm_aload_n (i := 0) F dX5_takeHolder_42 rfl rfl ?_
        refine jm_getR F dX5_takeHolder_43 fl_X5_18 lo_X5 rfl ?_
        refine jm_getR F dX5_takeHolder_46 fl_X5_129 (lo_T isT_3) rfl ?_
        refine jm_iload_n (i := 2) F dX5_takeHolder_49 rfl rfl ?_
        refine jm_iload_n (i := 1) F dX5_takeHolder_50 rfl rfl ?_
        refine jm_iast F dX5_takeHolder_51 (la_T_9 isT_3) (fun M8 => ?_)
        refine jm_iconst F dX5_takeHolder_52 kc_1 ?_
        exact jm_zret F dX5_takeHolder_53 (Or.inr rfl) (fun h => h)
  exact G r h hz
theorem dX7_addStep_0 : jm_d cX7_addStep 0 (.aload_n 0) 1 1 := ⟨by decide +kernel, rfl⟩
theorem dX7_addStep_1 : jm_d cX7_addStep 1 (.getfield 61) 3 4 := ⟨by decide +kernel, rfl⟩
theorem dX7_addStep_4 : jm_d cX7_addStep 4 (.bipush 6) 2 6 := ⟨by decide +kernel, rfl⟩
theorem dX7_addStep_6 : jm_b cX7_addStep 6 (.if_icmp .ge) 9 39 := ⟨33, by decide +kernel, rfl, by decide⟩
theorem dX7_addStep_39 : jm_d cX7_addStep 39 (.return_) 1 40 := ⟨by decide +kernel, rfl⟩
theorem dX7_addStep_9 : jm_d cX7_addStep 9 (.aload_n 0) 1 10 := ⟨by decide +kernel, rfl⟩
theorem dX7_addStep_10 : jm_d cX7_addStep 10 (.getfield 39) 3 13 := ⟨by decide +kernel, rfl⟩
theorem dX7_addStep_13 : jm_d cX7_addStep 13 (.aload_n 0) 1 14 := ⟨by decide +kernel, rfl⟩
theorem dX7_addStep_14 : jm_d cX7_addStep 14 (.getfield 61) 3 17 := ⟨by decide +kernel, rfl⟩
theorem dX7_addStep_17 : jm_d cX7_addStep 17 (.iload_n 1) 1 18 := ⟨by decide +kernel, rfl⟩
theorem dX7_addStep_18 : jm_d cX7_addStep 18 (.iastore) 1 19 := ⟨by decide +kernel, rfl⟩
theorem dX7_addStep_19 : jm_d cX7_addStep 19 (.aload_n 0) 1 20 := ⟨by decide +kernel, rfl⟩
theorem dX7_addStep_20 : jm_d cX7_addStep 20 (.getfield 42) 3 23 := ⟨by decide +kernel, rfl⟩
theorem dX7_addStep_23 : jm_d cX7_addStep 23 (.aload_n 0) 1 24 := ⟨by decide +kernel, rfl⟩
theorem dX7_addStep_24 : jm_d cX7_addStep 24 (.getfield 61) 3 27 := ⟨by decide +kernel, rfl⟩
theorem dX7_addStep_27 : jm_d cX7_addStep 27 (.iload_n 2) 1 28 := ⟨by decide +kernel, rfl⟩
theorem dX7_addStep_28 : jm_d cX7_addStep 28 (.iastore) 1 29 := ⟨by decide +kernel, rfl⟩
theorem dX7_addStep_29 : jm_d cX7_addStep 29 (.aload_n 0) 1 30 := ⟨by decide +kernel, rfl⟩
theorem dX7_addStep_30 : jm_d cX7_addStep 30 (.dup) 1 31 := ⟨by decide +kernel, rfl⟩
theorem dX7_addStep_31 : jm_d cX7_addStep 31 (.getfield 61) 3 34 := ⟨by decide +kernel, rfl⟩
theorem dX7_addStep_34 : jm_d cX7_addStep 34 (.iconst 1) 1 35 := ⟨by decide +kernel, rfl⟩
theorem dX7_addStep_35 : jm_d cX7_addStep 35 (.iadd) 1 36 := ⟨by decide +kernel, rfl⟩
theorem dX7_addStep_36 : jm_d cX7_addStep 36 (.putfield 61) 3 39 := ⟨by decide +kernel, rfl⟩
set_option maxHeartbeats 4000000 in
set_option maxRecDepth 100000 in
theorem kT_addStep (E : jm_Ev) (hE : jm_dj E jm_LC) {M : jm_M} {t : Nat} {p1 : Int32} {p2 : Int32} (ht : jm_isT t) {r : jm_M} (h : sT_addStep M t p1 p2 = some r) : jm_Ct E jm_LC yX7_addStep cX7_addStep 3 none 0 0 [.ref (jm_a E t 0), .int p1, .int p2] M none r := by
  refine jm_enter (lv := [some (.ref (jm_a E t 0)), some (.int p1), some (.int p2)]) hE (by decide) (Nat.le_of_ble_eq_true rfl) rfl ?_
  intro z w F hz
  have G : jm_G w 0 [some (.ref (jm_a E t 0)), some (.int p1), some (.int p2)] [] M (sT_addStep M t p1 p2) (fun e => z none e) := by
    unfold sT_addStep
    refine jm_aload_n (i := 0) F dX7_addStep_0 rfl rfl ?_
    refine jm_getI F dX7_addStep_1 fl_X7_61 (lo_T ht) rfl ?_
    refine jm_bipush F dX7_addStep_4 kb_6 ?_
    refine jm_icmp_ge F dX7_addStep_6 (fun c1 => ?_) (fun c1 => ?_)
    · exact jm_vret F dX7_addStep_39 (fun h => h)
    · refine jm_aload_n (i := 0) F dX7_addStep_9 rfl rfl ?_
      refine jm_getR F dX7_addStep_10 fl_X7_39 (lo_T ht) rfl ?_
      refine jm_aload_n (i := 0) F dX7_addStep_13 rfl rfl ?_
      refine jm_getI F dX7_addStep_14 fl_X7_61 (lo_T ht) rfl ?_
      refine jm_iload_n (i := 1) F dX7_addStep_17 rfl rfl ?_
      refine jm_iast F dX7_addStep_18 (la_T_14 ht) (fun M2 => ?_)
      refine jm_aload_n (i := 0) F dX7_addStep_19 rfl rfl ?_
      refine jm_getR F dX7_addStep_20 fl_X7_42 (lo_T ht) rfl ?_
      refine jm_aload_n (i := 0) F dX7_addStep_23 rfl rfl ?_
      refine jm_getI F dX7_addStep_24 fl_X7_61 (lo_T ht) rfl ?_
      refine jm_iload_n (i := 2) F dX7_addStep_27 rfl rfl ?_
      refine jm_iast F dX7_addStep_28 (la_T_15 ht) (fun M3 => ?_)
      refine jm_aload_n (i := 0) F dX7_addStep_29 rfl rfl ?_
      refine jm_dup F dX7_addStep_30 rfl ?_
      refine jm_getI F dX7_addStep_31 fl_X7_61 (lo_T ht) rfl ?_
      refine jm_iconst F dX7_addStep_34 kc_1 ?_
      refine jm_iadd F dX7_addStep_35 ?_
      refine jm_putI F dX7_addStep_36 fp_X7_61 (lo_T ht) rfl (fun M4 => ?_)
      exact jm_vret F dX7_addStep_39 (fun h => h)
  exact G r h hz
theorem dX5_takeLaw_0 : jm_d cX5_takeLaw 0 (.aload_n 0) 1 1 := ⟨by decide +kernel, rfl⟩
theorem dX5_takeLaw_1 : jm_d cX5_takeLaw 1 (.getfield 18) 3 4 := ⟨by decide +kernel, rfl⟩
theorem dX5_takeLaw_4 : jm_d cX5_takeLaw 4 (.iconst 0) 1 5 := ⟨by decide +kernel, rfl⟩
theorem dX5_takeLaw_5 : jm_d cX5_takeLaw 5 (.putfield 132) 3 8 := ⟨by decide +kernel, rfl⟩
theorem dX5_takeLaw_8 : jm_d cX5_takeLaw 8 (.iconst 0) 1 9 := ⟨by decide +kernel, rfl⟩
theorem dX5_takeLaw_9 : jm_d cX5_takeLaw 9 (.istore_n 1) 1 10 := ⟨by decide +kernel, rfl⟩
theorem dX5_takeLaw_10 : jm_d cX5_takeLaw 10 (.iconst 0) 1 11 := ⟨by decide +kernel, rfl⟩
theorem dX5_takeLaw_11 : jm_d cX5_takeLaw 11 (.istore_n 2) 1 12 := ⟨by decide +kernel, rfl⟩
theorem dX5_takeLaw_12 : jm_d cX5_takeLaw 12 (.iload_n 2) 1 13 := ⟨by decide +kernel, rfl⟩
theorem dX5_takeLaw_13 : jm_d cX5_takeLaw 13 (.bipush 96) 2 15 := ⟨by decide +kernel, rfl⟩
theorem dX5_takeLaw_15 : jm_b cX5_takeLaw 15 (.if_icmp .ge) 18 77 := ⟨62, by decide +kernel, rfl, by decide⟩
theorem dX5_takeLaw_18 : jm_d cX5_takeLaw 18 (.aload_n 0) 1 19 := ⟨by decide +kernel, rfl⟩
theorem dX5_takeLaw_19 : jm_d cX5_takeLaw 19 (.invokevirtual 37) 3 22 := ⟨by decide +kernel, rfl⟩
theorem dX5_takeLaw_22 : jm_d cX5_takeLaw 22 (.bipush 59) 2 24 := ⟨by decide +kernel, rfl⟩
theorem dX5_takeLaw_24 : jm_b cX5_takeLaw 24 (.if_icmp .eq) 27 77 := ⟨53, by decide +kernel, rfl, by decide⟩
theorem dX5_takeLaw_27 : jm_d cX5_takeLaw 27 (.aload_n 0) 1 28 := ⟨by decide +kernel, rfl⟩
theorem dX5_takeLaw_28 : jm_d cX5_takeLaw 28 (.invokevirtual 63) 3 31 := ⟨by decide +kernel, rfl⟩
theorem dX5_takeLaw_31 : jm_d cX5_takeLaw 31 (.istore_n 3) 1 32 := ⟨by decide +kernel, rfl⟩
theorem dX5_takeLaw_32 : jm_d cX5_takeLaw 32 (.aload_n 0) 1 33 := ⟨by decide +kernel, rfl⟩
theorem dX5_takeLaw_33 : jm_d cX5_takeLaw 33 (.dup) 1 34 := ⟨by decide +kernel, rfl⟩
theorem dX5_takeLaw_34 : jm_d cX5_takeLaw 34 (.getfield 30) 3 37 := ⟨by decide +kernel, rfl⟩
theorem dX5_takeLaw_37 : jm_d cX5_takeLaw 37 (.iconst 1) 1 38 := ⟨by decide +kernel, rfl⟩
theorem dX5_takeLaw_38 : jm_d cX5_takeLaw 38 (.iadd) 1 39 := ⟨by decide +kernel, rfl⟩
theorem dX5_takeLaw_39 : jm_d cX5_takeLaw 39 (.putfield 30) 3 42 := ⟨by decide +kernel, rfl⟩
theorem dX5_takeLaw_42 : jm_d cX5_takeLaw 42 (.iload_n 3) 1 43 := ⟨by decide +kernel, rfl⟩
theorem dX5_takeLaw_43 : jm_d cX5_takeLaw 43 (.iconst 4) 1 44 := ⟨by decide +kernel, rfl⟩
theorem dX5_takeLaw_44 : jm_b cX5_takeLaw 44 (.if_icmp .ge) 47 55 := ⟨11, by decide +kernel, rfl, by decide⟩
theorem dX5_takeLaw_55 : jm_d cX5_takeLaw 55 (.iconst 0) 1 56 := ⟨by decide +kernel, rfl⟩
theorem dX5_takeLaw_47 : jm_d cX5_takeLaw 47 (.aload_n 0) 1 48 := ⟨by decide +kernel, rfl⟩
theorem dX5_takeLaw_48 : jm_d cX5_takeLaw 48 (.iconst 2) 1 49 := ⟨by decide +kernel, rfl⟩
theorem dX5_takeLaw_49 : jm_d cX5_takeLaw 49 (.invokevirtual 91) 3 52 := ⟨by decide +kernel, rfl⟩
theorem dX5_takeLaw_52 : jm_b cX5_takeLaw 52 .goto 55 56 := ⟨4, by decide +kernel, rfl, by decide⟩
theorem dX5_takeLaw_56 : jm_d cX5_takeLaw 56 (.istore 4) 2 58 := ⟨by decide +kernel, rfl⟩
theorem dX5_takeLaw_58 : jm_d cX5_takeLaw 58 (.aload_n 0) 1 59 := ⟨by decide +kernel, rfl⟩
theorem dX5_takeLaw_59 : jm_d cX5_takeLaw 59 (.getfield 18) 3 62 := ⟨by decide +kernel, rfl⟩
theorem dX5_takeLaw_62 : jm_d cX5_takeLaw 62 (.iload_n 3) 1 63 := ⟨by decide +kernel, rfl⟩
theorem dX5_takeLaw_63 : jm_d cX5_takeLaw 63 (.iload 4) 2 65 := ⟨by decide +kernel, rfl⟩
theorem dX5_takeLaw_65 : jm_d cX5_takeLaw 65 (.invokevirtual 135) 3 68 := ⟨by decide +kernel, rfl⟩
theorem dX5_takeLaw_68 : jm_d cX5_takeLaw 68 (.iinc 1 1) 3 71 := ⟨by decide +kernel, rfl⟩
theorem dX5_takeLaw_71 : jm_d cX5_takeLaw 71 (.iinc 2 1) 3 74 := ⟨by decide +kernel, rfl⟩
theorem dX5_takeLaw_74 : jm_b cX5_takeLaw 74 .goto 77 12 := ⟨(-62), by decide +kernel, rfl, by decide⟩
theorem dX5_takeLaw_77 : jm_d cX5_takeLaw 77 (.iload_n 1) 1 78 := ⟨by decide +kernel, rfl⟩
theorem dX5_takeLaw_78 : jm_d cX5_takeLaw 78 (.bipush 6) 2 80 := ⟨by decide +kernel, rfl⟩
theorem dX5_takeLaw_80 : jm_b cX5_takeLaw 80 (.if_icmp .gt) 83 87 := ⟨7, by decide +kernel, rfl, by decide⟩
theorem dX5_takeLaw_87 : jm_d cX5_takeLaw 87 (.iconst 0) 1 88 := ⟨by decide +kernel, rfl⟩
theorem dX5_takeLaw_88 : jm_d cX5_takeLaw 88 (.ireturn) 1 89 := ⟨by decide +kernel, rfl⟩
theorem dX5_takeLaw_83 : jm_d cX5_takeLaw 83 (.iconst 1) 1 84 := ⟨by decide +kernel, rfl⟩
theorem dX5_takeLaw_84 : jm_b cX5_takeLaw 84 .goto 87 88 := ⟨4, by decide +kernel, rfl, by decide⟩
set_option maxHeartbeats 4000000 in
set_option maxRecDepth 100000 in
theorem kS_takeLaw (E : jm_Ev) (hE : jm_dj E jm_LC) {M : jm_M}  {r : Int32 × jm_M} (h : sS_takeLaw M = some r) : jm_Ct E jm_LC yX5_takeLaw cX5_takeLaw 5 (some .boolean) 2 43 [.ref (jm_a E 14 0)] M (some (.int r.1)) r.2 := by
  refine jm_enter (lv := [some (.ref (jm_a E 14 0)), none, none, none, none]) hE (by decide) (Nat.le_of_ble_eq_true rfl) rfl ?_
  intro z w F hz
  have G : jm_G w 0 [some (.ref (jm_a E 14 0)), none, none, none, none] [] M (sS_takeLaw M) (fun e => z (some (.int e.1)) e.2) := by
    unfold sS_takeLaw
    refine jm_aload_n (i := 0) F dX5_takeLaw_0 rfl rfl ?_
    refine jm_getR F dX5_takeLaw_1 fl_X5_18 lo_X5 rfl ?_
    refine jm_iconst F dX5_takeLaw_4 kc_0 ?_
    refine jm_putI F dX5_takeLaw_5 fp_X5_132 (lo_T isT_3) rfl (fun M1 => ?_)
    refine jm_iconst F dX5_takeLaw_8 kc_0 ?_
    refine jm_istore_n (i := 1) (lv' := [some (.ref (jm_a E 14 0)), some (.int 0), none, none, none]) F dX5_takeLaw_9 rfl (by decide) rfl rfl ?_
    refine jm_iconst F dX5_takeLaw_10 kc_0 ?_
    refine jm_istore_n (i := 2) (lv' := [some (.ref (jm_a E 14 0)), some (.int 0), some (.int 0), none, none]) F dX5_takeLaw_11 rfl (by decide) rfl rfl ?_
    refine jm_bind (pcJ := 77) (lvJ := fun e12 => [none, some (.int e12.1), none, none, none]) (stJ := fun _ => []) (MJ := fun e12 => e12.2) ?_ (fun e12 => ?_)
    · refine jm_weak F (lv' := [some (.ref (jm_a E 14 0)), some (.int 0), some (.int 0), none, none]) ⟨rfl, rfl, rfl, trivial⟩ ?_
      refine jm_loopR (lvH := fun s2 => [some (.ref (jm_a E 14 0)), some (.int s2.1), some (.int s2.2.1), none, none]) (MH := fun s2 => s2.2.2) (fun s2 => ?_) jm_N (0, 0, M1)
      unfold sS_takeLaw_L12
      refine jm_iload_n (i := 2) F dX5_takeLaw_12 rfl rfl ?_
      refine jm_bipush F dX5_takeLaw_13 kb_96 ?_
      refine jm_icmp_ge F dX5_takeLaw_15 (fun c3 => ?_) (fun c3 => ?_)
      · exact jm_weakD F (lv' := [none, some (.int s2.1), none, none, none]) ⟨rfl, trivial⟩ (fun h => h)
      · refine jm_aload_n (i := 0) F dX5_takeLaw_18 rfl rfl ?_
        refine jm_callV (As := []) (st := []) (rv := fun r => some (.int r)) (mm := fun _ => s2.2.2) F dX5_takeLaw_19 qX5_37 rfl lo_X5 rfl (fun r h => kS_here E hE h) rfl (Nat.le_of_ble_eq_true rfl) ⟨Nat.le_of_ble_eq_true rfl, Nat.le_of_ble_eq_true rfl⟩ (fun r4 => ?_)
        refine jm_bipush F dX5_takeLaw_22 kb_59 ?_
        refine jm_icmp_eq F dX5_takeLaw_24 (fun c5 => ?_) (fun c5 => ?_)
        · exact jm_weakD F (lv' := [none, some (.int s2.1), none, none, none]) ⟨rfl, trivial⟩ (fun h => h)
        · refine jm_aload_n (i := 0) F dX5_takeLaw_27 rfl rfl ?_
          refine jm_callV (As := []) (st := []) (rv := fun r => some (.int r)) (mm := fun _ => s2.2.2) F dX5_takeLaw_28 qX5_63 rfl lo_X5 rfl (fun r h => kS_stepHere E hE h) rfl (Nat.le_of_ble_eq_true rfl) ⟨Nat.le_of_ble_eq_true rfl, Nat.le_of_ble_eq_true rfl⟩ (fun r6 => ?_)
          refine jm_istore_n (i := 3) (lv' := [some (.ref (jm_a E 14 0)), some (.int s2.1), some (.int s2.2.1), some (.int r6), none]) F dX5_takeLaw_31 rfl (by decide) rfl rfl ?_
          refine jm_aload_n (i := 0) F dX5_takeLaw_32 rfl rfl ?_
          refine jm_dup F dX5_takeLaw_33 rfl ?_
          refine jm_getI F dX5_takeLaw_34 fl_X5_30 lo_X5 rfl ?_
          refine jm_iconst F dX5_takeLaw_37 kc_1 ?_
          refine jm_iadd F dX5_takeLaw_38 ?_
          refine jm_putI F dX5_takeLaw_39 fp_X5_30 lo_X5 rfl (fun M7 => ?_)
          refine jm_iload_n (i := 3) F dX5_takeLaw_42 rfl rfl ?_
          refine jm_iconst F dX5_takeLaw_43 kc_4 ?_
          refine jm_bind (pcJ := 56) (lvJ := fun e8 => [some (.ref (jm_a E 14 0)), some (.int s2.1), some (.int s2.2.1), some (.int r6), none]) (stJ := fun e8 => [.int e8.1]) (MJ := fun e8 => e8.2) ?_ (fun e8 => ?_)
          · refine jm_icmp_ge F dX5_takeLaw_44 (fun c9 => ?_) (fun c9 => ?_)
            · refine jm_iconst F dX5_takeLaw_55 kc_0 ?_
              exact jm_weakD F (lv' := [some (.ref (jm_a E 14 0)), some (.int s2.1), some (.int s2.2.1), some (.int r6), none]) ⟨rfl, rfl, rfl, rfl, trivial⟩ (fun h => h)
            · refine jm_aload_n (i := 0) F dX5_takeLaw_47 rfl rfl ?_
              refine jm_iconst F dX5_takeLaw_48 kc_2 ?_
              refine jm_callV (As := [.int 2]) (st := []) (rv := fun r => some (.int r.1)) (mm := fun r => r.2) F dX5_takeLaw_49 qX5_91 rfl lo_X5 rfl (fun r h => kS_takeNumber E hE h) rfl (Nat.le_of_ble_eq_true rfl) ⟨Nat.le_of_ble_eq_true rfl, Nat.le_of_ble_eq_true rfl⟩ (fun r10 => ?_)
              refine jm_goto F dX5_takeLaw_52 ?_
              exact jm_weakD F (lv' := [some (.ref (jm_a E 14 0)), some (.int s2.1), some (.int s2.2.1), some (.int r6), none]) ⟨rfl, rfl, rfl, rfl, trivial⟩ (fun h => h)
          · refine jm_istore (i := 4) (lv' := [some (.ref (jm_a E 14 0)), some (.int s2.1), some (.int s2.2.1), some (.int r6), some (.int e8.1)]) F dX5_takeLaw_56 (by decide) rfl rfl ?_
            refine jm_aload_n (i := 0) F dX5_takeLaw_58 rfl rfl ?_
            refine jm_getR F dX5_takeLaw_59 fl_X5_18 lo_X5 rfl ?_
            refine jm_iload_n (i := 3) F dX5_takeLaw_62 rfl rfl ?_
            refine jm_iload F dX5_takeLaw_63 rfl ?_
            refine jm_callV (As := [.int r6, .int e8.1]) (st := []) (rv := fun _ => none) (mm := fun r => r) F dX5_takeLaw_65 qX5_135 rfl (lo_T isT_3) rfl (fun r h => kT_addStep E hE isT_3 h) rfl (Nat.le_of_ble_eq_true rfl) ⟨Nat.le_of_ble_eq_true rfl, Nat.le_of_ble_eq_true rfl⟩ (fun r11 => ?_)
            refine jm_iinc (i := 1) (lv' := [some (.ref (jm_a E 14 0)), some (.int (s2.1 + 1)), some (.int s2.2.1), some (.int r6), some (.int e8.1)]) F dX5_takeLaw_68 kc_1 rfl (by decide) rfl rfl ?_
            refine jm_iinc (i := 2) (lv' := [some (.ref (jm_a E 14 0)), some (.int (s2.1 + 1)), some (.int (s2.2.1 + 1)), some (.int r6), some (.int e8.1)]) F dX5_takeLaw_71 kc_1 rfl (by decide) rfl rfl ?_
            refine jm_goto F dX5_takeLaw_74 ?_
            exact jm_weakD F (lv' := [some (.ref (jm_a E 14 0)), some (.int (s2.1 + 1)), some (.int (s2.2.1 + 1)), none, none]) ⟨rfl, rfl, rfl, trivial⟩ (fun h => h)
    · refine jm_iload_n (i := 1) F dX5_takeLaw_77 rfl rfl ?_
      refine jm_bipush F dX5_takeLaw_78 kb_6 ?_
      refine jm_icmp_gt F dX5_takeLaw_80 (fun c13 => ?_) (fun c13 => ?_)
      · refine jm_iconst F dX5_takeLaw_87 kc_0 ?_
        exact jm_zret F dX5_takeLaw_88 (Or.inl rfl) (fun h => h)
      · refine jm_iconst F dX5_takeLaw_83 kc_1 ?_
        refine jm_goto F dX5_takeLaw_84 ?_
        exact jm_zret F dX5_takeLaw_88 (Or.inr rfl) (fun h => h)
  exact G r h hz
theorem dX7_hasRead_0 : jm_d cX7_hasRead 0 (.aload_n 0) 1 1 := ⟨by decide +kernel, rfl⟩
theorem dX7_hasRead_1 : jm_d cX7_hasRead 1 (.getfield 33) 3 4 := ⟨by decide +kernel, rfl⟩
theorem dX7_hasRead_4 : jm_d cX7_hasRead 4 (.iload_n 2) 1 5 := ⟨by decide +kernel, rfl⟩
theorem dX7_hasRead_5 : jm_d cX7_hasRead 5 (.iaload) 1 6 := ⟨by decide +kernel, rfl⟩
theorem dX7_hasRead_6 : jm_d cX7_hasRead 6 (.iload_n 1) 1 7 := ⟨by decide +kernel, rfl⟩
theorem dX7_hasRead_7 : jm_d cX7_hasRead 7 (.ishr) 1 8 := ⟨by decide +kernel, rfl⟩
theorem dX7_hasRead_8 : jm_d cX7_hasRead 8 (.iconst 1) 1 9 := ⟨by decide +kernel, rfl⟩
theorem dX7_hasRead_9 : jm_d cX7_hasRead 9 (.iand) 1 10 := ⟨by decide +kernel, rfl⟩
theorem dX7_hasRead_10 : jm_d cX7_hasRead 10 (.ireturn) 1 11 := ⟨by decide +kernel, rfl⟩
set_option maxHeartbeats 4000000 in
set_option maxRecDepth 100000 in
theorem kT_hasRead (E : jm_Ev) (hE : jm_dj E jm_LC) {M : jm_M} {t : Nat} {p1 : Int32} {p2 : Int32} (ht : jm_isT t) {r : Int32} (h : sT_hasRead M t p1 p2 = some r) : jm_Ct E jm_LC yX7_hasRead cX7_hasRead 3 (some .int) 0 0 [.ref (jm_a E t 0), .int p1, .int p2] M (some (.int r)) M := by
  refine jm_enter (lv := [some (.ref (jm_a E t 0)), some (.int p1), some (.int p2)]) hE (by decide) (Nat.le_of_ble_eq_true rfl) rfl ?_
  intro z w F hz
  have G : jm_G w 0 [some (.ref (jm_a E t 0)), some (.int p1), some (.int p2)] [] M (sT_hasRead M t p1 p2) (fun e => z (some (.int e)) M) := by
    unfold sT_hasRead
    refine jm_aload_n (i := 0) F dX7_hasRead_0 rfl rfl ?_
    refine jm_getR F dX7_hasRead_1 fl_X7_33 (lo_T ht) rfl ?_
    refine jm_iload_n (i := 2) F dX7_hasRead_4 rfl rfl ?_
    refine jm_iald F dX7_hasRead_5 (la_T_10 ht) (fun v1 => ?_)
    refine jm_iload_n (i := 1) F dX7_hasRead_6 rfl rfl ?_
    refine jm_ishr F dX7_hasRead_7 ?_
    refine jm_iconst F dX7_hasRead_8 kc_1 ?_
    refine jm_iand F dX7_hasRead_9 ?_
    exact jm_iret F dX7_hasRead_10 (fun h => h)
  exact G r h hz
theorem dX7_readNext_0 : jm_d cX7_readNext 0 (.bipush (-9)) 2 2 := ⟨by decide +kernel, rfl⟩
theorem dX7_readNext_2 : jm_d cX7_readNext 2 (.istore_n 2) 1 3 := ⟨by decide +kernel, rfl⟩
theorem dX7_readNext_3 : jm_d cX7_readNext 3 (.iconst 0) 1 4 := ⟨by decide +kernel, rfl⟩
theorem dX7_readNext_4 : jm_d cX7_readNext 4 (.istore_n 3) 1 5 := ⟨by decide +kernel, rfl⟩
theorem dX7_readNext_5 : jm_d cX7_readNext 5 (.iload_n 3) 1 6 := ⟨by decide +kernel, rfl⟩
theorem dX7_readNext_6 : jm_d cX7_readNext 6 (.aload_n 0) 1 7 := ⟨by decide +kernel, rfl⟩
theorem dX7_readNext_7 : jm_d cX7_readNext 7 (.getfield 55) 3 10 := ⟨by decide +kernel, rfl⟩
theorem dX7_readNext_10 : jm_b cX7_readNext 10 (.if_icmp .ge) 13 61 := ⟨51, by decide +kernel, rfl, by decide⟩
theorem dX7_readNext_13 : jm_d cX7_readNext 13 (.aload_n 0) 1 14 := ⟨by decide +kernel, rfl⟩
theorem dX7_readNext_14 : jm_d cX7_readNext 14 (.getfield 30) 3 17 := ⟨by decide +kernel, rfl⟩
theorem dX7_readNext_17 : jm_d cX7_readNext 17 (.iload_n 3) 1 18 := ⟨by decide +kernel, rfl⟩
theorem dX7_readNext_18 : jm_d cX7_readNext 18 (.iaload) 1 19 := ⟨by decide +kernel, rfl⟩
theorem dX7_readNext_19 : jm_d cX7_readNext 19 (.iload_n 1) 1 20 := ⟨by decide +kernel, rfl⟩
theorem dX7_readNext_20 : jm_b cX7_readNext 20 (.if_icmp .ne) 23 55 := ⟨35, by decide +kernel, rfl, by decide⟩
theorem dX7_readNext_23 : jm_d cX7_readNext 23 (.aload_n 0) 1 24 := ⟨by decide +kernel, rfl⟩
theorem dX7_readNext_24 : jm_d cX7_readNext 24 (.iload_n 1) 1 25 := ⟨by decide +kernel, rfl⟩
theorem dX7_readNext_25 : jm_d cX7_readNext 25 (.iload_n 3) 1 26 := ⟨by decide +kernel, rfl⟩
theorem dX7_readNext_26 : jm_d cX7_readNext 26 (.invokevirtual 85) 3 29 := ⟨by decide +kernel, rfl⟩
theorem dX7_readNext_29 : jm_b cX7_readNext 29 (.ifCond .ne) 32 55 := ⟨26, by decide +kernel, rfl, by decide⟩
theorem dX7_readNext_32 : jm_d cX7_readNext 32 (.iload_n 2) 1 33 := ⟨by decide +kernel, rfl⟩
theorem dX7_readNext_33 : jm_d cX7_readNext 33 (.bipush (-9)) 2 35 := ⟨by decide +kernel, rfl⟩
theorem dX7_readNext_35 : jm_b cX7_readNext 35 (.if_icmp .eq) 38 53 := ⟨18, by decide +kernel, rfl, by decide⟩
theorem dX7_readNext_53 : jm_d cX7_readNext 53 (.iload_n 3) 1 54 := ⟨by decide +kernel, rfl⟩
theorem dX7_readNext_54 : jm_d cX7_readNext 54 (.istore_n 2) 1 55 := ⟨by decide +kernel, rfl⟩
theorem dX7_readNext_55 : jm_d cX7_readNext 55 (.iinc 3 1) 3 58 := ⟨by decide +kernel, rfl⟩
theorem dX7_readNext_58 : jm_b cX7_readNext 58 .goto 61 5 := ⟨(-53), by decide +kernel, rfl, by decide⟩
theorem dX7_readNext_38 : jm_d cX7_readNext 38 (.aload_n 0) 1 39 := ⟨by decide +kernel, rfl⟩
theorem dX7_readNext_39 : jm_d cX7_readNext 39 (.getfield 36) 3 42 := ⟨by decide +kernel, rfl⟩
theorem dX7_readNext_42 : jm_d cX7_readNext 42 (.iload_n 3) 1 43 := ⟨by decide +kernel, rfl⟩
theorem dX7_readNext_43 : jm_d cX7_readNext 43 (.iaload) 1 44 := ⟨by decide +kernel, rfl⟩
theorem dX7_readNext_44 : jm_d cX7_readNext 44 (.aload_n 0) 1 45 := ⟨by decide +kernel, rfl⟩
theorem dX7_readNext_45 : jm_d cX7_readNext 45 (.getfield 36) 3 48 := ⟨by decide +kernel, rfl⟩
theorem dX7_readNext_48 : jm_d cX7_readNext 48 (.iload_n 2) 1 49 := ⟨by decide +kernel, rfl⟩
theorem dX7_readNext_49 : jm_d cX7_readNext 49 (.iaload) 1 50 := ⟨by decide +kernel, rfl⟩
theorem dX7_readNext_50 : jm_b cX7_readNext 50 (.if_icmp .ge) 53 55 := ⟨5, by decide +kernel, rfl, by decide⟩
theorem dX7_readNext_61 : jm_d cX7_readNext 61 (.iload_n 2) 1 62 := ⟨by decide +kernel, rfl⟩
theorem dX7_readNext_62 : jm_d cX7_readNext 62 (.bipush (-9)) 2 64 := ⟨by decide +kernel, rfl⟩
theorem dX7_readNext_64 : jm_b cX7_readNext 64 (.if_icmp .eq) 67 91 := ⟨27, by decide +kernel, rfl, by decide⟩
theorem dX7_readNext_91 : jm_d cX7_readNext 91 (.return_) 1 92 := ⟨by decide +kernel, rfl⟩
theorem dX7_readNext_67 : jm_d cX7_readNext 67 (.aload_n 0) 1 68 := ⟨by decide +kernel, rfl⟩
theorem dX7_readNext_68 : jm_d cX7_readNext 68 (.getfield 33) 3 71 := ⟨by decide +kernel, rfl⟩
theorem dX7_readNext_71 : jm_d cX7_readNext 71 (.iload_n 2) 1 72 := ⟨by decide +kernel, rfl⟩
theorem dX7_readNext_72 : jm_d cX7_readNext 72 (.dup2) 1 73 := ⟨by decide +kernel, rfl⟩
theorem dX7_readNext_73 : jm_d cX7_readNext 73 (.iaload) 1 74 := ⟨by decide +kernel, rfl⟩
theorem dX7_readNext_74 : jm_d cX7_readNext 74 (.iconst 1) 1 75 := ⟨by decide +kernel, rfl⟩
theorem dX7_readNext_75 : jm_d cX7_readNext 75 (.iload_n 1) 1 76 := ⟨by decide +kernel, rfl⟩
theorem dX7_readNext_76 : jm_d cX7_readNext 76 (.ishl) 1 77 := ⟨by decide +kernel, rfl⟩
theorem dX7_readNext_77 : jm_d cX7_readNext 77 (.ior) 1 78 := ⟨by decide +kernel, rfl⟩
theorem dX7_readNext_78 : jm_d cX7_readNext 78 (.iastore) 1 79 := ⟨by decide +kernel, rfl⟩
theorem dX7_readNext_79 : jm_d cX7_readNext 79 (.aload_n 0) 1 80 := ⟨by decide +kernel, rfl⟩
theorem dX7_readNext_80 : jm_d cX7_readNext 80 (.getfield 30) 3 83 := ⟨by decide +kernel, rfl⟩
theorem dX7_readNext_83 : jm_d cX7_readNext 83 (.iload_n 2) 1 84 := ⟨by decide +kernel, rfl⟩
theorem dX7_readNext_84 : jm_d cX7_readNext 84 (.aload_n 0) 1 85 := ⟨by decide +kernel, rfl⟩
theorem dX7_readNext_85 : jm_d cX7_readNext 85 (.getfield 27) 3 88 := ⟨by decide +kernel, rfl⟩
theorem dX7_readNext_88 : jm_d cX7_readNext 88 (.iload_n 2) 1 89 := ⟨by decide +kernel, rfl⟩
theorem dX7_readNext_89 : jm_d cX7_readNext 89 (.iaload) 1 90 := ⟨by decide +kernel, rfl⟩
theorem dX7_readNext_90 : jm_d cX7_readNext 90 (.iastore) 1 91 := ⟨by decide +kernel, rfl⟩
set_option maxHeartbeats 4000000 in
set_option maxRecDepth 100000 in
theorem kT_readNext (E : jm_Ev) (hE : jm_dj E jm_LC) {M : jm_M} {t : Nat} {p1 : Int32} (ht : jm_isT t) {r : jm_M} (h : sT_readNext M t p1 = some r) : jm_Ct E jm_LC yX7_readNext cX7_readNext 4 none 1 22 [.ref (jm_a E t 0), .int p1] M none r := by
  refine jm_enter (lv := [some (.ref (jm_a E t 0)), some (.int p1), none, none]) hE (by decide) (Nat.le_of_ble_eq_true rfl) rfl ?_
  intro z w F hz
  have G : jm_G w 0 [some (.ref (jm_a E t 0)), some (.int p1), none, none] [] M (sT_readNext M t p1) (fun e => z none e) := by
    unfold sT_readNext
    refine jm_bipush F dX7_readNext_0 kb_m9 ?_
    refine jm_istore_n (i := 2) (lv' := [some (.ref (jm_a E t 0)), some (.int p1), some (.int (-9)), none]) F dX7_readNext_2 rfl (by decide) rfl rfl ?_
    refine jm_iconst F dX7_readNext_3 kc_0 ?_
    refine jm_istore_n (i := 3) (lv' := [some (.ref (jm_a E t 0)), some (.int p1), some (.int (-9)), some (.int 0)]) F dX7_readNext_4 rfl (by decide) rfl rfl ?_
    refine jm_bind (pcJ := 61) (lvJ := fun e11 => [some (.ref (jm_a E t 0)), some (.int p1), some (.int e11), none]) (stJ := fun _ => []) (MJ := fun e11 => M) ?_ (fun e11 => ?_)
    · refine jm_weak F (lv' := [some (.ref (jm_a E t 0)), some (.int p1), some (.int (-9)), some (.int 0)]) ⟨rfl, rfl, rfl, rfl, trivial⟩ ?_
      refine jm_loopR (lvH := fun s1 => [some (.ref (jm_a E t 0)), some (.int p1), some (.int s1.1), some (.int s1.2)]) (MH := fun s1 => M) (fun s1 => ?_) jm_N ((-9), 0)
      unfold sT_readNext_L5
      refine jm_iload_n (i := 3) F dX7_readNext_5 rfl rfl ?_
      refine jm_aload_n (i := 0) F dX7_readNext_6 rfl rfl ?_
      refine jm_getI F dX7_readNext_7 fl_X7_55 (lo_T ht) rfl ?_
      refine jm_icmp_ge F dX7_readNext_10 (fun c2 => ?_) (fun c2 => ?_)
      · exact jm_weakD F (lv' := [some (.ref (jm_a E t 0)), some (.int p1), some (.int s1.1), none]) ⟨rfl, rfl, rfl, trivial⟩ (fun h => h)
      · refine jm_aload_n (i := 0) F dX7_readNext_13 rfl rfl ?_
        refine jm_getR F dX7_readNext_14 fl_X7_30 (lo_T ht) rfl ?_
        refine jm_iload_n (i := 3) F dX7_readNext_17 rfl rfl ?_
        refine jm_iald F dX7_readNext_18 (la_T_9 ht) (fun v3 => ?_)
        refine jm_iload_n (i := 1) F dX7_readNext_19 rfl rfl ?_
        refine jm_icmp_ne F dX7_readNext_20 (fun c4 => ?_) (fun c4 => ?_)
        · refine jm_aload_n (i := 0) F dX7_readNext_23 rfl rfl ?_
          refine jm_iload_n (i := 1) F dX7_readNext_24 rfl rfl ?_
          refine jm_iload_n (i := 3) F dX7_readNext_25 rfl rfl ?_
          refine jm_callV (As := [.int p1, .int s1.2]) (st := []) (rv := fun r => some (.int r)) (mm := fun _ => M) F dX7_readNext_26 qX7_85 rfl (lo_T ht) rfl (fun r h => kT_hasRead E hE ht h) rfl (Nat.le_of_ble_eq_true rfl) ⟨Nat.le_of_ble_eq_true rfl, Nat.le_of_ble_eq_true rfl⟩ (fun r5 => ?_)
          refine jm_if_ne F dX7_readNext_29 (fun c6 => ?_) (fun c6 => ?_)
          · refine jm_iload_n (i := 2) F dX7_readNext_32 rfl rfl ?_
            refine jm_bipush F dX7_readNext_33 kb_m9 ?_
            refine jm_icmp_eq F dX7_readNext_35 (fun c7 => ?_) (fun c7 => ?_)
            · refine jm_iload_n (i := 3) F dX7_readNext_53 rfl rfl ?_
              refine jm_istore_n (i := 2) (lv' := [some (.ref (jm_a E t 0)), some (.int p1), some (.int s1.2), some (.int s1.2)]) F dX7_readNext_54 rfl (by decide) rfl rfl ?_
              refine jm_iinc (i := 3) (lv' := [some (.ref (jm_a E t 0)), some (.int p1), some (.int s1.2), some (.int (s1.2 + 1))]) F dX7_readNext_55 kc_1 rfl (by decide) rfl rfl ?_
              refine jm_goto F dX7_readNext_58 ?_
              exact jm_weakD F (lv' := [some (.ref (jm_a E t 0)), some (.int p1), some (.int s1.2), some (.int (s1.2 + 1))]) ⟨rfl, rfl, rfl, rfl, trivial⟩ (fun h => h)
            · refine jm_aload_n (i := 0) F dX7_readNext_38 rfl rfl ?_
              refine jm_getR F dX7_readNext_39 fl_X7_36 (lo_T ht) rfl ?_
              refine jm_iload_n (i := 3) F dX7_readNext_42 rfl rfl ?_
              refine jm_iald F dX7_readNext_43 (la_T_11 ht) (fun v8 => ?_)
              refine jm_aload_n (i := 0) F dX7_readNext_44 rfl rfl ?_
              refine jm_getR F dX7_readNext_45 fl_X7_36 (lo_T ht) rfl ?_
              refine jm_iload_n (i := 2) F dX7_readNext_48 rfl rfl ?_
              refine jm_iald F dX7_readNext_49 (la_T_11 ht) (fun v9 => ?_)
              refine jm_icmp_ge F dX7_readNext_50 (fun c10 => ?_) (fun c10 => ?_)
              · refine jm_iinc (i := 3) (lv' := [some (.ref (jm_a E t 0)), some (.int p1), some (.int s1.1), some (.int (s1.2 + 1))]) F dX7_readNext_55 kc_1 rfl (by decide) rfl rfl ?_
                refine jm_goto F dX7_readNext_58 ?_
                exact jm_weakD F (lv' := [some (.ref (jm_a E t 0)), some (.int p1), some (.int s1.1), some (.int (s1.2 + 1))]) ⟨rfl, rfl, rfl, rfl, trivial⟩ (fun h => h)
              · refine jm_iload_n (i := 3) F dX7_readNext_53 rfl rfl ?_
                refine jm_istore_n (i := 2) (lv' := [some (.ref (jm_a E t 0)), some (.int p1), some (.int s1.2), some (.int s1.2)]) F dX7_readNext_54 rfl (by decide) rfl rfl ?_
                refine jm_iinc (i := 3) (lv' := [some (.ref (jm_a E t 0)), some (.int p1), some (.int s1.2), some (.int (s1.2 + 1))]) F dX7_readNext_55 kc_1 rfl (by decide) rfl rfl ?_
                refine jm_goto F dX7_readNext_58 ?_
                exact jm_weakD F (lv' := [some (.ref (jm_a E t 0)), some (.int p1), some (.int s1.2), some (.int (s1.2 + 1))]) ⟨rfl, rfl, rfl, rfl, trivial⟩ (fun h => h)
          · refine jm_iinc (i := 3) (lv' := [some (.ref (jm_a E t 0)), some (.int p1), some (.int s1.1), some (.int (s1.2 + 1))]) F dX7_readNext_55 kc_1 rfl (by decide) rfl rfl ?_
            refine jm_goto F dX7_readNext_58 ?_
            exact jm_weakD F (lv' := [some (.ref (jm_a E t 0)), some (.int p1), some (.int s1.1), some (.int (s1.2 + 1))]) ⟨rfl, rfl, rfl, rfl, trivial⟩ (fun h => h)
        · refine jm_iinc (i := 3) (lv' := [some (.ref (jm_a E t 0)), some (.int p1), some (.int s1.1), some (.int (s1.2 + 1))]) F dX7_readNext_55 kc_1 rfl (by decide) rfl rfl ?_
          refine jm_goto F dX7_readNext_58 ?_
          exact jm_weakD F (lv' := [some (.ref (jm_a E t 0)), some (.int p1), some (.int s1.1), some (.int (s1.2 + 1))]) ⟨rfl, rfl, rfl, rfl, trivial⟩ (fun h => h)
    · refine jm_iload_n (i := 2) F dX7_readNext_61 rfl rfl ?_
      refine jm_bipush F dX7_readNext_62 kb_m9 ?_
      refine jm_icmp_eq F dX7_readNext_64 (fun c12 => ?_) (fun c12 => ?_)
      · exact jm_vret F dX7_readNext_91 (fun h => h)
      · refine jm_aload_n (i := 0) F dX7_readNext_67 rfl rfl ?_
        refine jm_getR F dX7_readNext_68 fl_X7_33 (lo_T ht) rfl ?_
        refine jm_iload_n (i := 2) F dX7_readNext_71 rfl rfl ?_
        refine jm_dup2 F dX7_readNext_72 rfl rfl ?_
        refine jm_iald F dX7_readNext_73 (la_T_10 ht) (fun v13 => ?_)
        refine jm_iconst F dX7_readNext_74 kc_1 ?_
        refine jm_iload_n (i := 1) F dX7_readNext_75 rfl rfl ?_
        refine jm_ishl F dX7_readNext_76 ?_
        refine jm_ior F dX7_readNext_77 ?_
        refine jm_iast F dX7_readNext_78 (la_T_10 ht) (fun M14 => ?_)
        refine jm_aload_n (i := 0) F dX7_readNext_79 rfl rfl ?_
        refine jm_getR F dX7_readNext_80 fl_X7_30 (lo_T ht) rfl ?_
        refine jm_iload_n (i := 2) F dX7_readNext_83 rfl rfl ?_
        refine jm_aload_n (i := 0) F dX7_readNext_84 rfl rfl ?_
        refine jm_getR F dX7_readNext_85 fl_X7_27 (lo_T ht) rfl ?_
        refine jm_iload_n (i := 2) F dX7_readNext_88 rfl rfl ?_
        refine jm_iald F dX7_readNext_89 (la_T_8 ht) (fun v15 => ?_)
        refine jm_iast F dX7_readNext_90 (la_T_9 ht) (fun M16 => ?_)
        exact jm_vret F dX7_readNext_91 (fun h => h)
  exact G r h hz
theorem dX7_weekPasses_0 : jm_d cX7_weekPasses 0 (.aload_n 0) 1 1 := ⟨by decide +kernel, rfl⟩
theorem dX7_weekPasses_1 : jm_d cX7_weekPasses 1 (.dup) 1 2 := ⟨by decide +kernel, rfl⟩
theorem dX7_weekPasses_2 : jm_d cX7_weekPasses 2 (.getfield 58) 3 5 := ⟨by decide +kernel, rfl⟩
theorem dX7_weekPasses_5 : jm_d cX7_weekPasses 5 (.iconst 1) 1 6 := ⟨by decide +kernel, rfl⟩
theorem dX7_weekPasses_6 : jm_d cX7_weekPasses 6 (.iadd) 1 7 := ⟨by decide +kernel, rfl⟩
theorem dX7_weekPasses_7 : jm_d cX7_weekPasses 7 (.putfield 58) 3 10 := ⟨by decide +kernel, rfl⟩
theorem dX7_weekPasses_10 : jm_d cX7_weekPasses 10 (.iconst 0) 1 11 := ⟨by decide +kernel, rfl⟩
theorem dX7_weekPasses_11 : jm_d cX7_weekPasses 11 (.istore_n 2) 1 12 := ⟨by decide +kernel, rfl⟩
theorem dX7_weekPasses_12 : jm_d cX7_weekPasses 12 (.iload_n 2) 1 13 := ⟨by decide +kernel, rfl⟩
theorem dX7_weekPasses_13 : jm_d cX7_weekPasses 13 (.aload_n 0) 1 14 := ⟨by decide +kernel, rfl⟩
theorem dX7_weekPasses_14 : jm_d cX7_weekPasses 14 (.getfield 45) 3 17 := ⟨by decide +kernel, rfl⟩
theorem dX7_weekPasses_17 : jm_b cX7_weekPasses 17 (.if_icmp .ge) 20 76 := ⟨59, by decide +kernel, rfl, by decide⟩
theorem dX7_weekPasses_20 : jm_d cX7_weekPasses 20 (.aload_n 0) 1 21 := ⟨by decide +kernel, rfl⟩
theorem dX7_weekPasses_21 : jm_d cX7_weekPasses 21 (.getfield 15) 3 24 := ⟨by decide +kernel, rfl⟩
theorem dX7_weekPasses_24 : jm_d cX7_weekPasses 24 (.iload_n 2) 1 25 := ⟨by decide +kernel, rfl⟩
theorem dX7_weekPasses_25 : jm_d cX7_weekPasses 25 (.iaload) 1 26 := ⟨by decide +kernel, rfl⟩
theorem dX7_weekPasses_26 : jm_d cX7_weekPasses 26 (.iconst 2) 1 27 := ⟨by decide +kernel, rfl⟩
theorem dX7_weekPasses_27 : jm_d cX7_weekPasses 27 (.iadd) 1 28 := ⟨by decide +kernel, rfl⟩
theorem dX7_weekPasses_28 : jm_d cX7_weekPasses 28 (.istore_n 3) 1 29 := ⟨by decide +kernel, rfl⟩
theorem dX7_weekPasses_29 : jm_d cX7_weekPasses 29 (.iload_n 3) 1 30 := ⟨by decide +kernel, rfl⟩
theorem dX7_weekPasses_30 : jm_b cX7_weekPasses 30 (.ifCond .le) 33 61 := ⟨31, by decide +kernel, rfl, by decide⟩
theorem dX7_weekPasses_33 : jm_d cX7_weekPasses 33 (.aload_n 0) 1 34 := ⟨by decide +kernel, rfl⟩
theorem dX7_weekPasses_34 : jm_d cX7_weekPasses 34 (.getfield 58) 3 37 := ⟨by decide +kernel, rfl⟩
theorem dX7_weekPasses_37 : jm_d cX7_weekPasses 37 (.iload_n 3) 1 38 := ⟨by decide +kernel, rfl⟩
theorem dX7_weekPasses_38 : jm_d cX7_weekPasses 38 (.irem) 1 39 := ⟨by decide +kernel, rfl⟩
theorem dX7_weekPasses_39 : jm_b cX7_weekPasses 39 (.ifCond .ne) 42 61 := ⟨22, by decide +kernel, rfl, by decide⟩
theorem dX7_weekPasses_42 : jm_d cX7_weekPasses 42 (.aload_n 0) 1 43 := ⟨by decide +kernel, rfl⟩
theorem dX7_weekPasses_43 : jm_d cX7_weekPasses 43 (.getfield 9) 3 46 := ⟨by decide +kernel, rfl⟩
theorem dX7_weekPasses_46 : jm_d cX7_weekPasses 46 (.iload_n 2) 1 47 := ⟨by decide +kernel, rfl⟩
theorem dX7_weekPasses_47 : jm_d cX7_weekPasses 47 (.bipush 99) 2 49 := ⟨by decide +kernel, rfl⟩
theorem dX7_weekPasses_49 : jm_d cX7_weekPasses 49 (.aload_n 0) 1 50 := ⟨by decide +kernel, rfl⟩
theorem dX7_weekPasses_50 : jm_d cX7_weekPasses 50 (.getfield 9) 3 53 := ⟨by decide +kernel, rfl⟩
theorem dX7_weekPasses_53 : jm_d cX7_weekPasses 53 (.iload_n 2) 1 54 := ⟨by decide +kernel, rfl⟩
theorem dX7_weekPasses_54 : jm_d cX7_weekPasses 54 (.iaload) 1 55 := ⟨by decide +kernel, rfl⟩
theorem dX7_weekPasses_55 : jm_d cX7_weekPasses 55 (.iconst 1) 1 56 := ⟨by decide +kernel, rfl⟩
theorem dX7_weekPasses_56 : jm_d cX7_weekPasses 56 (.iadd) 1 57 := ⟨by decide +kernel, rfl⟩
theorem dX7_weekPasses_57 : jm_d cX7_weekPasses 57 (.invokestatic 95) 3 60 := ⟨by decide +kernel, rfl⟩
theorem dX7_weekPasses_60 : jm_d cX7_weekPasses 60 (.iastore) 1 61 := ⟨by decide +kernel, rfl⟩
theorem dX7_weekPasses_61 : jm_d cX7_weekPasses 61 (.iload_n 1) 1 62 := ⟨by decide +kernel, rfl⟩
theorem dX7_weekPasses_62 : jm_b cX7_weekPasses 62 (.ifCond .eq) 65 70 := ⟨8, by decide +kernel, rfl, by decide⟩
theorem dX7_weekPasses_70 : jm_d cX7_weekPasses 70 (.iinc 2 1) 3 73 := ⟨by decide +kernel, rfl⟩
theorem dX7_weekPasses_73 : jm_b cX7_weekPasses 73 .goto 76 12 := ⟨(-61), by decide +kernel, rfl, by decide⟩
theorem dX7_weekPasses_65 : jm_d cX7_weekPasses 65 (.aload_n 0) 1 66 := ⟨by decide +kernel, rfl⟩
theorem dX7_weekPasses_66 : jm_d cX7_weekPasses 66 (.iload_n 2) 1 67 := ⟨by decide +kernel, rfl⟩
theorem dX7_weekPasses_67 : jm_d cX7_weekPasses 67 (.invokevirtual 119) 3 70 := ⟨by decide +kernel, rfl⟩
theorem dX7_weekPasses_76 : jm_d cX7_weekPasses 76 (.return_) 1 77 := ⟨by decide +kernel, rfl⟩
set_option maxHeartbeats 4000000 in
set_option maxRecDepth 100000 in
theorem kT_weekPasses (E : jm_Ev) (hE : jm_dj E jm_LC) {M : jm_M} {t : Nat} {p1 : Int32} (ht : jm_isT t) {r : jm_M} (h : sT_weekPasses M t p1 = some r) : jm_Ct E jm_LC yX7_weekPasses cX7_weekPasses 4 none 2 45 [.ref (jm_a E t 0), .int p1] M none r := by
  refine jm_enter (lv := [some (.ref (jm_a E t 0)), some (.int p1), none, none]) hE (by decide) (Nat.le_of_ble_eq_true rfl) rfl ?_
  intro z w F hz
  have G : jm_G w 0 [some (.ref (jm_a E t 0)), some (.int p1), none, none] [] M (sT_weekPasses M t p1) (fun e => z none e) := by
    unfold sT_weekPasses
    refine jm_aload_n (i := 0) F dX7_weekPasses_0 rfl rfl ?_
    refine jm_dup F dX7_weekPasses_1 rfl ?_
    refine jm_getI F dX7_weekPasses_2 fl_X7_58 (lo_T ht) rfl ?_
    refine jm_iconst F dX7_weekPasses_5 kc_1 ?_
    refine jm_iadd F dX7_weekPasses_6 ?_
    refine jm_putI F dX7_weekPasses_7 fp_X7_58 (lo_T ht) rfl (fun M1 => ?_)
    refine jm_iconst F dX7_weekPasses_10 kc_0 ?_
    refine jm_istore_n (i := 2) (lv' := [some (.ref (jm_a E t 0)), some (.int p1), some (.int 0), none]) F dX7_weekPasses_11 rfl (by decide) rfl rfl ?_
    refine jm_bind (pcJ := 76) (lvJ := fun e14 => [none, none, none, none]) (stJ := fun _ => []) (MJ := fun e14 => e14) ?_ (fun e14 => ?_)
    · refine jm_weak F (lv' := [some (.ref (jm_a E t 0)), some (.int p1), some (.int 0), none]) ⟨rfl, rfl, rfl, trivial⟩ ?_
      refine jm_loopR (lvH := fun s2 => [some (.ref (jm_a E t 0)), some (.int p1), some (.int s2.1), none]) (MH := fun s2 => s2.2) (fun s2 => ?_) jm_N (0, M1)
      unfold sT_weekPasses_L12
      refine jm_iload_n (i := 2) F dX7_weekPasses_12 rfl rfl ?_
      refine jm_aload_n (i := 0) F dX7_weekPasses_13 rfl rfl ?_
      refine jm_getI F dX7_weekPasses_14 fl_X7_45 (lo_T ht) rfl ?_
      refine jm_icmp_ge F dX7_weekPasses_17 (fun c3 => ?_) (fun c3 => ?_)
      · exact jm_weakD F (lv' := [none, none, none, none]) trivial (fun h => h)
      · refine jm_aload_n (i := 0) F dX7_weekPasses_20 rfl rfl ?_
        refine jm_getR F dX7_weekPasses_21 fl_X7_15 (lo_T ht) rfl ?_
        refine jm_iload_n (i := 2) F dX7_weekPasses_24 rfl rfl ?_
        refine jm_iald F dX7_weekPasses_25 (la_T_3 ht) (fun v4 => ?_)
        refine jm_iconst F dX7_weekPasses_26 kc_2 ?_
        refine jm_iadd F dX7_weekPasses_27 ?_
        refine jm_nameI (f := fun x5 => [.int x5]) (fun x5 => ?_) rfl
        refine jm_istore_n (i := 3) (lv' := [some (.ref (jm_a E t 0)), some (.int p1), some (.int s2.1), some (.int x5)]) F dX7_weekPasses_28 rfl (by decide) rfl rfl ?_
        refine jm_iload_n (i := 3) F dX7_weekPasses_29 rfl rfl ?_
        refine jm_bind (pcJ := 61) (lvJ := fun e6 => [some (.ref (jm_a E t 0)), some (.int p1), some (.int s2.1), none]) (stJ := fun e6 => []) (MJ := fun e6 => e6) ?_ (fun e6 => ?_)
        · refine jm_if_le F dX7_weekPasses_30 (fun c7 => ?_) (fun c7 => ?_)
          · exact jm_weakD F (lv' := [some (.ref (jm_a E t 0)), some (.int p1), some (.int s2.1), none]) ⟨rfl, rfl, rfl, trivial⟩ (fun h => h)
          · refine jm_aload_n (i := 0) F dX7_weekPasses_33 rfl rfl ?_
            refine jm_getI F dX7_weekPasses_34 fl_X7_58 (lo_T ht) rfl ?_
            refine jm_iload_n (i := 3) F dX7_weekPasses_37 rfl rfl ?_
            refine jm_irem F dX7_weekPasses_38 (fun v8 => ?_)
            refine jm_if_ne F dX7_weekPasses_39 (fun c9 => ?_) (fun c9 => ?_)
            · refine jm_aload_n (i := 0) F dX7_weekPasses_42 rfl rfl ?_
              refine jm_getR F dX7_weekPasses_43 fl_X7_9 (lo_T ht) rfl ?_
              refine jm_iload_n (i := 2) F dX7_weekPasses_46 rfl rfl ?_
              refine jm_bipush F dX7_weekPasses_47 kb_99 ?_
              refine jm_aload_n (i := 0) F dX7_weekPasses_49 rfl rfl ?_
              refine jm_getR F dX7_weekPasses_50 fl_X7_9 (lo_T ht) rfl ?_
              refine jm_iload_n (i := 2) F dX7_weekPasses_53 rfl rfl ?_
              refine jm_iald F dX7_weekPasses_54 (la_T_2 ht) (fun v10 => ?_)
              refine jm_iconst F dX7_weekPasses_55 kc_1 ?_
              refine jm_iadd F dX7_weekPasses_56 ?_
              refine jm_mmin F dX7_weekPasses_57 tw_484 tw_485 tw_92 tw_486 ⟨Nat.le_of_ble_eq_true rfl, Nat.le_of_ble_eq_true rfl⟩ ?_
              refine jm_iast F dX7_weekPasses_60 (la_T_2 ht) (fun M11 => ?_)
              exact jm_weakD F (lv' := [some (.ref (jm_a E t 0)), some (.int p1), some (.int s2.1), none]) ⟨rfl, rfl, rfl, trivial⟩ (fun h => h)
            · exact jm_weakD F (lv' := [some (.ref (jm_a E t 0)), some (.int p1), some (.int s2.1), none]) ⟨rfl, rfl, rfl, trivial⟩ (fun h => h)
        · refine jm_iload_n (i := 1) F dX7_weekPasses_61 rfl rfl ?_
          refine jm_if_eq F dX7_weekPasses_62 (fun c12 => ?_) (fun c12 => ?_)
          · refine jm_iinc (i := 2) (lv' := [some (.ref (jm_a E t 0)), some (.int p1), some (.int (s2.1 + 1)), none]) F dX7_weekPasses_70 kc_1 rfl (by decide) rfl rfl ?_
            refine jm_goto F dX7_weekPasses_73 ?_
            exact jm_weakD F (lv' := [some (.ref (jm_a E t 0)), some (.int p1), some (.int (s2.1 + 1)), none]) ⟨rfl, rfl, rfl, trivial⟩ (fun h => h)
          · refine jm_aload_n (i := 0) F dX7_weekPasses_65 rfl rfl ?_
            refine jm_iload_n (i := 2) F dX7_weekPasses_66 rfl rfl ?_
            refine jm_callV (As := [.int s2.1]) (st := []) (rv := fun _ => none) (mm := fun r => r) F dX7_weekPasses_67 qX7_119 rfl (lo_T ht) rfl (fun r h => kT_readNext E hE ht h) rfl (Nat.le_of_ble_eq_true rfl) ⟨Nat.le_of_ble_eq_true rfl, Nat.le_of_ble_eq_true rfl⟩ (fun r13 => ?_)
            refine jm_iinc (i := 2) (lv' := [some (.ref (jm_a E t 0)), some (.int p1), some (.int (s2.1 + 1)), none]) F dX7_weekPasses_70 kc_1 rfl (by decide) rfl rfl ?_
            refine jm_goto F dX7_weekPasses_73 ?_
            exact jm_weakD F (lv' := [some (.ref (jm_a E t 0)), some (.int p1), some (.int (s2.1 + 1)), none]) ⟨rfl, rfl, rfl, trivial⟩ (fun h => h)
    · exact jm_vret F dX7_weekPasses_76 (fun h => h)
  exact G r h hz
theorem dX7_weeksPass_0 : jm_d cX7_weeksPass 0 (.iconst 0) 1 1 := ⟨by decide +kernel, rfl⟩
theorem dX7_weeksPass_1 : jm_d cX7_weeksPass 1 (.istore_n 2) 1 2 := ⟨by decide +kernel, rfl⟩
theorem dX7_weeksPass_2 : jm_d cX7_weeksPass 2 (.iload_n 2) 1 3 := ⟨by decide +kernel, rfl⟩
theorem dX7_weeksPass_3 : jm_d cX7_weeksPass 3 (.iload_n 1) 1 4 := ⟨by decide +kernel, rfl⟩
theorem dX7_weeksPass_4 : jm_b cX7_weeksPass 4 (.if_icmp .ge) 7 18 := ⟨14, by decide +kernel, rfl, by decide⟩
theorem dX7_weeksPass_7 : jm_d cX7_weeksPass 7 (.aload_n 0) 1 8 := ⟨by decide +kernel, rfl⟩
theorem dX7_weeksPass_8 : jm_d cX7_weeksPass 8 (.iconst 1) 1 9 := ⟨by decide +kernel, rfl⟩
theorem dX7_weeksPass_9 : jm_d cX7_weeksPass 9 (.invokevirtual 115) 3 12 := ⟨by decide +kernel, rfl⟩
theorem dX7_weeksPass_12 : jm_d cX7_weeksPass 12 (.iinc 2 1) 3 15 := ⟨by decide +kernel, rfl⟩
theorem dX7_weeksPass_15 : jm_b cX7_weeksPass 15 .goto 18 2 := ⟨(-13), by decide +kernel, rfl, by decide⟩
theorem dX7_weeksPass_18 : jm_d cX7_weeksPass 18 (.return_) 1 19 := ⟨by decide +kernel, rfl⟩
set_option maxHeartbeats 4000000 in
set_option maxRecDepth 100000 in
theorem kT_weeksPass (E : jm_Ev) (hE : jm_dj E jm_LC) {M : jm_M} {t : Nat} {p1 : Int32} (ht : jm_isT t) {r : jm_M} (h : sT_weeksPass M t p1 = some r) : jm_Ct E jm_LC yX7_weeksPass cX7_weeksPass 3 none 3 68 [.ref (jm_a E t 0), .int p1] M none r := by
  refine jm_enter (lv := [some (.ref (jm_a E t 0)), some (.int p1), none]) hE (by decide) (Nat.le_of_ble_eq_true rfl) rfl ?_
  intro z w F hz
  have G : jm_G w 0 [some (.ref (jm_a E t 0)), some (.int p1), none] [] M (sT_weeksPass M t p1) (fun e => z none e) := by
    unfold sT_weeksPass
    refine jm_iconst F dX7_weeksPass_0 kc_0 ?_
    refine jm_istore_n (i := 2) (lv' := [some (.ref (jm_a E t 0)), some (.int p1), some (.int 0)]) F dX7_weeksPass_1 rfl (by decide) rfl rfl ?_
    refine jm_bind (pcJ := 18) (lvJ := fun e4 => [none, none, none]) (stJ := fun _ => []) (MJ := fun e4 => e4) ?_ (fun e4 => ?_)
    · refine jm_weak F (lv' := [some (.ref (jm_a E t 0)), some (.int p1), some (.int 0)]) ⟨rfl, rfl, rfl, trivial⟩ ?_
      refine jm_loopR (lvH := fun s1 => [some (.ref (jm_a E t 0)), some (.int p1), some (.int s1.1)]) (MH := fun s1 => s1.2) (fun s1 => ?_) jm_N (0, M)
      unfold sT_weeksPass_L2
      refine jm_iload_n (i := 2) F dX7_weeksPass_2 rfl rfl ?_
      refine jm_iload_n (i := 1) F dX7_weeksPass_3 rfl rfl ?_
      refine jm_icmp_ge F dX7_weeksPass_4 (fun c2 => ?_) (fun c2 => ?_)
      · exact jm_weakD F (lv' := [none, none, none]) trivial (fun h => h)
      · refine jm_aload_n (i := 0) F dX7_weeksPass_7 rfl rfl ?_
        refine jm_iconst F dX7_weeksPass_8 kc_1 ?_
        refine jm_callV (As := [.int 1]) (st := []) (rv := fun _ => none) (mm := fun r => r) F dX7_weeksPass_9 qX7_115 rfl (lo_T ht) rfl (fun r h => kT_weekPasses E hE ht h) rfl (Nat.le_of_ble_eq_true rfl) ⟨Nat.le_of_ble_eq_true rfl, Nat.le_of_ble_eq_true rfl⟩ (fun r3 => ?_)
        refine jm_iinc (i := 2) (lv' := [some (.ref (jm_a E t 0)), some (.int p1), some (.int (s1.1 + 1))]) F dX7_weeksPass_12 kc_1 rfl (by decide) rfl rfl ?_
        refine jm_goto F dX7_weeksPass_15 ?_
        exact jm_weakD F (lv' := [some (.ref (jm_a E t 0)), some (.int p1), some (.int (s1.1 + 1))]) ⟨rfl, rfl, rfl, trivial⟩ (fun h => h)
    · exact jm_vret F dX7_weeksPass_18 (fun h => h)
  exact G r h hz
theorem dX5_takeWeeks_0 : jm_d cX5_takeWeeks 0 (.aload_n 0) 1 1 := ⟨by decide +kernel, rfl⟩
theorem dX5_takeWeeks_1 : jm_d cX5_takeWeeks 1 (.iconst 2) 1 2 := ⟨by decide +kernel, rfl⟩
theorem dX5_takeWeeks_2 : jm_d cX5_takeWeeks 2 (.invokevirtual 91) 3 5 := ⟨by decide +kernel, rfl⟩
theorem dX5_takeWeeks_5 : jm_d cX5_takeWeeks 5 (.istore_n 1) 1 6 := ⟨by decide +kernel, rfl⟩
theorem dX5_takeWeeks_6 : jm_d cX5_takeWeeks 6 (.iload_n 1) 1 7 := ⟨by decide +kernel, rfl⟩
theorem dX5_takeWeeks_7 : jm_d cX5_takeWeeks 7 (.iconst 1) 1 8 := ⟨by decide +kernel, rfl⟩
theorem dX5_takeWeeks_8 : jm_b cX5_takeWeeks 8 (.if_icmp .lt) 11 32 := ⟨24, by decide +kernel, rfl, by decide⟩
theorem dX5_takeWeeks_32 : jm_d cX5_takeWeeks 32 (.iconst 0) 1 33 := ⟨by decide +kernel, rfl⟩
theorem dX5_takeWeeks_33 : jm_d cX5_takeWeeks 33 (.ireturn) 1 34 := ⟨by decide +kernel, rfl⟩
theorem dX5_takeWeeks_11 : jm_d cX5_takeWeeks 11 (.iload_n 1) 1 12 := ⟨by decide +kernel, rfl⟩
theorem dX5_takeWeeks_12 : jm_d cX5_takeWeeks 12 (.bipush 60) 2 14 := ⟨by decide +kernel, rfl⟩
theorem dX5_takeWeeks_14 : jm_b cX5_takeWeeks 14 (.if_icmp .gt) 17 32 := ⟨18, by decide +kernel, rfl, by decide⟩
theorem dX5_takeWeeks_17 : jm_d cX5_takeWeeks 17 (.aload_n 0) 1 18 := ⟨by decide +kernel, rfl⟩
theorem dX5_takeWeeks_18 : jm_d cX5_takeWeeks 18 (.getfield 18) 3 21 := ⟨by decide +kernel, rfl⟩
theorem dX5_takeWeeks_21 : jm_d cX5_takeWeeks 21 (.getfield 139) 3 24 := ⟨by decide +kernel, rfl⟩
theorem dX5_takeWeeks_24 : jm_d cX5_takeWeeks 24 (.iload_n 1) 1 25 := ⟨by decide +kernel, rfl⟩
theorem dX5_takeWeeks_25 : jm_d cX5_takeWeeks 25 (.iadd) 1 26 := ⟨by decide +kernel, rfl⟩
theorem dX5_takeWeeks_26 : jm_d cX5_takeWeeks 26 (.sipush 999) 3 29 := ⟨by decide +kernel, rfl⟩
theorem dX5_takeWeeks_29 : jm_b cX5_takeWeeks 29 (.if_icmp .le) 32 34 := ⟨5, by decide +kernel, rfl, by decide⟩
theorem dX5_takeWeeks_34 : jm_d cX5_takeWeeks 34 (.aload_n 0) 1 35 := ⟨by decide +kernel, rfl⟩
theorem dX5_takeWeeks_35 : jm_d cX5_takeWeeks 35 (.getfield 18) 3 38 := ⟨by decide +kernel, rfl⟩
theorem dX5_takeWeeks_38 : jm_d cX5_takeWeeks 38 (.iload_n 1) 1 39 := ⟨by decide +kernel, rfl⟩
theorem dX5_takeWeeks_39 : jm_d cX5_takeWeeks 39 (.invokevirtual 142) 3 42 := ⟨by decide +kernel, rfl⟩
theorem dX5_takeWeeks_42 : jm_d cX5_takeWeeks 42 (.iconst 1) 1 43 := ⟨by decide +kernel, rfl⟩
theorem dX5_takeWeeks_43 : jm_d cX5_takeWeeks 43 (.ireturn) 1 44 := ⟨by decide +kernel, rfl⟩
set_option maxHeartbeats 4000000 in
set_option maxRecDepth 100000 in
theorem kS_takeWeeks (E : jm_Ev) (hE : jm_dj E jm_LC) {M : jm_M}  {r : Int32 × jm_M} (h : sS_takeWeeks M = some r) : jm_Ct E jm_LC yX5_takeWeeks cX5_takeWeeks 2 (some .boolean) 4 90 [.ref (jm_a E 14 0)] M (some (.int r.1)) r.2 := by
  refine jm_enter (lv := [some (.ref (jm_a E 14 0)), none]) hE (by decide) (Nat.le_of_ble_eq_true rfl) rfl ?_
  intro z w F hz
  have G : jm_G w 0 [some (.ref (jm_a E 14 0)), none] [] M (sS_takeWeeks M) (fun e => z (some (.int e.1)) e.2) := by
    unfold sS_takeWeeks
    refine jm_aload_n (i := 0) F dX5_takeWeeks_0 rfl rfl ?_
    refine jm_iconst F dX5_takeWeeks_1 kc_2 ?_
    refine jm_callV (As := [.int 2]) (st := []) (rv := fun r => some (.int r.1)) (mm := fun r => r.2) F dX5_takeWeeks_2 qX5_91 rfl lo_X5 rfl (fun r h => kS_takeNumber E hE h) rfl (Nat.le_of_ble_eq_true rfl) ⟨Nat.le_of_ble_eq_true rfl, Nat.le_of_ble_eq_true rfl⟩ (fun r1 => ?_)
    refine jm_istore_n (i := 1) (lv' := [some (.ref (jm_a E 14 0)), some (.int r1.1)]) F dX5_takeWeeks_5 rfl (by decide) rfl rfl ?_
    refine jm_iload_n (i := 1) F dX5_takeWeeks_6 rfl rfl ?_
    refine jm_iconst F dX5_takeWeeks_7 kc_1 ?_
    refine jm_icmp_lt F dX5_takeWeeks_8 (fun c2 => ?_) (fun c2 => ?_)
    · refine jm_iconst F dX5_takeWeeks_32 kc_0 ?_
      exact jm_zret F dX5_takeWeeks_33 (Or.inl rfl) (fun h => h)
    · refine jm_iload_n (i := 1) F dX5_takeWeeks_11 rfl rfl ?_
      refine jm_bipush F dX5_takeWeeks_12 kb_60 ?_
      refine jm_icmp_gt F dX5_takeWeeks_14 (fun c3 => ?_) (fun c3 => ?_)
      · refine jm_iconst F dX5_takeWeeks_32 kc_0 ?_
        exact jm_zret F dX5_takeWeeks_33 (Or.inl rfl) (fun h => h)
      · refine jm_aload_n (i := 0) F dX5_takeWeeks_17 rfl rfl ?_
        refine jm_getR F dX5_takeWeeks_18 fl_X5_18 lo_X5 rfl ?_
        refine jm_getI F dX5_takeWeeks_21 fl_X5_139 (lo_T isT_3) rfl ?_
        refine jm_iload_n (i := 1) F dX5_takeWeeks_24 rfl rfl ?_
        refine jm_iadd F dX5_takeWeeks_25 ?_
        refine jm_sipush F dX5_takeWeeks_26 ks_999 ?_
        refine jm_icmp_le F dX5_takeWeeks_29 (fun c4 => ?_) (fun c4 => ?_)
        · refine jm_aload_n (i := 0) F dX5_takeWeeks_34 rfl rfl ?_
          refine jm_getR F dX5_takeWeeks_35 fl_X5_18 lo_X5 rfl ?_
          refine jm_iload_n (i := 1) F dX5_takeWeeks_38 rfl rfl ?_
          refine jm_callV (As := [.int r1.1]) (st := []) (rv := fun _ => none) (mm := fun r => r) F dX5_takeWeeks_39 qX5_142 rfl (lo_T isT_3) rfl (fun r h => kT_weeksPass E hE isT_3 h) rfl (Nat.le_of_ble_eq_true rfl) ⟨Nat.le_of_ble_eq_true rfl, Nat.le_of_ble_eq_true rfl⟩ (fun r5 => ?_)
          refine jm_iconst F dX5_takeWeeks_42 kc_1 ?_
          exact jm_zret F dX5_takeWeeks_43 (Or.inr rfl) (fun h => h)
        · refine jm_iconst F dX5_takeWeeks_32 kc_0 ?_
          exact jm_zret F dX5_takeWeeks_33 (Or.inl rfl) (fun h => h)
  exact G r h hz
