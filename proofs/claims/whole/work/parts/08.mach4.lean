theorem dX8_borrow_0 : jm_d cX8_borrow 0 (.aload_n 0) 1 1 := ⟨by decide +kernel, rfl⟩
theorem dX8_borrow_1 : jm_d cX8_borrow 1 (.iload_n 1) 1 2 := ⟨by decide +kernel, rfl⟩
theorem dX8_borrow_2 : jm_d cX8_borrow 2 (.iload_n 2) 1 3 := ⟨by decide +kernel, rfl⟩
theorem dX8_borrow_3 : jm_d cX8_borrow 3 (.invokevirtual 188) 3 6 := ⟨by decide +kernel, rfl⟩
theorem dX8_borrow_6 : jm_b cX8_borrow 6 (.ifCond .ne) 9 15 := ⟨9, by decide +kernel, rfl, by decide⟩
theorem dX8_borrow_9 : jm_d cX8_borrow 9 (.aload_n 0) 1 10 := ⟨by decide +kernel, rfl⟩
theorem dX8_borrow_10 : jm_d cX8_borrow 10 (.iconst (-1)) 1 11 := ⟨by decide +kernel, rfl⟩
theorem dX8_borrow_11 : jm_d cX8_borrow 11 (.invokevirtual 64) 3 14 := ⟨by decide +kernel, rfl⟩
theorem dX8_borrow_14 : jm_d cX8_borrow 14 (.ireturn) 1 15 := ⟨by decide +kernel, rfl⟩
theorem dX8_borrow_15 : jm_d cX8_borrow 15 (.aload_n 0) 1 16 := ⟨by decide +kernel, rfl⟩
theorem dX8_borrow_16 : jm_d cX8_borrow 16 (.iload_n 3) 1 17 := ⟨by decide +kernel, rfl⟩
theorem dX8_borrow_17 : jm_d cX8_borrow 17 (.invokevirtual 199) 3 20 := ⟨by decide +kernel, rfl⟩
theorem dX8_borrow_20 : jm_b cX8_borrow 20 (.ifCond .eq) 23 30 := ⟨10, by decide +kernel, rfl, by decide⟩
theorem dX8_borrow_30 : jm_d cX8_borrow 30 (.aload_n 0) 1 31 := ⟨by decide +kernel, rfl⟩
theorem dX8_borrow_31 : jm_d cX8_borrow 31 (.getfield 36) 3 34 := ⟨by decide +kernel, rfl⟩
theorem dX8_borrow_34 : jm_d cX8_borrow 34 (.aload_n 0) 1 35 := ⟨by decide +kernel, rfl⟩
theorem dX8_borrow_35 : jm_d cX8_borrow 35 (.getfield 10) 3 38 := ⟨by decide +kernel, rfl⟩
theorem dX8_borrow_38 : jm_d cX8_borrow 38 (.iload_n 1) 1 39 := ⟨by decide +kernel, rfl⟩
theorem dX8_borrow_39 : jm_d cX8_borrow 39 (.iload_n 2) 1 40 := ⟨by decide +kernel, rfl⟩
theorem dX8_borrow_40 : jm_d cX8_borrow 40 (.invokevirtual 238) 3 43 := ⟨by decide +kernel, rfl⟩
theorem dX8_borrow_43 : jm_d cX8_borrow 43 (.iload_n 3) 1 44 := ⟨by decide +kernel, rfl⟩
theorem dX8_borrow_44 : jm_b cX8_borrow 44 (.ifCond .ne) 47 57 := ⟨13, by decide +kernel, rfl, by decide⟩
theorem dX8_borrow_47 : jm_d cX8_borrow 47 (.aload_n 0) 1 48 := ⟨by decide +kernel, rfl⟩
theorem dX8_borrow_48 : jm_d cX8_borrow 48 (.getfield 36) 3 51 := ⟨by decide +kernel, rfl⟩
theorem dX8_borrow_51 : jm_d cX8_borrow 51 (.getfield 241) 3 54 := ⟨by decide +kernel, rfl⟩
theorem dX8_borrow_54 : jm_b cX8_borrow 54 .goto 57 64 := ⟨10, by decide +kernel, rfl, by decide⟩
theorem dX8_borrow_64 : jm_d cX8_borrow 64 (.ireturn) 1 65 := ⟨by decide +kernel, rfl⟩
theorem dX8_borrow_57 : jm_d cX8_borrow 57 (.aload_n 0) 1 58 := ⟨by decide +kernel, rfl⟩
theorem dX8_borrow_58 : jm_d cX8_borrow 58 (.getfield 36) 3 61 := ⟨by decide +kernel, rfl⟩
theorem dX8_borrow_61 : jm_d cX8_borrow 61 (.getfield 244) 3 64 := ⟨by decide +kernel, rfl⟩
theorem dX8_borrow_23 : jm_d cX8_borrow 23 (.aload_n 0) 1 24 := ⟨by decide +kernel, rfl⟩
theorem dX8_borrow_24 : jm_d cX8_borrow 24 (.bipush (-2)) 2 26 := ⟨by decide +kernel, rfl⟩
theorem dX8_borrow_26 : jm_d cX8_borrow 26 (.invokevirtual 64) 3 29 := ⟨by decide +kernel, rfl⟩
theorem dX8_borrow_29 : jm_d cX8_borrow 29 (.ireturn) 1 30 := ⟨by decide +kernel, rfl⟩
set_option maxHeartbeats 4000000 in
set_option maxRecDepth 100000 in
theorem kW_borrow (E : jm_Ev) (hE : jm_dj E jm_LC) {M : jm_M} {p1 : Int32} {p2 : Int32} {p3 : Int32}  {r : Int32 × jm_M} (h : sW_borrow M p1 p2 p3 = some r) : jm_Ct E jm_LC yX8_borrow cX8_borrow 4 (some .int) 7 189 [.ref (jm_a E 0 0), .int p1, .int p2, .int p3] M (some (.int r.1)) r.2 := by
  refine jm_enter (lv := [some (.ref (jm_a E 0 0)), some (.int p1), some (.int p2), some (.int p3)]) hE (by decide) (Nat.le_of_ble_eq_true rfl) rfl ?_
  intro z w F hz
  have G : jm_G w 0 [some (.ref (jm_a E 0 0)), some (.int p1), some (.int p2), some (.int p3)] [] M (sW_borrow M p1 p2 p3) (fun e => z (some (.int e.1)) e.2) := by
    unfold sW_borrow
    refine jm_aload_n (i := 0) F dX8_borrow_0 rfl rfl ?_
    refine jm_iload_n (i := 1) F dX8_borrow_1 rfl rfl ?_
    refine jm_iload_n (i := 2) F dX8_borrow_2 rfl rfl ?_
    refine jm_callV (As := [.int p1, .int p2]) (st := []) (rv := fun r => some (.int r)) (mm := fun _ => M) F dX8_borrow_3 qX8_188 rfl lo_X8 rfl (fun r h => kW_areTwo E hE h) rfl (Nat.le_of_ble_eq_true rfl) ⟨Nat.le_of_ble_eq_true rfl, Nat.le_of_ble_eq_true rfl⟩ (fun r1 => ?_)
    refine jm_if_ne F dX8_borrow_6 (fun c2 => ?_) (fun c2 => ?_)
    · refine jm_aload_n (i := 0) F dX8_borrow_9 rfl rfl ?_
      refine jm_iconst F dX8_borrow_10 kc_m1 ?_
      refine jm_callV (As := [.int (-1)]) (st := []) (rv := fun r => some (.int r.1)) (mm := fun r => r.2) F dX8_borrow_11 qX8_64 rfl lo_X8 rfl (fun r h => kW_refuse E hE h) rfl (Nat.le_of_ble_eq_true rfl) ⟨Nat.le_of_ble_eq_true rfl, Nat.le_of_ble_eq_true rfl⟩ (fun r3 => ?_)
      exact jm_iret F dX8_borrow_14 (fun h => h)
    · refine jm_aload_n (i := 0) F dX8_borrow_15 rfl rfl ?_
      refine jm_iload_n (i := 3) F dX8_borrow_16 rfl rfl ?_
      refine jm_callV (As := [.int p3]) (st := []) (rv := fun r => some (.int r)) (mm := fun _ => M) F dX8_borrow_17 qX8_199 rfl lo_X8 rfl (fun r h => kW_isNeither E hE h) rfl (Nat.le_of_ble_eq_true rfl) ⟨Nat.le_of_ble_eq_true rfl, Nat.le_of_ble_eq_true rfl⟩ (fun r4 => ?_)
      refine jm_if_eq F dX8_borrow_20 (fun c5 => ?_) (fun c5 => ?_)
      · refine jm_aload_n (i := 0) F dX8_borrow_30 rfl rfl ?_
        refine jm_getR F dX8_borrow_31 fl_X8_36 lo_X8 rfl ?_
        refine jm_aload_n (i := 0) F dX8_borrow_34 rfl rfl ?_
        refine jm_getR F dX8_borrow_35 fl_X8_10 lo_X8 rfl ?_
        refine jm_iload_n (i := 1) F dX8_borrow_38 rfl rfl ?_
        refine jm_iload_n (i := 2) F dX8_borrow_39 rfl rfl ?_
        refine jm_callV (As := [.ref (jm_a E 1 0), .int p1, .int p2]) (st := []) (rv := fun _ => none) (mm := fun r => r) F dX8_borrow_40 qX8_238 rfl lo_X2 rfl (fun r h => kF_seekLoan E hE isT_1 h) rfl (Nat.le_of_ble_eq_true rfl) ⟨Nat.le_of_ble_eq_true rfl, Nat.le_of_ble_eq_true rfl⟩ (fun r6 => ?_)
        refine jm_iload_n (i := 3) F dX8_borrow_43 rfl rfl ?_
        refine jm_if_ne F dX8_borrow_44 (fun c7 => ?_) (fun c7 => ?_)
        · refine jm_aload_n (i := 0) F dX8_borrow_47 rfl rfl ?_
          refine jm_getR F dX8_borrow_48 fl_X8_36 lo_X8 rfl ?_
          refine jm_getI F dX8_borrow_51 fl_X8_241 lo_X2 rfl ?_
          refine jm_goto F dX8_borrow_54 ?_
          exact jm_iret F dX8_borrow_64 (fun h => h)
        · refine jm_aload_n (i := 0) F dX8_borrow_57 rfl rfl ?_
          refine jm_getR F dX8_borrow_58 fl_X8_36 lo_X8 rfl ?_
          refine jm_getI F dX8_borrow_61 fl_X8_244 lo_X2 rfl ?_
          exact jm_iret F dX8_borrow_64 (fun h => h)
      · refine jm_aload_n (i := 0) F dX8_borrow_23 rfl rfl ?_
        refine jm_bipush F dX8_borrow_24 kb_m2 ?_
        refine jm_callV (As := [.int (-2)]) (st := []) (rv := fun r => some (.int r.1)) (mm := fun r => r.2) F dX8_borrow_26 qX8_64 rfl lo_X8 rfl (fun r h => kW_refuse E hE h) rfl (Nat.le_of_ble_eq_true rfl) ⟨Nat.le_of_ble_eq_true rfl, Nat.le_of_ble_eq_true rfl⟩ (fun r8 => ?_)
        exact jm_iret F dX8_borrow_29 (fun h => h)
  exact G r h hz
theorem dX2_bestTaught_0 : jm_d cX2_bestTaught 0 (.bipush (-9)) 2 2 := ⟨by decide +kernel, rfl⟩
theorem dX2_bestTaught_2 : jm_d cX2_bestTaught 2 (.istore 6) 2 4 := ⟨by decide +kernel, rfl⟩
theorem dX2_bestTaught_4 : jm_d cX2_bestTaught 4 (.aload_n 0) 1 5 := ⟨by decide +kernel, rfl⟩
theorem dX2_bestTaught_5 : jm_d cX2_bestTaught 5 (.aload_n 1) 1 6 := ⟨by decide +kernel, rfl⟩
theorem dX2_bestTaught_6 : jm_d cX2_bestTaught 6 (.iload 5) 2 8 := ⟨by decide +kernel, rfl⟩
theorem dX2_bestTaught_8 : jm_d cX2_bestTaught 8 (.invokevirtual 72) 3 11 := ⟨by decide +kernel, rfl⟩
theorem dX2_bestTaught_11 : jm_d cX2_bestTaught 11 (.iload_n 3) 1 12 := ⟨by decide +kernel, rfl⟩
theorem dX2_bestTaught_12 : jm_d cX2_bestTaught 12 (.iload 4) 2 14 := ⟨by decide +kernel, rfl⟩
theorem dX2_bestTaught_14 : jm_d cX2_bestTaught 14 (.invokevirtual 76) 3 17 := ⟨by decide +kernel, rfl⟩
theorem dX2_bestTaught_17 : jm_d cX2_bestTaught 17 (.istore 7) 2 19 := ⟨by decide +kernel, rfl⟩
theorem dX2_bestTaught_19 : jm_d cX2_bestTaught 19 (.iconst 0) 1 20 := ⟨by decide +kernel, rfl⟩
theorem dX2_bestTaught_20 : jm_d cX2_bestTaught 20 (.istore 8) 2 22 := ⟨by decide +kernel, rfl⟩
theorem dX2_bestTaught_22 : jm_d cX2_bestTaught 22 (.iload 8) 2 24 := ⟨by decide +kernel, rfl⟩
theorem dX2_bestTaught_24 : jm_d cX2_bestTaught 24 (.aload_n 1) 1 25 := ⟨by decide +kernel, rfl⟩
theorem dX2_bestTaught_25 : jm_d cX2_bestTaught 25 (.getfield 62) 3 28 := ⟨by decide +kernel, rfl⟩
theorem dX2_bestTaught_28 : jm_b cX2_bestTaught 28 (.if_icmp .ge) 31 94 := ⟨66, by decide +kernel, rfl, by decide⟩
theorem dX2_bestTaught_31 : jm_d cX2_bestTaught 31 (.aload_n 0) 1 32 := ⟨by decide +kernel, rfl⟩
theorem dX2_bestTaught_32 : jm_d cX2_bestTaught 32 (.aload_n 1) 1 33 := ⟨by decide +kernel, rfl⟩
theorem dX2_bestTaught_33 : jm_d cX2_bestTaught 33 (.invokevirtual 29) 3 36 := ⟨by decide +kernel, rfl⟩
theorem dX2_bestTaught_36 : jm_d cX2_bestTaught 36 (.aload_n 0) 1 37 := ⟨by decide +kernel, rfl⟩
theorem dX2_bestTaught_37 : jm_d cX2_bestTaught 37 (.getfield 12) 3 40 := ⟨by decide +kernel, rfl⟩
theorem dX2_bestTaught_40 : jm_d cX2_bestTaught 40 (.getfield 80) 3 43 := ⟨by decide +kernel, rfl⟩
theorem dX2_bestTaught_43 : jm_d cX2_bestTaught 43 (.iload 8) 2 45 := ⟨by decide +kernel, rfl⟩
theorem dX2_bestTaught_45 : jm_d cX2_bestTaught 45 (.dup2) 1 46 := ⟨by decide +kernel, rfl⟩
theorem dX2_bestTaught_46 : jm_d cX2_bestTaught 46 (.iaload) 1 47 := ⟨by decide +kernel, rfl⟩
theorem dX2_bestTaught_47 : jm_d cX2_bestTaught 47 (.iconst 1) 1 48 := ⟨by decide +kernel, rfl⟩
theorem dX2_bestTaught_48 : jm_d cX2_bestTaught 48 (.iload_n 2) 1 49 := ⟨by decide +kernel, rfl⟩
theorem dX2_bestTaught_49 : jm_d cX2_bestTaught 49 (.ishl) 1 50 := ⟨by decide +kernel, rfl⟩
theorem dX2_bestTaught_50 : jm_d cX2_bestTaught 50 (.ior) 1 51 := ⟨by decide +kernel, rfl⟩
theorem dX2_bestTaught_51 : jm_d cX2_bestTaught 51 (.iastore) 1 52 := ⟨by decide +kernel, rfl⟩
theorem dX2_bestTaught_52 : jm_d cX2_bestTaught 52 (.aload_n 0) 1 53 := ⟨by decide +kernel, rfl⟩
theorem dX2_bestTaught_53 : jm_d cX2_bestTaught 53 (.getfield 12) 3 56 := ⟨by decide +kernel, rfl⟩
theorem dX2_bestTaught_56 : jm_d cX2_bestTaught 56 (.iload 5) 2 58 := ⟨by decide +kernel, rfl⟩
theorem dX2_bestTaught_58 : jm_d cX2_bestTaught 58 (.invokevirtual 32) 3 61 := ⟨by decide +kernel, rfl⟩
theorem dX2_bestTaught_61 : jm_d cX2_bestTaught 61 (.aload_n 0) 1 62 := ⟨by decide +kernel, rfl⟩
theorem dX2_bestTaught_62 : jm_d cX2_bestTaught 62 (.getfield 12) 3 65 := ⟨by decide +kernel, rfl⟩
theorem dX2_bestTaught_65 : jm_d cX2_bestTaught 65 (.iload_n 3) 1 66 := ⟨by decide +kernel, rfl⟩
theorem dX2_bestTaught_66 : jm_d cX2_bestTaught 66 (.iload 4) 2 68 := ⟨by decide +kernel, rfl⟩
theorem dX2_bestTaught_68 : jm_d cX2_bestTaught 68 (.invokevirtual 76) 3 71 := ⟨by decide +kernel, rfl⟩
theorem dX2_bestTaught_71 : jm_d cX2_bestTaught 71 (.istore 9) 2 73 := ⟨by decide +kernel, rfl⟩
theorem dX2_bestTaught_73 : jm_d cX2_bestTaught 73 (.iload 9) 2 75 := ⟨by decide +kernel, rfl⟩
theorem dX2_bestTaught_75 : jm_d cX2_bestTaught 75 (.iload 7) 2 77 := ⟨by decide +kernel, rfl⟩
theorem dX2_bestTaught_77 : jm_b cX2_bestTaught 77 (.if_icmp .le) 80 88 := ⟨11, by decide +kernel, rfl, by decide⟩
theorem dX2_bestTaught_88 : jm_d cX2_bestTaught 88 (.iinc 8 1) 3 91 := ⟨by decide +kernel, rfl⟩
theorem dX2_bestTaught_91 : jm_b cX2_bestTaught 91 .goto 94 22 := ⟨(-69), by decide +kernel, rfl, by decide⟩
theorem dX2_bestTaught_80 : jm_d cX2_bestTaught 80 (.iload 8) 2 82 := ⟨by decide +kernel, rfl⟩
theorem dX2_bestTaught_82 : jm_d cX2_bestTaught 82 (.istore 6) 2 84 := ⟨by decide +kernel, rfl⟩
theorem dX2_bestTaught_84 : jm_d cX2_bestTaught 84 (.iload 9) 2 86 := ⟨by decide +kernel, rfl⟩
theorem dX2_bestTaught_86 : jm_d cX2_bestTaught 86 (.istore 7) 2 88 := ⟨by decide +kernel, rfl⟩
theorem dX2_bestTaught_94 : jm_d cX2_bestTaught 94 (.iload 6) 2 96 := ⟨by decide +kernel, rfl⟩
theorem dX2_bestTaught_96 : jm_d cX2_bestTaught 96 (.ireturn) 1 97 := ⟨by decide +kernel, rfl⟩
set_option maxHeartbeats 4000000 in
set_option maxRecDepth 100000 in
theorem kF_bestTaught (E : jm_Ev) (hE : jm_dj E jm_LC) {M : jm_M} {p1 : Nat} {p2 : Int32} {p3 : Int32} {p4 : Int32} {p5 : Int32} (hp1 : jm_isT p1) {r : Int32 × jm_M} (h : sF_bestTaught M p1 p2 p3 p4 p5 = some r) : jm_Ct E jm_LC yX2_bestTaught cX2_bestTaught 10 (some .int) 5 117 [.ref (jm_a E 15 0), .ref (jm_a E p1 0), .int p2, .int p3, .int p4, .int p5] M (some (.int r.1)) r.2 := by
  refine jm_enter (lv := [some (.ref (jm_a E 15 0)), some (.ref (jm_a E p1 0)), some (.int p2), some (.int p3), some (.int p4), some (.int p5), none, none, none, none]) hE (by decide) (Nat.le_of_ble_eq_true rfl) rfl ?_
  intro z w F hz
  have G : jm_G w 0 [some (.ref (jm_a E 15 0)), some (.ref (jm_a E p1 0)), some (.int p2), some (.int p3), some (.int p4), some (.int p5), none, none, none, none] [] M (sF_bestTaught M p1 p2 p3 p4 p5) (fun e => z (some (.int e.1)) e.2) := by
    unfold sF_bestTaught
    refine jm_bipush F dX2_bestTaught_0 kb_m9 ?_
    refine jm_istore (i := 6) (lv' := [some (.ref (jm_a E 15 0)), some (.ref (jm_a E p1 0)), some (.int p2), some (.int p3), some (.int p4), some (.int p5), some (.int (-9)), none, none, none]) F dX2_bestTaught_2 (by decide) rfl rfl ?_
    refine jm_aload_n (i := 0) F dX2_bestTaught_4 rfl rfl ?_
    refine jm_aload_n (i := 1) F dX2_bestTaught_5 rfl rfl ?_
    refine jm_iload F dX2_bestTaught_6 rfl ?_
    refine jm_callV (As := [.ref (jm_a E p1 0), .int p5]) (st := []) (rv := fun _ => some (.ref (jm_a E 4 0))) (mm := fun r => r) F dX2_bestTaught_8 qX2_72 rfl lo_X2 rfl (fun r h => kF_after E hE hp1 h) rfl (Nat.le_of_ble_eq_true rfl) ⟨Nat.le_of_ble_eq_true rfl, Nat.le_of_ble_eq_true rfl⟩ (fun r1 => ?_)
    refine jm_iload_n (i := 3) F dX2_bestTaught_11 rfl rfl ?_
    refine jm_iload F dX2_bestTaught_12 rfl ?_
    refine jm_callV (As := [.int p3, .int p4]) (st := []) (rv := fun r => some (.int r)) (mm := fun _ => r1) F dX2_bestTaught_14 qX2_76 rfl (lo_T isT_4) rfl (fun r h => kT_overOf E hE isT_4 h) rfl (Nat.le_of_ble_eq_true rfl) ⟨Nat.le_of_ble_eq_true rfl, Nat.le_of_ble_eq_true rfl⟩ (fun r2 => ?_)
    refine jm_istore (i := 7) (lv' := [some (.ref (jm_a E 15 0)), some (.ref (jm_a E p1 0)), some (.int p2), some (.int p3), some (.int p4), some (.int p5), some (.int (-9)), some (.int r2), none, none]) F dX2_bestTaught_17 (by decide) rfl rfl ?_
    refine jm_iconst F dX2_bestTaught_19 kc_0 ?_
    refine jm_istore (i := 8) (lv' := [some (.ref (jm_a E 15 0)), some (.ref (jm_a E p1 0)), some (.int p2), some (.int p3), some (.int p4), some (.int p5), some (.int (-9)), some (.int r2), some (.int 0), none]) F dX2_bestTaught_20 (by decide) rfl rfl ?_
    refine jm_bind (pcJ := 94) (lvJ := fun e11 => [none, none, none, none, none, none, some (.int e11.1), none, none, none]) (stJ := fun _ => []) (MJ := fun e11 => e11.2) ?_ (fun e11 => ?_)
    · refine jm_weak F (lv' := [some (.ref (jm_a E 15 0)), some (.ref (jm_a E p1 0)), some (.int p2), some (.int p3), some (.int p4), some (.int p5), some (.int (-9)), some (.int r2), some (.int 0), none]) ⟨rfl, rfl, rfl, rfl, rfl, rfl, rfl, rfl, rfl, trivial⟩ ?_
      refine jm_loopR (lvH := fun s3 => [some (.ref (jm_a E 15 0)), some (.ref (jm_a E p1 0)), some (.int p2), some (.int p3), some (.int p4), some (.int p5), some (.int s3.1), some (.int s3.2.1), some (.int s3.2.2.1), none]) (MH := fun s3 => s3.2.2.2) (fun s3 => ?_) jm_N ((-9), r2, 0, r1)
      unfold sF_bestTaught_L22
      refine jm_iload F dX2_bestTaught_22 rfl ?_
      refine jm_aload_n (i := 1) F dX2_bestTaught_24 rfl rfl ?_
      refine jm_getI F dX2_bestTaught_25 fl_X2_62 (lo_T hp1) rfl ?_
      refine jm_icmp_ge F dX2_bestTaught_28 (fun c4 => ?_) (fun c4 => ?_)
      · exact jm_weakD F (lv' := [none, none, none, none, none, none, some (.int s3.1), none, none, none]) ⟨rfl, trivial⟩ (fun h => h)
      · refine jm_aload_n (i := 0) F dX2_bestTaught_31 rfl rfl ?_
        refine jm_aload_n (i := 1) F dX2_bestTaught_32 rfl rfl ?_
        refine jm_callV (As := [.ref (jm_a E p1 0)]) (st := []) (rv := fun _ => none) (mm := fun r => r) F dX2_bestTaught_33 qX2_29 rfl lo_X2 rfl (fun r h => kF_think E hE hp1 h) rfl (Nat.le_of_ble_eq_true rfl) ⟨Nat.le_of_ble_eq_true rfl, Nat.le_of_ble_eq_true rfl⟩ (fun r5 => ?_)
        refine jm_aload_n (i := 0) F dX2_bestTaught_36 rfl rfl ?_
        refine jm_getR F dX2_bestTaught_37 fl_X2_12 lo_X2 rfl ?_
        refine jm_getR F dX2_bestTaught_40 fl_X2_80 (lo_T isT_4) rfl ?_
        refine jm_iload F dX2_bestTaught_43 rfl ?_
        refine jm_dup2 F dX2_bestTaught_45 rfl rfl ?_
        refine jm_iald F dX2_bestTaught_46 (la_T_10 isT_4) (fun v6 => ?_)
        refine jm_iconst F dX2_bestTaught_47 kc_1 ?_
        refine jm_iload_n (i := 2) F dX2_bestTaught_48 rfl rfl ?_
        refine jm_ishl F dX2_bestTaught_49 ?_
        refine jm_ior F dX2_bestTaught_50 ?_
        refine jm_iast F dX2_bestTaught_51 (la_T_10 isT_4) (fun M7 => ?_)
        refine jm_aload_n (i := 0) F dX2_bestTaught_52 rfl rfl ?_
        refine jm_getR F dX2_bestTaught_53 fl_X2_12 lo_X2 rfl ?_
        refine jm_iload F dX2_bestTaught_56 rfl ?_
        refine jm_callV (As := [.int p5]) (st := []) (rv := fun _ => none) (mm := fun r => r) F dX2_bestTaught_58 qX2_32 rfl (lo_T isT_4) rfl (fun r h => kT_weeksPass E hE isT_4 h) rfl (Nat.le_of_ble_eq_true rfl) ⟨Nat.le_of_ble_eq_true rfl, Nat.le_of_ble_eq_true rfl⟩ (fun r8 => ?_)
        refine jm_aload_n (i := 0) F dX2_bestTaught_61 rfl rfl ?_
        refine jm_getR F dX2_bestTaught_62 fl_X2_12 lo_X2 rfl ?_
        refine jm_iload_n (i := 3) F dX2_bestTaught_65 rfl rfl ?_
        refine jm_iload F dX2_bestTaught_66 rfl ?_
        refine jm_callV (As := [.int p3, .int p4]) (st := []) (rv := fun r => some (.int r)) (mm := fun _ => r8) F dX2_bestTaught_68 qX2_76 rfl (lo_T isT_4) rfl (fun r h => kT_overOf E hE isT_4 h) rfl (Nat.le_of_ble_eq_true rfl) ⟨Nat.le_of_ble_eq_true rfl, Nat.le_of_ble_eq_true rfl⟩ (fun r9 => ?_)
        refine jm_istore (i := 9) (lv' := [some (.ref (jm_a E 15 0)), some (.ref (jm_a E p1 0)), some (.int p2), some (.int p3), some (.int p4), some (.int p5), some (.int s3.1), some (.int s3.2.1), some (.int s3.2.2.1), some (.int r9)]) F dX2_bestTaught_71 (by decide) rfl rfl ?_
        refine jm_iload F dX2_bestTaught_73 rfl ?_
        refine jm_iload F dX2_bestTaught_75 rfl ?_
        refine jm_icmp_le F dX2_bestTaught_77 (fun c10 => ?_) (fun c10 => ?_)
        · refine jm_iinc (i := 8) (lv' := [some (.ref (jm_a E 15 0)), some (.ref (jm_a E p1 0)), some (.int p2), some (.int p3), some (.int p4), some (.int p5), some (.int s3.1), some (.int s3.2.1), some (.int (s3.2.2.1 + 1)), some (.int r9)]) F dX2_bestTaught_88 kc_1 rfl (by decide) rfl rfl ?_
          refine jm_goto F dX2_bestTaught_91 ?_
          exact jm_weakD F (lv' := [some (.ref (jm_a E 15 0)), some (.ref (jm_a E p1 0)), some (.int p2), some (.int p3), some (.int p4), some (.int p5), some (.int s3.1), some (.int s3.2.1), some (.int (s3.2.2.1 + 1)), none]) ⟨rfl, rfl, rfl, rfl, rfl, rfl, rfl, rfl, rfl, trivial⟩ (fun h => h)
        · refine jm_iload F dX2_bestTaught_80 rfl ?_
          refine jm_istore (i := 6) (lv' := [some (.ref (jm_a E 15 0)), some (.ref (jm_a E p1 0)), some (.int p2), some (.int p3), some (.int p4), some (.int p5), some (.int s3.2.2.1), some (.int s3.2.1), some (.int s3.2.2.1), some (.int r9)]) F dX2_bestTaught_82 (by decide) rfl rfl ?_
          refine jm_iload F dX2_bestTaught_84 rfl ?_
          refine jm_istore (i := 7) (lv' := [some (.ref (jm_a E 15 0)), some (.ref (jm_a E p1 0)), some (.int p2), some (.int p3), some (.int p4), some (.int p5), some (.int s3.2.2.1), some (.int r9), some (.int s3.2.2.1), some (.int r9)]) F dX2_bestTaught_86 (by decide) rfl rfl ?_
          refine jm_iinc (i := 8) (lv' := [some (.ref (jm_a E 15 0)), some (.ref (jm_a E p1 0)), some (.int p2), some (.int p3), some (.int p4), some (.int p5), some (.int s3.2.2.1), some (.int r9), some (.int (s3.2.2.1 + 1)), some (.int r9)]) F dX2_bestTaught_88 kc_1 rfl (by decide) rfl rfl ?_
          refine jm_goto F dX2_bestTaught_91 ?_
          exact jm_weakD F (lv' := [some (.ref (jm_a E 15 0)), some (.ref (jm_a E p1 0)), some (.int p2), some (.int p3), some (.int p4), some (.int p5), some (.int s3.2.2.1), some (.int r9), some (.int (s3.2.2.1 + 1)), none]) ⟨rfl, rfl, rfl, rfl, rfl, rfl, rfl, rfl, rfl, trivial⟩ (fun h => h)
    · refine jm_iload F dX2_bestTaught_94 rfl ?_
      exact jm_iret F dX2_bestTaught_96 (fun h => h)
  exact G r h hz
theorem dX8_taught_0 : jm_d cX8_taught 0 (.aload_n 0) 1 1 := ⟨by decide +kernel, rfl⟩
theorem dX8_taught_1 : jm_d cX8_taught 1 (.getfield 10) 3 4 := ⟨by decide +kernel, rfl⟩
theorem dX8_taught_4 : jm_d cX8_taught 4 (.iload_n 1) 1 5 := ⟨by decide +kernel, rfl⟩
theorem dX8_taught_5 : jm_d cX8_taught 5 (.invokevirtual 108) 3 8 := ⟨by decide +kernel, rfl⟩
theorem dX8_taught_8 : jm_b cX8_taught 8 (.ifCond .eq) 11 20 := ⟨12, by decide +kernel, rfl, by decide⟩
theorem dX8_taught_20 : jm_d cX8_taught 20 (.aload_n 0) 1 21 := ⟨by decide +kernel, rfl⟩
theorem dX8_taught_21 : jm_d cX8_taught 21 (.iconst (-1)) 1 22 := ⟨by decide +kernel, rfl⟩
theorem dX8_taught_22 : jm_d cX8_taught 22 (.invokevirtual 64) 3 25 := ⟨by decide +kernel, rfl⟩
theorem dX8_taught_25 : jm_d cX8_taught 25 (.ireturn) 1 26 := ⟨by decide +kernel, rfl⟩
theorem dX8_taught_11 : jm_d cX8_taught 11 (.aload_n 0) 1 12 := ⟨by decide +kernel, rfl⟩
theorem dX8_taught_12 : jm_d cX8_taught 12 (.iload_n 2) 1 13 := ⟨by decide +kernel, rfl⟩
theorem dX8_taught_13 : jm_d cX8_taught 13 (.iload_n 3) 1 14 := ⟨by decide +kernel, rfl⟩
theorem dX8_taught_14 : jm_d cX8_taught 14 (.invokevirtual 188) 3 17 := ⟨by decide +kernel, rfl⟩
theorem dX8_taught_17 : jm_b cX8_taught 17 (.ifCond .ne) 20 26 := ⟨9, by decide +kernel, rfl, by decide⟩
theorem dX8_taught_26 : jm_d cX8_taught 26 (.iload 4) 2 28 := ⟨by decide +kernel, rfl⟩
theorem dX8_taught_28 : jm_b cX8_taught 28 (.ifCond .ge) 31 38 := ⟨10, by decide +kernel, rfl, by decide⟩
theorem dX8_taught_38 : jm_d cX8_taught 38 (.iload 4) 2 40 := ⟨by decide +kernel, rfl⟩
theorem dX8_taught_40 : jm_d cX8_taught 40 (.bipush 60) 2 42 := ⟨by decide +kernel, rfl⟩
theorem dX8_taught_42 : jm_b cX8_taught 42 (.if_icmp .le) 45 52 := ⟨10, by decide +kernel, rfl, by decide⟩
theorem dX8_taught_52 : jm_d cX8_taught 52 (.aload_n 0) 1 53 := ⟨by decide +kernel, rfl⟩
theorem dX8_taught_53 : jm_d cX8_taught 53 (.getfield 36) 3 56 := ⟨by decide +kernel, rfl⟩
theorem dX8_taught_56 : jm_d cX8_taught 56 (.aload_n 0) 1 57 := ⟨by decide +kernel, rfl⟩
theorem dX8_taught_57 : jm_d cX8_taught 57 (.getfield 10) 3 60 := ⟨by decide +kernel, rfl⟩
theorem dX8_taught_60 : jm_d cX8_taught 60 (.iload_n 1) 1 61 := ⟨by decide +kernel, rfl⟩
theorem dX8_taught_61 : jm_d cX8_taught 61 (.iload_n 2) 1 62 := ⟨by decide +kernel, rfl⟩
theorem dX8_taught_62 : jm_d cX8_taught 62 (.iload_n 3) 1 63 := ⟨by decide +kernel, rfl⟩
theorem dX8_taught_63 : jm_d cX8_taught 63 (.iload 4) 2 65 := ⟨by decide +kernel, rfl⟩
theorem dX8_taught_65 : jm_d cX8_taught 65 (.invokevirtual 247) 3 68 := ⟨by decide +kernel, rfl⟩
theorem dX8_taught_68 : jm_d cX8_taught 68 (.ireturn) 1 69 := ⟨by decide +kernel, rfl⟩
theorem dX8_taught_45 : jm_d cX8_taught 45 (.aload_n 0) 1 46 := ⟨by decide +kernel, rfl⟩
theorem dX8_taught_46 : jm_d cX8_taught 46 (.bipush (-6)) 2 48 := ⟨by decide +kernel, rfl⟩
theorem dX8_taught_48 : jm_d cX8_taught 48 (.invokevirtual 64) 3 51 := ⟨by decide +kernel, rfl⟩
theorem dX8_taught_51 : jm_d cX8_taught 51 (.ireturn) 1 52 := ⟨by decide +kernel, rfl⟩
theorem dX8_taught_31 : jm_d cX8_taught 31 (.aload_n 0) 1 32 := ⟨by decide +kernel, rfl⟩
theorem dX8_taught_32 : jm_d cX8_taught 32 (.bipush (-4)) 2 34 := ⟨by decide +kernel, rfl⟩
theorem dX8_taught_34 : jm_d cX8_taught 34 (.invokevirtual 64) 3 37 := ⟨by decide +kernel, rfl⟩
theorem dX8_taught_37 : jm_d cX8_taught 37 (.ireturn) 1 38 := ⟨by decide +kernel, rfl⟩
set_option maxHeartbeats 4000000 in
set_option maxRecDepth 100000 in
theorem kW_taught (E : jm_Ev) (hE : jm_dj E jm_LC) {M : jm_M} {p1 : Int32} {p2 : Int32} {p3 : Int32} {p4 : Int32}  {r : Int32 × jm_M} (h : sW_taught M p1 p2 p3 p4 = some r) : jm_Ct E jm_LC yX8_taught cX8_taught 5 (some .int) 6 146 [.ref (jm_a E 0 0), .int p1, .int p2, .int p3, .int p4] M (some (.int r.1)) r.2 := by
  refine jm_enter (lv := [some (.ref (jm_a E 0 0)), some (.int p1), some (.int p2), some (.int p3), some (.int p4)]) hE (by decide) (Nat.le_of_ble_eq_true rfl) rfl ?_
  intro z w F hz
  have G : jm_G w 0 [some (.ref (jm_a E 0 0)), some (.int p1), some (.int p2), some (.int p3), some (.int p4)] [] M (sW_taught M p1 p2 p3 p4) (fun e => z (some (.int e.1)) e.2) := by
    unfold sW_taught
    refine jm_aload_n (i := 0) F dX8_taught_0 rfl rfl ?_
    refine jm_getR F dX8_taught_1 fl_X8_10 lo_X8 rfl ?_
    refine jm_iload_n (i := 1) F dX8_taught_4 rfl rfl ?_
    refine jm_callV (As := [.int p1]) (st := []) (rv := fun r => some (.int r)) (mm := fun _ => M) F dX8_taught_5 qX8_108 rfl (lo_T isT_1) rfl (fun r h => kT_hasPerson E hE isT_1 h) rfl (Nat.le_of_ble_eq_true rfl) ⟨Nat.le_of_ble_eq_true rfl, Nat.le_of_ble_eq_true rfl⟩ (fun r1 => ?_)
    refine jm_if_eq F dX8_taught_8 (fun c2 => ?_) (fun c2 => ?_)
    · refine jm_aload_n (i := 0) F dX8_taught_20 rfl rfl ?_
      refine jm_iconst F dX8_taught_21 kc_m1 ?_
      refine jm_callV (As := [.int (-1)]) (st := []) (rv := fun r => some (.int r.1)) (mm := fun r => r.2) F dX8_taught_22 qX8_64 rfl lo_X8 rfl (fun r h => kW_refuse E hE h) rfl (Nat.le_of_ble_eq_true rfl) ⟨Nat.le_of_ble_eq_true rfl, Nat.le_of_ble_eq_true rfl⟩ (fun r3 => ?_)
      exact jm_iret F dX8_taught_25 (fun h => h)
    · refine jm_aload_n (i := 0) F dX8_taught_11 rfl rfl ?_
      refine jm_iload_n (i := 2) F dX8_taught_12 rfl rfl ?_
      refine jm_iload_n (i := 3) F dX8_taught_13 rfl rfl ?_
      refine jm_callV (As := [.int p2, .int p3]) (st := []) (rv := fun r => some (.int r)) (mm := fun _ => M) F dX8_taught_14 qX8_188 rfl lo_X8 rfl (fun r h => kW_areTwo E hE h) rfl (Nat.le_of_ble_eq_true rfl) ⟨Nat.le_of_ble_eq_true rfl, Nat.le_of_ble_eq_true rfl⟩ (fun r4 => ?_)
      refine jm_if_ne F dX8_taught_17 (fun c5 => ?_) (fun c5 => ?_)
      · refine jm_aload_n (i := 0) F dX8_taught_20 rfl rfl ?_
        refine jm_iconst F dX8_taught_21 kc_m1 ?_
        refine jm_callV (As := [.int (-1)]) (st := []) (rv := fun r => some (.int r.1)) (mm := fun r => r.2) F dX8_taught_22 qX8_64 rfl lo_X8 rfl (fun r h => kW_refuse E hE h) rfl (Nat.le_of_ble_eq_true rfl) ⟨Nat.le_of_ble_eq_true rfl, Nat.le_of_ble_eq_true rfl⟩ (fun r6 => ?_)
        exact jm_iret F dX8_taught_25 (fun h => h)
      · refine jm_iload F dX8_taught_26 rfl ?_
        refine jm_if_ge F dX8_taught_28 (fun c7 => ?_) (fun c7 => ?_)
        · refine jm_iload F dX8_taught_38 rfl ?_
          refine jm_bipush F dX8_taught_40 kb_60 ?_
          refine jm_icmp_le F dX8_taught_42 (fun c8 => ?_) (fun c8 => ?_)
          · refine jm_aload_n (i := 0) F dX8_taught_52 rfl rfl ?_
            refine jm_getR F dX8_taught_53 fl_X8_36 lo_X8 rfl ?_
            refine jm_aload_n (i := 0) F dX8_taught_56 rfl rfl ?_
            refine jm_getR F dX8_taught_57 fl_X8_10 lo_X8 rfl ?_
            refine jm_iload_n (i := 1) F dX8_taught_60 rfl rfl ?_
            refine jm_iload_n (i := 2) F dX8_taught_61 rfl rfl ?_
            refine jm_iload_n (i := 3) F dX8_taught_62 rfl rfl ?_
            refine jm_iload F dX8_taught_63 rfl ?_
            refine jm_callV (As := [.ref (jm_a E 1 0), .int p1, .int p2, .int p3, .int p4]) (st := []) (rv := fun r => some (.int r.1)) (mm := fun r => r.2) F dX8_taught_65 qX8_247 rfl lo_X2 rfl (fun r h => kF_bestTaught E hE isT_1 h) rfl (Nat.le_of_ble_eq_true rfl) ⟨Nat.le_of_ble_eq_true rfl, Nat.le_of_ble_eq_true rfl⟩ (fun r9 => ?_)
            exact jm_iret F dX8_taught_68 (fun h => h)
          · refine jm_aload_n (i := 0) F dX8_taught_45 rfl rfl ?_
            refine jm_bipush F dX8_taught_46 kb_m6 ?_
            refine jm_callV (As := [.int (-6)]) (st := []) (rv := fun r => some (.int r.1)) (mm := fun r => r.2) F dX8_taught_48 qX8_64 rfl lo_X8 rfl (fun r h => kW_refuse E hE h) rfl (Nat.le_of_ble_eq_true rfl) ⟨Nat.le_of_ble_eq_true rfl, Nat.le_of_ble_eq_true rfl⟩ (fun r10 => ?_)
            exact jm_iret F dX8_taught_51 (fun h => h)
        · refine jm_aload_n (i := 0) F dX8_taught_31 rfl rfl ?_
          refine jm_bipush F dX8_taught_32 kb_m4 ?_
          refine jm_callV (As := [.int (-4)]) (st := []) (rv := fun r => some (.int r.1)) (mm := fun r => r.2) F dX8_taught_34 qX8_64 rfl lo_X8 rfl (fun r h => kW_refuse E hE h) rfl (Nat.le_of_ble_eq_true rfl) ⟨Nat.le_of_ble_eq_true rfl, Nat.le_of_ble_eq_true rfl⟩ (fun r11 => ?_)
          exact jm_iret F dX8_taught_37 (fun h => h)
  exact G r h hz
theorem dX2_bitsBy_0 : jm_d cX2_bitsBy 0 (.iload 6) 2 2 := ⟨by decide +kernel, rfl⟩
theorem dX2_bitsBy_2 : jm_b cX2_bitsBy 2 (.ifCond .eq) 5 15 := ⟨13, by decide +kernel, rfl, by decide⟩
theorem dX2_bitsBy_15 : jm_d cX2_bitsBy 15 (.aload_n 0) 1 16 := ⟨by decide +kernel, rfl⟩
theorem dX2_bitsBy_16 : jm_d cX2_bitsBy 16 (.getfield 12) 3 19 := ⟨by decide +kernel, rfl⟩
theorem dX2_bitsBy_19 : jm_d cX2_bitsBy 19 (.getfield 86) 3 22 := ⟨by decide +kernel, rfl⟩
theorem dX2_bitsBy_5 : jm_d cX2_bitsBy 5 (.aload_n 0) 1 6 := ⟨by decide +kernel, rfl⟩
theorem dX2_bitsBy_6 : jm_d cX2_bitsBy 6 (.getfield 12) 3 9 := ⟨by decide +kernel, rfl⟩
theorem dX2_bitsBy_9 : jm_d cX2_bitsBy 9 (.getfield 83) 3 12 := ⟨by decide +kernel, rfl⟩
theorem dX2_bitsBy_12 : jm_b cX2_bitsBy 12 .goto 15 22 := ⟨10, by decide +kernel, rfl, by decide⟩
theorem dX2_bitsBy_22 : jm_d cX2_bitsBy 22 (.astore 7) 2 24 := ⟨by decide +kernel, rfl⟩
theorem dX2_bitsBy_24 : jm_d cX2_bitsBy 24 (.iload 6) 2 26 := ⟨by decide +kernel, rfl⟩
theorem dX2_bitsBy_26 : jm_b cX2_bitsBy 26 (.ifCond .eq) 29 34 := ⟨8, by decide +kernel, rfl, by decide⟩
theorem dX2_bitsBy_34 : jm_d cX2_bitsBy 34 (.bipush 10) 2 36 := ⟨by decide +kernel, rfl⟩
theorem dX2_bitsBy_29 : jm_d cX2_bitsBy 29 (.bipush 8) 2 31 := ⟨by decide +kernel, rfl⟩
theorem dX2_bitsBy_31 : jm_b cX2_bitsBy 31 .goto 34 36 := ⟨5, by decide +kernel, rfl, by decide⟩
theorem dX2_bitsBy_36 : jm_d cX2_bitsBy 36 (.istore 8) 2 38 := ⟨by decide +kernel, rfl⟩
theorem dX2_bitsBy_38 : jm_d cX2_bitsBy 38 (.iconst 1) 1 39 := ⟨by decide +kernel, rfl⟩
theorem dX2_bitsBy_39 : jm_d cX2_bitsBy 39 (.iload 8) 2 41 := ⟨by decide +kernel, rfl⟩
theorem dX2_bitsBy_41 : jm_d cX2_bitsBy 41 (.ishl) 1 42 := ⟨by decide +kernel, rfl⟩
theorem dX2_bitsBy_42 : jm_d cX2_bitsBy 42 (.iconst 1) 1 43 := ⟨by decide +kernel, rfl⟩
theorem dX2_bitsBy_43 : jm_d cX2_bitsBy 43 (.isub) 1 44 := ⟨by decide +kernel, rfl⟩
theorem dX2_bitsBy_44 : jm_d cX2_bitsBy 44 (.istore 9) 2 46 := ⟨by decide +kernel, rfl⟩
theorem dX2_bitsBy_46 : jm_d cX2_bitsBy 46 (.iconst 0) 1 47 := ⟨by decide +kernel, rfl⟩
theorem dX2_bitsBy_47 : jm_d cX2_bitsBy 47 (.istore 10) 2 49 := ⟨by decide +kernel, rfl⟩
theorem dX2_bitsBy_49 : jm_d cX2_bitsBy 49 (.iload 10) 2 51 := ⟨by decide +kernel, rfl⟩
theorem dX2_bitsBy_51 : jm_d cX2_bitsBy 51 (.iload_n 2) 1 52 := ⟨by decide +kernel, rfl⟩
theorem dX2_bitsBy_52 : jm_b cX2_bitsBy 52 (.if_icmp .ge) 55 127 := ⟨75, by decide +kernel, rfl, by decide⟩
theorem dX2_bitsBy_55 : jm_d cX2_bitsBy 55 (.iload 10) 2 57 := ⟨by decide +kernel, rfl⟩
theorem dX2_bitsBy_57 : jm_d cX2_bitsBy 57 (.aload_n 1) 1 58 := ⟨by decide +kernel, rfl⟩
theorem dX2_bitsBy_58 : jm_d cX2_bitsBy 58 (.arraylength) 1 59 := ⟨by decide +kernel, rfl⟩
theorem dX2_bitsBy_59 : jm_b cX2_bitsBy 59 (.if_icmp .ge) 62 127 := ⟨68, by decide +kernel, rfl, by decide⟩
theorem dX2_bitsBy_62 : jm_d cX2_bitsBy 62 (.iconst 0) 1 63 := ⟨by decide +kernel, rfl⟩
theorem dX2_bitsBy_63 : jm_d cX2_bitsBy 63 (.istore 11) 2 65 := ⟨by decide +kernel, rfl⟩
theorem dX2_bitsBy_65 : jm_d cX2_bitsBy 65 (.iload 11) 2 67 := ⟨by decide +kernel, rfl⟩
theorem dX2_bitsBy_67 : jm_d cX2_bitsBy 67 (.iload 8) 2 69 := ⟨by decide +kernel, rfl⟩
theorem dX2_bitsBy_69 : jm_b cX2_bitsBy 69 (.if_icmp .ge) 72 113 := ⟨44, by decide +kernel, rfl, by decide⟩
theorem dX2_bitsBy_72 : jm_d cX2_bitsBy 72 (.aload 7) 2 74 := ⟨by decide +kernel, rfl⟩
theorem dX2_bitsBy_74 : jm_d cX2_bitsBy 74 (.iload 5) 2 76 := ⟨by decide +kernel, rfl⟩
theorem dX2_bitsBy_76 : jm_d cX2_bitsBy 76 (.iload 11) 2 78 := ⟨by decide +kernel, rfl⟩
theorem dX2_bitsBy_78 : jm_d cX2_bitsBy 78 (.iastore) 1 79 := ⟨by decide +kernel, rfl⟩
theorem dX2_bitsBy_79 : jm_d cX2_bitsBy 79 (.aload_n 0) 1 80 := ⟨by decide +kernel, rfl⟩
theorem dX2_bitsBy_80 : jm_d cX2_bitsBy 80 (.getfield 12) 3 83 := ⟨by decide +kernel, rfl⟩
theorem dX2_bitsBy_83 : jm_d cX2_bitsBy 83 (.iload_n 3) 1 84 := ⟨by decide +kernel, rfl⟩
theorem dX2_bitsBy_84 : jm_d cX2_bitsBy 84 (.iload 4) 2 86 := ⟨by decide +kernel, rfl⟩
theorem dX2_bitsBy_86 : jm_d cX2_bitsBy 86 (.invokevirtual 76) 3 89 := ⟨by decide +kernel, rfl⟩
theorem dX2_bitsBy_89 : jm_d cX2_bitsBy 89 (.aload_n 1) 1 90 := ⟨by decide +kernel, rfl⟩
theorem dX2_bitsBy_90 : jm_d cX2_bitsBy 90 (.iload 10) 2 92 := ⟨by decide +kernel, rfl⟩
theorem dX2_bitsBy_92 : jm_d cX2_bitsBy 92 (.iaload) 1 93 := ⟨by decide +kernel, rfl⟩
theorem dX2_bitsBy_93 : jm_b cX2_bitsBy 93 (.if_icmp .eq) 96 107 := ⟨14, by decide +kernel, rfl, by decide⟩
theorem dX2_bitsBy_107 : jm_d cX2_bitsBy 107 (.iinc 11 1) 3 110 := ⟨by decide +kernel, rfl⟩
theorem dX2_bitsBy_110 : jm_b cX2_bitsBy 110 .goto 113 65 := ⟨(-45), by decide +kernel, rfl, by decide⟩
theorem dX2_bitsBy_96 : jm_d cX2_bitsBy 96 (.iload 9) 2 98 := ⟨by decide +kernel, rfl⟩
theorem dX2_bitsBy_98 : jm_d cX2_bitsBy 98 (.iconst 1) 1 99 := ⟨by decide +kernel, rfl⟩
theorem dX2_bitsBy_99 : jm_d cX2_bitsBy 99 (.iload 11) 2 101 := ⟨by decide +kernel, rfl⟩
theorem dX2_bitsBy_101 : jm_d cX2_bitsBy 101 (.ishl) 1 102 := ⟨by decide +kernel, rfl⟩
theorem dX2_bitsBy_102 : jm_d cX2_bitsBy 102 (.iconst (-1)) 1 103 := ⟨by decide +kernel, rfl⟩
theorem dX2_bitsBy_103 : jm_d cX2_bitsBy 103 (.ixor) 1 104 := ⟨by decide +kernel, rfl⟩
theorem dX2_bitsBy_104 : jm_d cX2_bitsBy 104 (.iand) 1 105 := ⟨by decide +kernel, rfl⟩
theorem dX2_bitsBy_105 : jm_d cX2_bitsBy 105 (.istore 9) 2 107 := ⟨by decide +kernel, rfl⟩
theorem dX2_bitsBy_113 : jm_d cX2_bitsBy 113 (.aload_n 0) 1 114 := ⟨by decide +kernel, rfl⟩
theorem dX2_bitsBy_114 : jm_d cX2_bitsBy 114 (.getfield 12) 3 117 := ⟨by decide +kernel, rfl⟩
theorem dX2_bitsBy_117 : jm_d cX2_bitsBy 117 (.iconst 1) 1 118 := ⟨by decide +kernel, rfl⟩
theorem dX2_bitsBy_118 : jm_d cX2_bitsBy 118 (.invokevirtual 44) 3 121 := ⟨by decide +kernel, rfl⟩
theorem dX2_bitsBy_121 : jm_d cX2_bitsBy 121 (.iinc 10 1) 3 124 := ⟨by decide +kernel, rfl⟩
theorem dX2_bitsBy_124 : jm_b cX2_bitsBy 124 .goto 127 49 := ⟨(-75), by decide +kernel, rfl, by decide⟩
theorem dX2_bitsBy_127 : jm_d cX2_bitsBy 127 (.iload 9) 2 129 := ⟨by decide +kernel, rfl⟩
theorem dX2_bitsBy_129 : jm_d cX2_bitsBy 129 (.ireturn) 1 130 := ⟨by decide +kernel, rfl⟩
set_option maxHeartbeats 4000000 in
set_option maxRecDepth 100000 in
theorem kF_bitsBy (E : jm_Ev) (hE : jm_dj E jm_LC) {M : jm_M} {p1 : Nat × Nat} {p2 : Int32} {p3 : Int32} {p4 : Int32} {p5 : Int32} {p6 : Int32}  {r : Int32 × jm_M} (h : sF_bitsBy M p1 p2 p3 p4 p5 p6 = some r) : jm_Ct E jm_LC yX2_bitsBy cX2_bitsBy 12 (some .int) 4 117 [.ref (jm_a E 15 0), .ref (jm_a E p1.1 p1.2), .int p2, .int p3, .int p4, .int p5, .int p6] M (some (.int r.1)) r.2 := by
  refine jm_enter (lv := [some (.ref (jm_a E 15 0)), some (.ref (jm_a E p1.1 p1.2)), some (.int p2), some (.int p3), some (.int p4), some (.int p5), some (.int p6), none, none, none, none, none]) hE (by decide) (Nat.le_of_ble_eq_true rfl) rfl ?_
  intro z w F hz
  have G : jm_G w 0 [some (.ref (jm_a E 15 0)), some (.ref (jm_a E p1.1 p1.2)), some (.int p2), some (.int p3), some (.int p4), some (.int p5), some (.int p6), none, none, none, none, none] [] M (sF_bitsBy M p1 p2 p3 p4 p5 p6) (fun e => z (some (.int e.1)) e.2) := by
    unfold sF_bitsBy
    refine jm_iload F dX2_bitsBy_0 rfl ?_
    refine jm_bind (pcJ := 22) (lvJ := fun e1 => [some (.ref (jm_a E 15 0)), some (.ref (jm_a E p1.1 p1.2)), some (.int p2), some (.int p3), some (.int p4), some (.int p5), some (.int p6), none, none, none, none, none]) (stJ := fun e1 => [.ref (jm_a E e1.1 e1.2)]) (MJ := fun e1 => M) ?_ (fun e1 => ?_)
    · refine jm_if_eq F dX2_bitsBy_2 (fun c2 => ?_) (fun c2 => ?_)
      · refine jm_aload_n (i := 0) F dX2_bitsBy_15 rfl rfl ?_
        refine jm_getR F dX2_bitsBy_16 fl_X2_12 lo_X2 rfl ?_
        refine jm_getR F dX2_bitsBy_19 fl_X2_86 (lo_T isT_4) rfl ?_
        exact jm_weakD F (lv' := [some (.ref (jm_a E 15 0)), some (.ref (jm_a E p1.1 p1.2)), some (.int p2), some (.int p3), some (.int p4), some (.int p5), some (.int p6), none, none, none, none, none]) ⟨rfl, rfl, rfl, rfl, rfl, rfl, rfl, trivial⟩ (fun h => h)
      · refine jm_aload_n (i := 0) F dX2_bitsBy_5 rfl rfl ?_
        refine jm_getR F dX2_bitsBy_6 fl_X2_12 lo_X2 rfl ?_
        refine jm_getR F dX2_bitsBy_9 fl_X2_83 (lo_T isT_4) rfl ?_
        refine jm_goto F dX2_bitsBy_12 ?_
        exact jm_weakD F (lv' := [some (.ref (jm_a E 15 0)), some (.ref (jm_a E p1.1 p1.2)), some (.int p2), some (.int p3), some (.int p4), some (.int p5), some (.int p6), none, none, none, none, none]) ⟨rfl, rfl, rfl, rfl, rfl, rfl, rfl, trivial⟩ (fun h => h)
    · refine jm_astore (i := 7) (lv' := [some (.ref (jm_a E 15 0)), some (.ref (jm_a E p1.1 p1.2)), some (.int p2), some (.int p3), some (.int p4), some (.int p5), some (.int p6), some (.ref (jm_a E e1.1 e1.2)), none, none, none, none]) F dX2_bitsBy_22 (by decide) rfl rfl ?_
      refine jm_iload F dX2_bitsBy_24 rfl ?_
      refine jm_bind (pcJ := 36) (lvJ := fun e3 => [some (.ref (jm_a E 15 0)), some (.ref (jm_a E p1.1 p1.2)), some (.int p2), some (.int p3), some (.int p4), some (.int p5), none, some (.ref (jm_a E e1.1 e1.2)), none, none, none, none]) (stJ := fun e3 => [.int e3]) (MJ := fun e3 => M) ?_ (fun e3 => ?_)
      · refine jm_if_eq F dX2_bitsBy_26 (fun c4 => ?_) (fun c4 => ?_)
        · refine jm_bipush F dX2_bitsBy_34 kb_10 ?_
          exact jm_weakD F (lv' := [some (.ref (jm_a E 15 0)), some (.ref (jm_a E p1.1 p1.2)), some (.int p2), some (.int p3), some (.int p4), some (.int p5), none, some (.ref (jm_a E e1.1 e1.2)), none, none, none, none]) ⟨rfl, rfl, rfl, rfl, rfl, rfl, rfl, trivial⟩ (fun h => h)
        · refine jm_bipush F dX2_bitsBy_29 kb_8 ?_
          refine jm_goto F dX2_bitsBy_31 ?_
          exact jm_weakD F (lv' := [some (.ref (jm_a E 15 0)), some (.ref (jm_a E p1.1 p1.2)), some (.int p2), some (.int p3), some (.int p4), some (.int p5), none, some (.ref (jm_a E e1.1 e1.2)), none, none, none, none]) ⟨rfl, rfl, rfl, rfl, rfl, rfl, rfl, trivial⟩ (fun h => h)
      · refine jm_istore (i := 8) (lv' := [some (.ref (jm_a E 15 0)), some (.ref (jm_a E p1.1 p1.2)), some (.int p2), some (.int p3), some (.int p4), some (.int p5), none, some (.ref (jm_a E e1.1 e1.2)), some (.int e3), none, none, none]) F dX2_bitsBy_36 (by decide) rfl rfl ?_
        refine jm_iconst F dX2_bitsBy_38 kc_1 ?_
        refine jm_iload F dX2_bitsBy_39 rfl ?_
        refine jm_ishl F dX2_bitsBy_41 ?_
        refine jm_iconst F dX2_bitsBy_42 kc_1 ?_
        refine jm_isub F dX2_bitsBy_43 ?_
        refine jm_nameI (f := fun x5 => [.int x5]) (fun x5 => ?_) rfl
        refine jm_istore (i := 9) (lv' := [some (.ref (jm_a E 15 0)), some (.ref (jm_a E p1.1 p1.2)), some (.int p2), some (.int p3), some (.int p4), some (.int p5), none, some (.ref (jm_a E e1.1 e1.2)), some (.int e3), some (.int x5), none, none]) F dX2_bitsBy_44 (by decide) rfl rfl ?_
        refine jm_iconst F dX2_bitsBy_46 kc_0 ?_
        refine jm_istore (i := 10) (lv' := [some (.ref (jm_a E 15 0)), some (.ref (jm_a E p1.1 p1.2)), some (.int p2), some (.int p3), some (.int p4), some (.int p5), none, some (.ref (jm_a E e1.1 e1.2)), some (.int e3), some (.int x5), some (.int 0), none]) F dX2_bitsBy_47 (by decide) rfl rfl ?_
        refine jm_bind (pcJ := 127) (lvJ := fun e21 => [none, none, none, none, none, none, none, none, none, some (.int e21.1), none, none]) (stJ := fun _ => []) (MJ := fun e21 => e21.2) ?_ (fun e21 => ?_)
        · refine jm_weak F (lv' := [some (.ref (jm_a E 15 0)), some (.ref (jm_a E p1.1 p1.2)), some (.int p2), some (.int p3), some (.int p4), some (.int p5), none, some (.ref (jm_a E e1.1 e1.2)), some (.int e3), some (.int x5), some (.int 0), none]) ⟨rfl, rfl, rfl, rfl, rfl, rfl, rfl, rfl, rfl, rfl, trivial⟩ ?_
          refine jm_loopR (lvH := fun s6 => [some (.ref (jm_a E 15 0)), some (.ref (jm_a E p1.1 p1.2)), some (.int p2), some (.int p3), some (.int p4), some (.int p5), none, some (.ref (jm_a E e1.1 e1.2)), some (.int e3), some (.int s6.1), some (.int s6.2.1), none]) (MH := fun s6 => s6.2.2) (fun s6 => ?_) jm_N (x5, 0, M)
          unfold sF_bitsBy_L49
          refine jm_iload F dX2_bitsBy_49 rfl ?_
          refine jm_iload_n (i := 2) F dX2_bitsBy_51 rfl rfl ?_
          refine jm_icmp_ge F dX2_bitsBy_52 (fun c7 => ?_) (fun c7 => ?_)
          · exact jm_weakD F (lv' := [none, none, none, none, none, none, none, none, none, some (.int s6.1), none, none]) ⟨rfl, trivial⟩ (fun h => h)
          · refine jm_iload F dX2_bitsBy_55 rfl ?_
            refine jm_aload_n (i := 1) F dX2_bitsBy_57 rfl rfl ?_
            refine jm_lenB (r := p1) (fun N8 hN8 => ?_)
            refine jm_alen F dX2_bitsBy_58 hN8 ?_
            refine jm_icmp_ge F dX2_bitsBy_59 (fun c9 => ?_) (fun c9 => ?_)
            · exact jm_weakD F (lv' := [none, none, none, none, none, none, none, none, none, some (.int s6.1), none, none]) ⟨rfl, trivial⟩ (fun h => h)
            · refine jm_iconst F dX2_bitsBy_62 kc_0 ?_
              refine jm_istore (i := 11) (lv' := [some (.ref (jm_a E 15 0)), some (.ref (jm_a E p1.1 p1.2)), some (.int p2), some (.int p3), some (.int p4), some (.int p5), none, some (.ref (jm_a E e1.1 e1.2)), some (.int e3), some (.int s6.1), some (.int s6.2.1), some (.int 0)]) F dX2_bitsBy_63 (by decide) rfl rfl ?_
              refine jm_bind (pcJ := 113) (lvJ := fun e19 => [some (.ref (jm_a E 15 0)), some (.ref (jm_a E p1.1 p1.2)), some (.int p2), some (.int p3), some (.int p4), some (.int p5), none, some (.ref (jm_a E e1.1 e1.2)), some (.int e3), some (.int e19.1), some (.int s6.2.1), none]) (stJ := fun _ => []) (MJ := fun e19 => e19.2) ?_ (fun e19 => ?_)
              · refine jm_weak F (lv' := [some (.ref (jm_a E 15 0)), some (.ref (jm_a E p1.1 p1.2)), some (.int p2), some (.int p3), some (.int p4), some (.int p5), none, some (.ref (jm_a E e1.1 e1.2)), some (.int e3), some (.int s6.1), some (.int s6.2.1), some (.int 0)]) ⟨rfl, rfl, rfl, rfl, rfl, rfl, rfl, rfl, rfl, rfl, rfl, trivial⟩ ?_
                refine jm_loopR (lvH := fun s10 => [some (.ref (jm_a E 15 0)), some (.ref (jm_a E p1.1 p1.2)), some (.int p2), some (.int p3), some (.int p4), some (.int p5), none, some (.ref (jm_a E e1.1 e1.2)), some (.int e3), some (.int s10.1), some (.int s6.2.1), some (.int s10.2.1)]) (MH := fun s10 => s10.2.2) (fun s10 => ?_) jm_N (s6.1, 0, s6.2.2)
                unfold sF_bitsBy_L65
                refine jm_iload F dX2_bitsBy_65 rfl ?_
                refine jm_iload F dX2_bitsBy_67 rfl ?_
                refine jm_icmp_ge F dX2_bitsBy_69 (fun c11 => ?_) (fun c11 => ?_)
                · exact jm_weakD F (lv' := [some (.ref (jm_a E 15 0)), some (.ref (jm_a E p1.1 p1.2)), some (.int p2), some (.int p3), some (.int p4), some (.int p5), none, some (.ref (jm_a E e1.1 e1.2)), some (.int e3), some (.int s10.1), some (.int s6.2.1), none]) ⟨rfl, rfl, rfl, rfl, rfl, rfl, rfl, rfl, rfl, rfl, trivial⟩ (fun h => h)
                · refine jm_aload F dX2_bitsBy_72 rfl ?_
                  refine jm_iload F dX2_bitsBy_74 rfl ?_
                  refine jm_iload F dX2_bitsBy_76 rfl ?_
                  refine jm_lenB (r := e1) (fun N12 hN12 => ?_)
                  refine jm_iast F dX2_bitsBy_78 hN12 (fun M13 => ?_)
                  refine jm_aload_n (i := 0) F dX2_bitsBy_79 rfl rfl ?_
                  refine jm_getR F dX2_bitsBy_80 fl_X2_12 lo_X2 rfl ?_
                  refine jm_iload_n (i := 3) F dX2_bitsBy_83 rfl rfl ?_
                  refine jm_iload F dX2_bitsBy_84 rfl ?_
                  refine jm_callV (As := [.int p3, .int p4]) (st := []) (rv := fun r => some (.int r)) (mm := fun _ => M13) F dX2_bitsBy_86 qX2_76 rfl (lo_T isT_4) rfl (fun r h => kT_overOf E hE isT_4 h) rfl (Nat.le_of_ble_eq_true rfl) ⟨Nat.le_of_ble_eq_true rfl, Nat.le_of_ble_eq_true rfl⟩ (fun r14 => ?_)
                  refine jm_aload_n (i := 1) F dX2_bitsBy_89 rfl rfl ?_
                  refine jm_iload F dX2_bitsBy_90 rfl ?_
                  refine jm_lenB (r := p1) (fun N15 hN15 => ?_)
                  refine jm_iald F dX2_bitsBy_92 hN15 (fun v16 => ?_)
                  refine jm_icmp_eq F dX2_bitsBy_93 (fun c17 => ?_) (fun c17 => ?_)
                  · refine jm_iinc (i := 11) (lv' := [some (.ref (jm_a E 15 0)), some (.ref (jm_a E p1.1 p1.2)), some (.int p2), some (.int p3), some (.int p4), some (.int p5), none, some (.ref (jm_a E e1.1 e1.2)), some (.int e3), some (.int s10.1), some (.int s6.2.1), some (.int (s10.2.1 + 1))]) F dX2_bitsBy_107 kc_1 rfl (by decide) rfl rfl ?_
                    refine jm_goto F dX2_bitsBy_110 ?_
                    exact jm_weakD F (lv' := [some (.ref (jm_a E 15 0)), some (.ref (jm_a E p1.1 p1.2)), some (.int p2), some (.int p3), some (.int p4), some (.int p5), none, some (.ref (jm_a E e1.1 e1.2)), some (.int e3), some (.int s10.1), some (.int s6.2.1), some (.int (s10.2.1 + 1))]) ⟨rfl, rfl, rfl, rfl, rfl, rfl, rfl, rfl, rfl, rfl, rfl, trivial⟩ (fun h => h)
                  · refine jm_iload F dX2_bitsBy_96 rfl ?_
                    refine jm_iconst F dX2_bitsBy_98 kc_1 ?_
                    refine jm_iload F dX2_bitsBy_99 rfl ?_
                    refine jm_ishl F dX2_bitsBy_101 ?_
                    refine jm_iconst F dX2_bitsBy_102 kc_m1 ?_
                    refine jm_ixor F dX2_bitsBy_103 ?_
                    refine jm_iand F dX2_bitsBy_104 ?_
                    refine jm_nameI (f := fun x18 => [.int x18]) (fun x18 => ?_) rfl
                    refine jm_istore (i := 9) (lv' := [some (.ref (jm_a E 15 0)), some (.ref (jm_a E p1.1 p1.2)), some (.int p2), some (.int p3), some (.int p4), some (.int p5), none, some (.ref (jm_a E e1.1 e1.2)), some (.int e3), some (.int x18), some (.int s6.2.1), some (.int s10.2.1)]) F dX2_bitsBy_105 (by decide) rfl rfl ?_
                    refine jm_iinc (i := 11) (lv' := [some (.ref (jm_a E 15 0)), some (.ref (jm_a E p1.1 p1.2)), some (.int p2), some (.int p3), some (.int p4), some (.int p5), none, some (.ref (jm_a E e1.1 e1.2)), some (.int e3), some (.int x18), some (.int s6.2.1), some (.int (s10.2.1 + 1))]) F dX2_bitsBy_107 kc_1 rfl (by decide) rfl rfl ?_
                    refine jm_goto F dX2_bitsBy_110 ?_
                    exact jm_weakD F (lv' := [some (.ref (jm_a E 15 0)), some (.ref (jm_a E p1.1 p1.2)), some (.int p2), some (.int p3), some (.int p4), some (.int p5), none, some (.ref (jm_a E e1.1 e1.2)), some (.int e3), some (.int x18), some (.int s6.2.1), some (.int (s10.2.1 + 1))]) ⟨rfl, rfl, rfl, rfl, rfl, rfl, rfl, rfl, rfl, rfl, rfl, trivial⟩ (fun h => h)
              · refine jm_aload_n (i := 0) F dX2_bitsBy_113 rfl rfl ?_
                refine jm_getR F dX2_bitsBy_114 fl_X2_12 lo_X2 rfl ?_
                refine jm_iconst F dX2_bitsBy_117 kc_1 ?_
                refine jm_callV (As := [.int 1]) (st := []) (rv := fun _ => none) (mm := fun r => r) F dX2_bitsBy_118 qX2_44 rfl (lo_T isT_4) rfl (fun r h => kT_weekPasses E hE isT_4 h) rfl (Nat.le_of_ble_eq_true rfl) ⟨Nat.le_of_ble_eq_true rfl, Nat.le_of_ble_eq_true rfl⟩ (fun r20 => ?_)
                refine jm_iinc (i := 10) (lv' := [some (.ref (jm_a E 15 0)), some (.ref (jm_a E p1.1 p1.2)), some (.int p2), some (.int p3), some (.int p4), some (.int p5), none, some (.ref (jm_a E e1.1 e1.2)), some (.int e3), some (.int e19.1), some (.int (s6.2.1 + 1)), none]) F dX2_bitsBy_121 kc_1 rfl (by decide) rfl rfl ?_
                refine jm_goto F dX2_bitsBy_124 ?_
                exact jm_weakD F (lv' := [some (.ref (jm_a E 15 0)), some (.ref (jm_a E p1.1 p1.2)), some (.int p2), some (.int p3), some (.int p4), some (.int p5), none, some (.ref (jm_a E e1.1 e1.2)), some (.int e3), some (.int e19.1), some (.int (s6.2.1 + 1)), none]) ⟨rfl, rfl, rfl, rfl, rfl, rfl, rfl, rfl, rfl, rfl, trivial⟩ (fun h => h)
        · refine jm_iload F dX2_bitsBy_127 rfl ?_
          exact jm_iret F dX2_bitsBy_129 (fun h => h)
  exact G r h hz
theorem dX8_whatKind_0 : jm_d cX8_whatKind 0 (.aload_n 0) 1 1 := ⟨by decide +kernel, rfl⟩
theorem dX8_whatKind_1 : jm_d cX8_whatKind 1 (.iload_n 1) 1 2 := ⟨by decide +kernel, rfl⟩
theorem dX8_whatKind_2 : jm_d cX8_whatKind 2 (.iload_n 2) 1 3 := ⟨by decide +kernel, rfl⟩
theorem dX8_whatKind_3 : jm_d cX8_whatKind 3 (.invokevirtual 188) 3 6 := ⟨by decide +kernel, rfl⟩
theorem dX8_whatKind_6 : jm_b cX8_whatKind 6 (.ifCond .eq) 9 20 := ⟨14, by decide +kernel, rfl, by decide⟩
theorem dX8_whatKind_20 : jm_d cX8_whatKind 20 (.aload_n 0) 1 21 := ⟨by decide +kernel, rfl⟩
theorem dX8_whatKind_21 : jm_d cX8_whatKind 21 (.iconst (-1)) 1 22 := ⟨by decide +kernel, rfl⟩
theorem dX8_whatKind_22 : jm_d cX8_whatKind 22 (.invokevirtual 64) 3 25 := ⟨by decide +kernel, rfl⟩
theorem dX8_whatKind_25 : jm_d cX8_whatKind 25 (.ireturn) 1 26 := ⟨by decide +kernel, rfl⟩
theorem dX8_whatKind_9 : jm_d cX8_whatKind 9 (.aload_n 0) 1 10 := ⟨by decide +kernel, rfl⟩
theorem dX8_whatKind_10 : jm_d cX8_whatKind 10 (.getfield 10) 3 13 := ⟨by decide +kernel, rfl⟩
theorem dX8_whatKind_13 : jm_d cX8_whatKind 13 (.iload_n 3) 1 14 := ⟨by decide +kernel, rfl⟩
theorem dX8_whatKind_14 : jm_d cX8_whatKind 14 (.invokevirtual 133) 3 17 := ⟨by decide +kernel, rfl⟩
theorem dX8_whatKind_17 : jm_b cX8_whatKind 17 (.ifCond .ne) 20 26 := ⟨9, by decide +kernel, rfl, by decide⟩
theorem dX8_whatKind_26 : jm_d cX8_whatKind 26 (.aload_n 0) 1 27 := ⟨by decide +kernel, rfl⟩
theorem dX8_whatKind_27 : jm_d cX8_whatKind 27 (.iload 4) 2 29 := ⟨by decide +kernel, rfl⟩
theorem dX8_whatKind_29 : jm_d cX8_whatKind 29 (.invokevirtual 199) 3 32 := ⟨by decide +kernel, rfl⟩
theorem dX8_whatKind_32 : jm_b cX8_whatKind 32 (.ifCond .eq) 35 42 := ⟨10, by decide +kernel, rfl, by decide⟩
theorem dX8_whatKind_42 : jm_d cX8_whatKind 42 (.aload_n 0) 1 43 := ⟨by decide +kernel, rfl⟩
theorem dX8_whatKind_43 : jm_d cX8_whatKind 43 (.getfield 36) 3 46 := ⟨by decide +kernel, rfl⟩
theorem dX8_whatKind_46 : jm_d cX8_whatKind 46 (.aload_n 0) 1 47 := ⟨by decide +kernel, rfl⟩
theorem dX8_whatKind_47 : jm_d cX8_whatKind 47 (.getfield 10) 3 50 := ⟨by decide +kernel, rfl⟩
theorem dX8_whatKind_50 : jm_d cX8_whatKind 50 (.invokevirtual 251) 3 53 := ⟨by decide +kernel, rfl⟩
theorem dX8_whatKind_53 : jm_d cX8_whatKind 53 (.aload_n 0) 1 54 := ⟨by decide +kernel, rfl⟩
theorem dX8_whatKind_54 : jm_d cX8_whatKind 54 (.getfield 36) 3 57 := ⟨by decide +kernel, rfl⟩
theorem dX8_whatKind_57 : jm_d cX8_whatKind 57 (.aload_n 0) 1 58 := ⟨by decide +kernel, rfl⟩
theorem dX8_whatKind_58 : jm_d cX8_whatKind 58 (.getfield 58) 3 61 := ⟨by decide +kernel, rfl⟩
theorem dX8_whatKind_61 : jm_d cX8_whatKind 61 (.aload_n 0) 1 62 := ⟨by decide +kernel, rfl⟩
theorem dX8_whatKind_62 : jm_d cX8_whatKind 62 (.getfield 254) 3 65 := ⟨by decide +kernel, rfl⟩
theorem dX8_whatKind_65 : jm_d cX8_whatKind 65 (.iload_n 1) 1 66 := ⟨by decide +kernel, rfl⟩
theorem dX8_whatKind_66 : jm_d cX8_whatKind 66 (.iload_n 2) 1 67 := ⟨by decide +kernel, rfl⟩
theorem dX8_whatKind_67 : jm_d cX8_whatKind 67 (.iload_n 3) 1 68 := ⟨by decide +kernel, rfl⟩
theorem dX8_whatKind_68 : jm_d cX8_whatKind 68 (.iload 4) 2 70 := ⟨by decide +kernel, rfl⟩
theorem dX8_whatKind_70 : jm_b cX8_whatKind 70 (.ifCond .ne) 73 77 := ⟨7, by decide +kernel, rfl, by decide⟩
theorem dX8_whatKind_73 : jm_d cX8_whatKind 73 (.iconst 1) 1 74 := ⟨by decide +kernel, rfl⟩
theorem dX8_whatKind_74 : jm_b cX8_whatKind 74 .goto 77 78 := ⟨4, by decide +kernel, rfl, by decide⟩
theorem dX8_whatKind_77 : jm_d cX8_whatKind 77 (.iconst 0) 1 78 := ⟨by decide +kernel, rfl⟩
theorem dX8_whatKind_78 : jm_d cX8_whatKind 78 (.invokevirtual 257) 3 81 := ⟨by decide +kernel, rfl⟩
theorem dX8_whatKind_81 : jm_d cX8_whatKind 81 (.ireturn) 1 82 := ⟨by decide +kernel, rfl⟩
theorem dX8_whatKind_35 : jm_d cX8_whatKind 35 (.aload_n 0) 1 36 := ⟨by decide +kernel, rfl⟩
theorem dX8_whatKind_36 : jm_d cX8_whatKind 36 (.bipush (-2)) 2 38 := ⟨by decide +kernel, rfl⟩
theorem dX8_whatKind_38 : jm_d cX8_whatKind 38 (.invokevirtual 64) 3 41 := ⟨by decide +kernel, rfl⟩
theorem dX8_whatKind_41 : jm_d cX8_whatKind 41 (.ireturn) 1 42 := ⟨by decide +kernel, rfl⟩
set_option maxHeartbeats 4000000 in
set_option maxRecDepth 100000 in
theorem kW_whatKind (E : jm_Ev) (hE : jm_dj E jm_LC) {M : jm_M} {p1 : Int32} {p2 : Int32} {p3 : Int32} {p4 : Int32}  {r : Int32 × jm_M} (h : sW_whatKind M p1 p2 p3 p4 = some r) : jm_Ct E jm_LC yX8_whatKind cX8_whatKind 5 (some .int) 5 148 [.ref (jm_a E 0 0), .int p1, .int p2, .int p3, .int p4] M (some (.int r.1)) r.2 := by
  refine jm_enter (lv := [some (.ref (jm_a E 0 0)), some (.int p1), some (.int p2), some (.int p3), some (.int p4)]) hE (by decide) (Nat.le_of_ble_eq_true rfl) rfl ?_
  intro z w F hz
  have G : jm_G w 0 [some (.ref (jm_a E 0 0)), some (.int p1), some (.int p2), some (.int p3), some (.int p4)] [] M (sW_whatKind M p1 p2 p3 p4) (fun e => z (some (.int e.1)) e.2) := by
    unfold sW_whatKind
    refine jm_aload_n (i := 0) F dX8_whatKind_0 rfl rfl ?_
    refine jm_iload_n (i := 1) F dX8_whatKind_1 rfl rfl ?_
    refine jm_iload_n (i := 2) F dX8_whatKind_2 rfl rfl ?_
    refine jm_callV (As := [.int p1, .int p2]) (st := []) (rv := fun r => some (.int r)) (mm := fun _ => M) F dX8_whatKind_3 qX8_188 rfl lo_X8 rfl (fun r h => kW_areTwo E hE h) rfl (Nat.le_of_ble_eq_true rfl) ⟨Nat.le_of_ble_eq_true rfl, Nat.le_of_ble_eq_true rfl⟩ (fun r1 => ?_)
    refine jm_if_eq F dX8_whatKind_6 (fun c2 => ?_) (fun c2 => ?_)
    · refine jm_aload_n (i := 0) F dX8_whatKind_20 rfl rfl ?_
      refine jm_iconst F dX8_whatKind_21 kc_m1 ?_
      refine jm_callV (As := [.int (-1)]) (st := []) (rv := fun r => some (.int r.1)) (mm := fun r => r.2) F dX8_whatKind_22 qX8_64 rfl lo_X8 rfl (fun r h => kW_refuse E hE h) rfl (Nat.le_of_ble_eq_true rfl) ⟨Nat.le_of_ble_eq_true rfl, Nat.le_of_ble_eq_true rfl⟩ (fun r3 => ?_)
      exact jm_iret F dX8_whatKind_25 (fun h => h)
    · refine jm_aload_n (i := 0) F dX8_whatKind_9 rfl rfl ?_
      refine jm_getR F dX8_whatKind_10 fl_X8_10 lo_X8 rfl ?_
      refine jm_iload_n (i := 3) F dX8_whatKind_13 rfl rfl ?_
      refine jm_callV (As := [.int p3]) (st := []) (rv := fun r => some (.int r)) (mm := fun _ => M) F dX8_whatKind_14 qX8_133 rfl (lo_T isT_1) rfl (fun r h => kT_hasBook E hE isT_1 h) rfl (Nat.le_of_ble_eq_true rfl) ⟨Nat.le_of_ble_eq_true rfl, Nat.le_of_ble_eq_true rfl⟩ (fun r4 => ?_)
      refine jm_if_ne F dX8_whatKind_17 (fun c5 => ?_) (fun c5 => ?_)
      · refine jm_aload_n (i := 0) F dX8_whatKind_20 rfl rfl ?_
        refine jm_iconst F dX8_whatKind_21 kc_m1 ?_
        refine jm_callV (As := [.int (-1)]) (st := []) (rv := fun r => some (.int r.1)) (mm := fun r => r.2) F dX8_whatKind_22 qX8_64 rfl lo_X8 rfl (fun r h => kW_refuse E hE h) rfl (Nat.le_of_ble_eq_true rfl) ⟨Nat.le_of_ble_eq_true rfl, Nat.le_of_ble_eq_true rfl⟩ (fun r6 => ?_)
        exact jm_iret F dX8_whatKind_25 (fun h => h)
      · refine jm_aload_n (i := 0) F dX8_whatKind_26 rfl rfl ?_
        refine jm_iload F dX8_whatKind_27 rfl ?_
        refine jm_callV (As := [.int p4]) (st := []) (rv := fun r => some (.int r)) (mm := fun _ => M) F dX8_whatKind_29 qX8_199 rfl lo_X8 rfl (fun r h => kW_isNeither E hE h) rfl (Nat.le_of_ble_eq_true rfl) ⟨Nat.le_of_ble_eq_true rfl, Nat.le_of_ble_eq_true rfl⟩ (fun r7 => ?_)
        refine jm_if_eq F dX8_whatKind_32 (fun c8 => ?_) (fun c8 => ?_)
        · refine jm_aload_n (i := 0) F dX8_whatKind_42 rfl rfl ?_
          refine jm_getR F dX8_whatKind_43 fl_X8_36 lo_X8 rfl ?_
          refine jm_aload_n (i := 0) F dX8_whatKind_46 rfl rfl ?_
          refine jm_getR F dX8_whatKind_47 fl_X8_10 lo_X8 rfl ?_
          refine jm_callV (As := [.ref (jm_a E 1 0)]) (st := []) (rv := fun _ => none) (mm := fun r => r) F dX8_whatKind_50 qX8_251 rfl lo_X2 rfl (fun r h => kF_think E hE isT_1 h) rfl (Nat.le_of_ble_eq_true rfl) ⟨Nat.le_of_ble_eq_true rfl, Nat.le_of_ble_eq_true rfl⟩ (fun r9 => ?_)
          refine jm_aload_n (i := 0) F dX8_whatKind_53 rfl rfl ?_
          refine jm_getR F dX8_whatKind_54 fl_X8_36 lo_X8 rfl ?_
          refine jm_aload_n (i := 0) F dX8_whatKind_57 rfl rfl ?_
          refine jm_getR F dX8_whatKind_58 fl_X8_58 lo_X8 rfl ?_
          refine jm_aload_n (i := 0) F dX8_whatKind_61 rfl rfl ?_
          refine jm_getI F dX8_whatKind_62 fl_X8_254 lo_X8 rfl ?_
          refine jm_iload_n (i := 1) F dX8_whatKind_65 rfl rfl ?_
          refine jm_iload_n (i := 2) F dX8_whatKind_66 rfl rfl ?_
          refine jm_iload_n (i := 3) F dX8_whatKind_67 rfl rfl ?_
          refine jm_iload F dX8_whatKind_68 rfl ?_
          refine jm_bind (pcJ := 78) (lvJ := fun e10 => [none, none, none, none, none]) (stJ := fun e10 => [.int e10, .int p3, .int p2, .int p1, .int (r9 0 0 10), .ref (jm_a E 0 10), .ref (jm_a E 15 0)]) (MJ := fun e10 => r9) ?_ (fun e10 => ?_)
          · refine jm_if_ne F dX8_whatKind_70 (fun c11 => ?_) (fun c11 => ?_)
            · refine jm_iconst F dX8_whatKind_73 kc_1 ?_
              refine jm_goto F dX8_whatKind_74 ?_
              exact jm_weakD F (lv' := [none, none, none, none, none]) trivial (fun h => h)
            · refine jm_iconst F dX8_whatKind_77 kc_0 ?_
              exact jm_weakD F (lv' := [none, none, none, none, none]) trivial (fun h => h)
          · refine jm_callV (As := [.ref (jm_a E 0 10), .int (r9 0 0 10), .int p1, .int p2, .int p3, .int e10]) (st := []) (rv := fun r => some (.int r.1)) (mm := fun r => r.2) F dX8_whatKind_78 qX8_257 rfl lo_X2 rfl (fun r h => kF_bitsBy E hE h) rfl (Nat.le_of_ble_eq_true rfl) ⟨Nat.le_of_ble_eq_true rfl, Nat.le_of_ble_eq_true rfl⟩ (fun r12 => ?_)
            exact jm_iret F dX8_whatKind_81 (fun h => h)
        · refine jm_aload_n (i := 0) F dX8_whatKind_35 rfl rfl ?_
          refine jm_bipush F dX8_whatKind_36 kb_m2 ?_
          refine jm_callV (As := [.int (-2)]) (st := []) (rv := fun r => some (.int r.1)) (mm := fun r => r.2) F dX8_whatKind_38 qX8_64 rfl lo_X8 rfl (fun r h => kW_refuse E hE h) rfl (Nat.le_of_ble_eq_true rfl) ⟨Nat.le_of_ble_eq_true rfl, Nat.le_of_ble_eq_true rfl⟩ (fun r13 => ?_)
          exact jm_iret F dX8_whatKind_41 (fun h => h)
  exact G r h hz
theorem dX7_givesBack_0 : jm_d cX7_givesBack 0 (.iconst 0) 1 1 := ⟨by decide +kernel, rfl⟩
theorem dX7_givesBack_1 : jm_d cX7_givesBack 1 (.istore_n 2) 1 2 := ⟨by decide +kernel, rfl⟩
theorem dX7_givesBack_2 : jm_d cX7_givesBack 2 (.iload_n 2) 1 3 := ⟨by decide +kernel, rfl⟩
theorem dX7_givesBack_3 : jm_d cX7_givesBack 3 (.aload_n 0) 1 4 := ⟨by decide +kernel, rfl⟩
theorem dX7_givesBack_4 : jm_d cX7_givesBack 4 (.getfield 55) 3 7 := ⟨by decide +kernel, rfl⟩
theorem dX7_givesBack_7 : jm_b cX7_givesBack 7 (.if_icmp .ge) 10 38 := ⟨31, by decide +kernel, rfl, by decide⟩
theorem dX7_givesBack_10 : jm_d cX7_givesBack 10 (.aload_n 0) 1 11 := ⟨by decide +kernel, rfl⟩
theorem dX7_givesBack_11 : jm_d cX7_givesBack 11 (.getfield 30) 3 14 := ⟨by decide +kernel, rfl⟩
theorem dX7_givesBack_14 : jm_d cX7_givesBack 14 (.iload_n 2) 1 15 := ⟨by decide +kernel, rfl⟩
theorem dX7_givesBack_15 : jm_d cX7_givesBack 15 (.iaload) 1 16 := ⟨by decide +kernel, rfl⟩
theorem dX7_givesBack_16 : jm_d cX7_givesBack 16 (.iload_n 1) 1 17 := ⟨by decide +kernel, rfl⟩
theorem dX7_givesBack_17 : jm_b cX7_givesBack 17 (.if_icmp .ne) 20 32 := ⟨15, by decide +kernel, rfl, by decide⟩
theorem dX7_givesBack_20 : jm_d cX7_givesBack 20 (.aload_n 0) 1 21 := ⟨by decide +kernel, rfl⟩
theorem dX7_givesBack_21 : jm_d cX7_givesBack 21 (.getfield 30) 3 24 := ⟨by decide +kernel, rfl⟩
theorem dX7_givesBack_24 : jm_d cX7_givesBack 24 (.iload_n 2) 1 25 := ⟨by decide +kernel, rfl⟩
theorem dX7_givesBack_25 : jm_d cX7_givesBack 25 (.aload_n 0) 1 26 := ⟨by decide +kernel, rfl⟩
theorem dX7_givesBack_26 : jm_d cX7_givesBack 26 (.getfield 27) 3 29 := ⟨by decide +kernel, rfl⟩
theorem dX7_givesBack_29 : jm_d cX7_givesBack 29 (.iload_n 2) 1 30 := ⟨by decide +kernel, rfl⟩
theorem dX7_givesBack_30 : jm_d cX7_givesBack 30 (.iaload) 1 31 := ⟨by decide +kernel, rfl⟩
theorem dX7_givesBack_31 : jm_d cX7_givesBack 31 (.iastore) 1 32 := ⟨by decide +kernel, rfl⟩
theorem dX7_givesBack_32 : jm_d cX7_givesBack 32 (.iinc 2 1) 3 35 := ⟨by decide +kernel, rfl⟩
theorem dX7_givesBack_35 : jm_b cX7_givesBack 35 .goto 38 2 := ⟨(-33), by decide +kernel, rfl, by decide⟩
theorem dX7_givesBack_38 : jm_d cX7_givesBack 38 (.return_) 1 39 := ⟨by decide +kernel, rfl⟩
set_option maxHeartbeats 4000000 in
set_option maxRecDepth 100000 in
theorem kT_givesBack (E : jm_Ev) (hE : jm_dj E jm_LC) {M : jm_M} {t : Nat} {p1 : Int32} (ht : jm_isT t) {r : jm_M} (h : sT_givesBack M t p1 = some r) : jm_Ct E jm_LC yX7_givesBack cX7_givesBack 3 none 0 0 [.ref (jm_a E t 0), .int p1] M none r := by
  refine jm_enter (lv := [some (.ref (jm_a E t 0)), some (.int p1), none]) hE (by decide) (Nat.le_of_ble_eq_true rfl) rfl ?_
  intro z w F hz
  have G : jm_G w 0 [some (.ref (jm_a E t 0)), some (.int p1), none] [] M (sT_givesBack M t p1) (fun e => z none e) := by
    unfold sT_givesBack
    refine jm_iconst F dX7_givesBack_0 kc_0 ?_
    refine jm_istore_n (i := 2) (lv' := [some (.ref (jm_a E t 0)), some (.int p1), some (.int 0)]) F dX7_givesBack_1 rfl (by decide) rfl rfl ?_
    refine jm_bind (pcJ := 38) (lvJ := fun e7 => [none, none, none]) (stJ := fun _ => []) (MJ := fun e7 => e7) ?_ (fun e7 => ?_)
    · refine jm_weak F (lv' := [some (.ref (jm_a E t 0)), some (.int p1), some (.int 0)]) ⟨rfl, rfl, rfl, trivial⟩ ?_
      refine jm_loopR (lvH := fun s1 => [some (.ref (jm_a E t 0)), some (.int p1), some (.int s1.1)]) (MH := fun s1 => s1.2) (fun s1 => ?_) jm_N (0, M)
      unfold sT_givesBack_L2
      refine jm_iload_n (i := 2) F dX7_givesBack_2 rfl rfl ?_
      refine jm_aload_n (i := 0) F dX7_givesBack_3 rfl rfl ?_
      refine jm_getI F dX7_givesBack_4 fl_X7_55 (lo_T ht) rfl ?_
      refine jm_icmp_ge F dX7_givesBack_7 (fun c2 => ?_) (fun c2 => ?_)
      · exact jm_weakD F (lv' := [none, none, none]) trivial (fun h => h)
      · refine jm_aload_n (i := 0) F dX7_givesBack_10 rfl rfl ?_
        refine jm_getR F dX7_givesBack_11 fl_X7_30 (lo_T ht) rfl ?_
        refine jm_iload_n (i := 2) F dX7_givesBack_14 rfl rfl ?_
        refine jm_iald F dX7_givesBack_15 (la_T_9 ht) (fun v3 => ?_)
        refine jm_iload_n (i := 1) F dX7_givesBack_16 rfl rfl ?_
        refine jm_icmp_ne F dX7_givesBack_17 (fun c4 => ?_) (fun c4 => ?_)
        · refine jm_aload_n (i := 0) F dX7_givesBack_20 rfl rfl ?_
          refine jm_getR F dX7_givesBack_21 fl_X7_30 (lo_T ht) rfl ?_
          refine jm_iload_n (i := 2) F dX7_givesBack_24 rfl rfl ?_
          refine jm_aload_n (i := 0) F dX7_givesBack_25 rfl rfl ?_
          refine jm_getR F dX7_givesBack_26 fl_X7_27 (lo_T ht) rfl ?_
          refine jm_iload_n (i := 2) F dX7_givesBack_29 rfl rfl ?_
          refine jm_iald F dX7_givesBack_30 (la_T_8 ht) (fun v5 => ?_)
          refine jm_iast F dX7_givesBack_31 (la_T_9 ht) (fun M6 => ?_)
          refine jm_iinc (i := 2) (lv' := [some (.ref (jm_a E t 0)), some (.int p1), some (.int (s1.1 + 1))]) F dX7_givesBack_32 kc_1 rfl (by decide) rfl rfl ?_
          refine jm_goto F dX7_givesBack_35 ?_
          exact jm_weakD F (lv' := [some (.ref (jm_a E t 0)), some (.int p1), some (.int (s1.1 + 1))]) ⟨rfl, rfl, rfl, trivial⟩ (fun h => h)
        · refine jm_iinc (i := 2) (lv' := [some (.ref (jm_a E t 0)), some (.int p1), some (.int (s1.1 + 1))]) F dX7_givesBack_32 kc_1 rfl (by decide) rfl rfl ?_
          refine jm_goto F dX7_givesBack_35 ?_
          exact jm_weakD F (lv' := [some (.ref (jm_a E t 0)), some (.int p1), some (.int (s1.1 + 1))]) ⟨rfl, rfl, rfl, trivial⟩ (fun h => h)
    · exact jm_vret F dX7_givesBack_38 (fun h => h)
  exact G r h hz
theorem dX2_weighChoice_0 : jm_d cX2_weighChoice 0 (.iload 5) 2 2 := ⟨by decide +kernel, rfl⟩
theorem dX2_weighChoice_2 : jm_d cX2_weighChoice 2 (.iconst 1) 1 3 := ⟨by decide +kernel, rfl⟩
theorem dX2_weighChoice_3 : jm_d cX2_weighChoice 3 (.ishr) 1 4 := ⟨by decide +kernel, rfl⟩
theorem dX2_weighChoice_4 : jm_d cX2_weighChoice 4 (.istore 6) 2 6 := ⟨by decide +kernel, rfl⟩
theorem dX2_weighChoice_6 : jm_d cX2_weighChoice 6 (.iload 5) 2 8 := ⟨by decide +kernel, rfl⟩
theorem dX2_weighChoice_8 : jm_d cX2_weighChoice 8 (.iconst 1) 1 9 := ⟨by decide +kernel, rfl⟩
theorem dX2_weighChoice_9 : jm_d cX2_weighChoice 9 (.iand) 1 10 := ⟨by decide +kernel, rfl⟩
theorem dX2_weighChoice_10 : jm_d cX2_weighChoice 10 (.istore 7) 2 12 := ⟨by decide +kernel, rfl⟩
theorem dX2_weighChoice_12 : jm_d cX2_weighChoice 12 (.aload_n 0) 1 13 := ⟨by decide +kernel, rfl⟩
theorem dX2_weighChoice_13 : jm_d cX2_weighChoice 13 (.aload_n 1) 1 14 := ⟨by decide +kernel, rfl⟩
theorem dX2_weighChoice_14 : jm_d cX2_weighChoice 14 (.invokevirtual 29) 3 17 := ⟨by decide +kernel, rfl⟩
theorem dX2_weighChoice_17 : jm_d cX2_weighChoice 17 (.iload 6) 2 19 := ⟨by decide +kernel, rfl⟩
theorem dX2_weighChoice_19 : jm_d cX2_weighChoice 19 (.iconst 1) 1 20 := ⟨by decide +kernel, rfl⟩
theorem dX2_weighChoice_20 : jm_b cX2_weighChoice 20 (.if_icmp .ne) 23 31 := ⟨11, by decide +kernel, rfl, by decide⟩
theorem dX2_weighChoice_23 : jm_d cX2_weighChoice 23 (.aload_n 0) 1 24 := ⟨by decide +kernel, rfl⟩
theorem dX2_weighChoice_24 : jm_d cX2_weighChoice 24 (.getfield 12) 3 27 := ⟨by decide +kernel, rfl⟩
theorem dX2_weighChoice_27 : jm_d cX2_weighChoice 27 (.iload_n 2) 1 28 := ⟨by decide +kernel, rfl⟩
theorem dX2_weighChoice_28 : jm_d cX2_weighChoice 28 (.invokevirtual 93) 3 31 := ⟨by decide +kernel, rfl⟩
theorem dX2_weighChoice_31 : jm_d cX2_weighChoice 31 (.iload 7) 2 33 := ⟨by decide +kernel, rfl⟩
theorem dX2_weighChoice_33 : jm_d cX2_weighChoice 33 (.iconst 1) 1 34 := ⟨by decide +kernel, rfl⟩
theorem dX2_weighChoice_34 : jm_b cX2_weighChoice 34 (.if_icmp .ne) 37 45 := ⟨11, by decide +kernel, rfl, by decide⟩
theorem dX2_weighChoice_37 : jm_d cX2_weighChoice 37 (.aload_n 0) 1 38 := ⟨by decide +kernel, rfl⟩
theorem dX2_weighChoice_38 : jm_d cX2_weighChoice 38 (.getfield 12) 3 41 := ⟨by decide +kernel, rfl⟩
theorem dX2_weighChoice_41 : jm_d cX2_weighChoice 41 (.iload_n 3) 1 42 := ⟨by decide +kernel, rfl⟩
theorem dX2_weighChoice_42 : jm_d cX2_weighChoice 42 (.invokevirtual 93) 3 45 := ⟨by decide +kernel, rfl⟩
theorem dX2_weighChoice_45 : jm_d cX2_weighChoice 45 (.aload_n 0) 1 46 := ⟨by decide +kernel, rfl⟩
theorem dX2_weighChoice_46 : jm_d cX2_weighChoice 46 (.getfield 12) 3 49 := ⟨by decide +kernel, rfl⟩
theorem dX2_weighChoice_49 : jm_d cX2_weighChoice 49 (.iload 4) 2 51 := ⟨by decide +kernel, rfl⟩
theorem dX2_weighChoice_51 : jm_d cX2_weighChoice 51 (.invokevirtual 32) 3 54 := ⟨by decide +kernel, rfl⟩
theorem dX2_weighChoice_54 : jm_d cX2_weighChoice 54 (.aload_n 0) 1 55 := ⟨by decide +kernel, rfl⟩
theorem dX2_weighChoice_55 : jm_d cX2_weighChoice 55 (.getfield 18) 3 58 := ⟨by decide +kernel, rfl⟩
theorem dX2_weighChoice_58 : jm_d cX2_weighChoice 58 (.iload 5) 2 60 := ⟨by decide +kernel, rfl⟩
theorem dX2_weighChoice_60 : jm_d cX2_weighChoice 60 (.aload_n 0) 1 61 := ⟨by decide +kernel, rfl⟩
theorem dX2_weighChoice_61 : jm_d cX2_weighChoice 61 (.getfield 12) 3 64 := ⟨by decide +kernel, rfl⟩
theorem dX2_weighChoice_64 : jm_d cX2_weighChoice 64 (.iload_n 2) 1 65 := ⟨by decide +kernel, rfl⟩
theorem dX2_weighChoice_65 : jm_d cX2_weighChoice 65 (.invokevirtual 96) 3 68 := ⟨by decide +kernel, rfl⟩
theorem dX2_weighChoice_68 : jm_d cX2_weighChoice 68 (.iconst 2) 1 69 := ⟨by decide +kernel, rfl⟩
theorem dX2_weighChoice_69 : jm_d cX2_weighChoice 69 (.iload 6) 2 71 := ⟨by decide +kernel, rfl⟩
theorem dX2_weighChoice_71 : jm_d cX2_weighChoice 71 (.imul) 1 72 := ⟨by decide +kernel, rfl⟩
theorem dX2_weighChoice_72 : jm_d cX2_weighChoice 72 (.iadd) 1 73 := ⟨by decide +kernel, rfl⟩
theorem dX2_weighChoice_73 : jm_d cX2_weighChoice 73 (.iastore) 1 74 := ⟨by decide +kernel, rfl⟩
theorem dX2_weighChoice_74 : jm_d cX2_weighChoice 74 (.aload_n 0) 1 75 := ⟨by decide +kernel, rfl⟩
theorem dX2_weighChoice_75 : jm_d cX2_weighChoice 75 (.getfield 22) 3 78 := ⟨by decide +kernel, rfl⟩
theorem dX2_weighChoice_78 : jm_d cX2_weighChoice 78 (.iload 5) 2 80 := ⟨by decide +kernel, rfl⟩
theorem dX2_weighChoice_80 : jm_d cX2_weighChoice 80 (.aload_n 0) 1 81 := ⟨by decide +kernel, rfl⟩
theorem dX2_weighChoice_81 : jm_d cX2_weighChoice 81 (.getfield 12) 3 84 := ⟨by decide +kernel, rfl⟩
theorem dX2_weighChoice_84 : jm_d cX2_weighChoice 84 (.iload_n 3) 1 85 := ⟨by decide +kernel, rfl⟩
theorem dX2_weighChoice_85 : jm_d cX2_weighChoice 85 (.invokevirtual 96) 3 88 := ⟨by decide +kernel, rfl⟩
theorem dX2_weighChoice_88 : jm_d cX2_weighChoice 88 (.iconst 2) 1 89 := ⟨by decide +kernel, rfl⟩
theorem dX2_weighChoice_89 : jm_d cX2_weighChoice 89 (.iload 7) 2 91 := ⟨by decide +kernel, rfl⟩
theorem dX2_weighChoice_91 : jm_d cX2_weighChoice 91 (.imul) 1 92 := ⟨by decide +kernel, rfl⟩
theorem dX2_weighChoice_92 : jm_d cX2_weighChoice 92 (.iadd) 1 93 := ⟨by decide +kernel, rfl⟩
theorem dX2_weighChoice_93 : jm_d cX2_weighChoice 93 (.iastore) 1 94 := ⟨by decide +kernel, rfl⟩
theorem dX2_weighChoice_94 : jm_d cX2_weighChoice 94 (.return_) 1 95 := ⟨by decide +kernel, rfl⟩
set_option maxHeartbeats 4000000 in
set_option maxRecDepth 100000 in
theorem kF_weighChoice (E : jm_Ev) (hE : jm_dj E jm_LC) {M : jm_M} {p1 : Nat} {p2 : Int32} {p3 : Int32} {p4 : Int32} {p5 : Int32} (hp1 : jm_isT p1) {r : jm_M} (h : sF_weighChoice M p1 p2 p3 p4 p5 = some r) : jm_Ct E jm_LC yX2_weighChoice cX2_weighChoice 8 none 4 90 [.ref (jm_a E 15 0), .ref (jm_a E p1 0), .int p2, .int p3, .int p4, .int p5] M none r := by
  refine jm_enter (lv := [some (.ref (jm_a E 15 0)), some (.ref (jm_a E p1 0)), some (.int p2), some (.int p3), some (.int p4), some (.int p5), none, none]) hE (by decide) (Nat.le_of_ble_eq_true rfl) rfl ?_
  intro z w F hz
  have G : jm_G w 0 [some (.ref (jm_a E 15 0)), some (.ref (jm_a E p1 0)), some (.int p2), some (.int p3), some (.int p4), some (.int p5), none, none] [] M (sF_weighChoice M p1 p2 p3 p4 p5) (fun e => z none e) := by
    unfold sF_weighChoice
    refine jm_iload F dX2_weighChoice_0 rfl ?_
    refine jm_iconst F dX2_weighChoice_2 kc_1 ?_
    refine jm_ishr F dX2_weighChoice_3 ?_
    refine jm_nameI (f := fun x1 => [.int x1]) (fun x1 => ?_) rfl
    refine jm_istore (i := 6) (lv' := [some (.ref (jm_a E 15 0)), some (.ref (jm_a E p1 0)), some (.int p2), some (.int p3), some (.int p4), some (.int p5), some (.int x1), none]) F dX2_weighChoice_4 (by decide) rfl rfl ?_
    refine jm_iload F dX2_weighChoice_6 rfl ?_
    refine jm_iconst F dX2_weighChoice_8 kc_1 ?_
    refine jm_iand F dX2_weighChoice_9 ?_
    refine jm_nameI (f := fun x2 => [.int x2]) (fun x2 => ?_) rfl
    refine jm_istore (i := 7) (lv' := [some (.ref (jm_a E 15 0)), some (.ref (jm_a E p1 0)), some (.int p2), some (.int p3), some (.int p4), some (.int p5), some (.int x1), some (.int x2)]) F dX2_weighChoice_10 (by decide) rfl rfl ?_
    refine jm_aload_n (i := 0) F dX2_weighChoice_12 rfl rfl ?_
    refine jm_aload_n (i := 1) F dX2_weighChoice_13 rfl rfl ?_
    refine jm_callV (As := [.ref (jm_a E p1 0)]) (st := []) (rv := fun _ => none) (mm := fun r => r) F dX2_weighChoice_14 qX2_29 rfl lo_X2 rfl (fun r h => kF_think E hE hp1 h) rfl (Nat.le_of_ble_eq_true rfl) ⟨Nat.le_of_ble_eq_true rfl, Nat.le_of_ble_eq_true rfl⟩ (fun r3 => ?_)
    refine jm_iload F dX2_weighChoice_17 rfl ?_
    refine jm_iconst F dX2_weighChoice_19 kc_1 ?_
    refine jm_bind (pcJ := 31) (lvJ := fun e4 => [some (.ref (jm_a E 15 0)), none, some (.int p2), some (.int p3), some (.int p4), some (.int p5), some (.int x1), some (.int x2)]) (stJ := fun e4 => []) (MJ := fun e4 => e4) ?_ (fun e4 => ?_)
    · refine jm_icmp_ne F dX2_weighChoice_20 (fun c5 => ?_) (fun c5 => ?_)
      · refine jm_aload_n (i := 0) F dX2_weighChoice_23 rfl rfl ?_
        refine jm_getR F dX2_weighChoice_24 fl_X2_12 lo_X2 rfl ?_
        refine jm_iload_n (i := 2) F dX2_weighChoice_27 rfl rfl ?_
        refine jm_callV (As := [.int p2]) (st := []) (rv := fun _ => none) (mm := fun r => r) F dX2_weighChoice_28 qX2_93 rfl (lo_T isT_4) rfl (fun r h => kT_givesBack E hE isT_4 h) rfl (Nat.le_of_ble_eq_true rfl) ⟨Nat.le_of_ble_eq_true rfl, Nat.le_of_ble_eq_true rfl⟩ (fun r6 => ?_)
        exact jm_weakD F (lv' := [some (.ref (jm_a E 15 0)), none, some (.int p2), some (.int p3), some (.int p4), some (.int p5), some (.int x1), some (.int x2)]) ⟨rfl, rfl, rfl, rfl, rfl, rfl, rfl, trivial⟩ (fun h => h)
      · exact jm_weakD F (lv' := [some (.ref (jm_a E 15 0)), none, some (.int p2), some (.int p3), some (.int p4), some (.int p5), some (.int x1), some (.int x2)]) ⟨rfl, rfl, rfl, rfl, rfl, rfl, rfl, trivial⟩ (fun h => h)
    · refine jm_iload F dX2_weighChoice_31 rfl ?_
      refine jm_iconst F dX2_weighChoice_33 kc_1 ?_
      refine jm_bind (pcJ := 45) (lvJ := fun e7 => [some (.ref (jm_a E 15 0)), none, some (.int p2), some (.int p3), some (.int p4), some (.int p5), some (.int x1), some (.int x2)]) (stJ := fun e7 => []) (MJ := fun e7 => e7) ?_ (fun e7 => ?_)
      · refine jm_icmp_ne F dX2_weighChoice_34 (fun c8 => ?_) (fun c8 => ?_)
        · refine jm_aload_n (i := 0) F dX2_weighChoice_37 rfl rfl ?_
          refine jm_getR F dX2_weighChoice_38 fl_X2_12 lo_X2 rfl ?_
          refine jm_iload_n (i := 3) F dX2_weighChoice_41 rfl rfl ?_
          refine jm_callV (As := [.int p3]) (st := []) (rv := fun _ => none) (mm := fun r => r) F dX2_weighChoice_42 qX2_93 rfl (lo_T isT_4) rfl (fun r h => kT_givesBack E hE isT_4 h) rfl (Nat.le_of_ble_eq_true rfl) ⟨Nat.le_of_ble_eq_true rfl, Nat.le_of_ble_eq_true rfl⟩ (fun r9 => ?_)
          exact jm_weakD F (lv' := [some (.ref (jm_a E 15 0)), none, some (.int p2), some (.int p3), some (.int p4), some (.int p5), some (.int x1), some (.int x2)]) ⟨rfl, rfl, rfl, rfl, rfl, rfl, rfl, trivial⟩ (fun h => h)
        · exact jm_weakD F (lv' := [some (.ref (jm_a E 15 0)), none, some (.int p2), some (.int p3), some (.int p4), some (.int p5), some (.int x1), some (.int x2)]) ⟨rfl, rfl, rfl, rfl, rfl, rfl, rfl, trivial⟩ (fun h => h)
      · refine jm_aload_n (i := 0) F dX2_weighChoice_45 rfl rfl ?_
        refine jm_getR F dX2_weighChoice_46 fl_X2_12 lo_X2 rfl ?_
        refine jm_iload F dX2_weighChoice_49 rfl ?_
        refine jm_callV (As := [.int p4]) (st := []) (rv := fun _ => none) (mm := fun r => r) F dX2_weighChoice_51 qX2_32 rfl (lo_T isT_4) rfl (fun r h => kT_weeksPass E hE isT_4 h) rfl (Nat.le_of_ble_eq_true rfl) ⟨Nat.le_of_ble_eq_true rfl, Nat.le_of_ble_eq_true rfl⟩ (fun r10 => ?_)
        refine jm_aload_n (i := 0) F dX2_weighChoice_54 rfl rfl ?_
        refine jm_getR F dX2_weighChoice_55 fl_X2_18 lo_X2 rfl ?_
        refine jm_iload F dX2_weighChoice_58 rfl ?_
        refine jm_aload_n (i := 0) F dX2_weighChoice_60 rfl rfl ?_
        refine jm_getR F dX2_weighChoice_61 fl_X2_12 lo_X2 rfl ?_
        refine jm_iload_n (i := 2) F dX2_weighChoice_64 rfl rfl ?_
        refine jm_callV (As := [.int p2]) (st := [.int p5, .ref (jm_a E 15 2)]) (rv := fun r => some (.int r)) (mm := fun _ => r10) F dX2_weighChoice_65 qX2_96 rfl (lo_T isT_4) rfl (fun r h => kT_readingsOf E hE isT_4 h) rfl (Nat.le_of_ble_eq_true rfl) ⟨Nat.le_of_ble_eq_true rfl, Nat.le_of_ble_eq_true rfl⟩ (fun r11 => ?_)
        refine jm_iconst F dX2_weighChoice_68 kc_2 ?_
        refine jm_iload F dX2_weighChoice_69 rfl ?_
        refine jm_imul F dX2_weighChoice_71 ?_
        refine jm_iadd F dX2_weighChoice_72 ?_
        refine jm_iast F dX2_weighChoice_73 la_X2_2 (fun M12 => ?_)
        refine jm_aload_n (i := 0) F dX2_weighChoice_74 rfl rfl ?_
        refine jm_getR F dX2_weighChoice_75 fl_X2_22 lo_X2 rfl ?_
        refine jm_iload F dX2_weighChoice_78 rfl ?_
        refine jm_aload_n (i := 0) F dX2_weighChoice_80 rfl rfl ?_
        refine jm_getR F dX2_weighChoice_81 fl_X2_12 lo_X2 rfl ?_
        refine jm_iload_n (i := 3) F dX2_weighChoice_84 rfl rfl ?_
        refine jm_callV (As := [.int p3]) (st := [.int p5, .ref (jm_a E 15 3)]) (rv := fun r => some (.int r)) (mm := fun _ => M12) F dX2_weighChoice_85 qX2_96 rfl (lo_T isT_4) rfl (fun r h => kT_readingsOf E hE isT_4 h) rfl (Nat.le_of_ble_eq_true rfl) ⟨Nat.le_of_ble_eq_true rfl, Nat.le_of_ble_eq_true rfl⟩ (fun r13 => ?_)
        refine jm_iconst F dX2_weighChoice_88 kc_2 ?_
        refine jm_iload F dX2_weighChoice_89 rfl ?_
        refine jm_imul F dX2_weighChoice_91 ?_
        refine jm_iadd F dX2_weighChoice_92 ?_
        refine jm_iast F dX2_weighChoice_93 la_X2_3 (fun M14 => ?_)
        exact jm_vret F dX2_weighChoice_94 (fun h => h)
  exact G r h hz
theorem dX2_steadyPair_0 : jm_d cX2_steadyPair 0 (.iconst 0) 1 1 := ⟨by decide +kernel, rfl⟩
theorem dX2_steadyPair_1 : jm_d cX2_steadyPair 1 (.istore 5) 2 3 := ⟨by decide +kernel, rfl⟩
theorem dX2_steadyPair_3 : jm_d cX2_steadyPair 3 (.iload 5) 2 5 := ⟨by decide +kernel, rfl⟩
theorem dX2_steadyPair_5 : jm_d cX2_steadyPair 5 (.iconst 4) 1 6 := ⟨by decide +kernel, rfl⟩
theorem dX2_steadyPair_6 : jm_b cX2_steadyPair 6 (.if_icmp .ge) 9 26 := ⟨20, by decide +kernel, rfl, by decide⟩
theorem dX2_steadyPair_9 : jm_d cX2_steadyPair 9 (.aload_n 0) 1 10 := ⟨by decide +kernel, rfl⟩
theorem dX2_steadyPair_10 : jm_d cX2_steadyPair 10 (.aload_n 1) 1 11 := ⟨by decide +kernel, rfl⟩
theorem dX2_steadyPair_11 : jm_d cX2_steadyPair 11 (.iload_n 2) 1 12 := ⟨by decide +kernel, rfl⟩
theorem dX2_steadyPair_12 : jm_d cX2_steadyPair 12 (.iload_n 3) 1 13 := ⟨by decide +kernel, rfl⟩
theorem dX2_steadyPair_13 : jm_d cX2_steadyPair 13 (.iload 4) 2 15 := ⟨by decide +kernel, rfl⟩
theorem dX2_steadyPair_15 : jm_d cX2_steadyPair 15 (.iload 5) 2 17 := ⟨by decide +kernel, rfl⟩
theorem dX2_steadyPair_17 : jm_d cX2_steadyPair 17 (.invokevirtual 89) 3 20 := ⟨by decide +kernel, rfl⟩
theorem dX2_steadyPair_20 : jm_d cX2_steadyPair 20 (.iinc 5 1) 3 23 := ⟨by decide +kernel, rfl⟩
theorem dX2_steadyPair_23 : jm_b cX2_steadyPair 23 .goto 26 3 := ⟨(-20), by decide +kernel, rfl, by decide⟩
theorem dX2_steadyPair_26 : jm_d cX2_steadyPair 26 (.iconst 0) 1 27 := ⟨by decide +kernel, rfl⟩
theorem dX2_steadyPair_27 : jm_d cX2_steadyPair 27 (.istore 5) 2 29 := ⟨by decide +kernel, rfl⟩
theorem dX2_steadyPair_29 : jm_d cX2_steadyPair 29 (.iload 5) 2 31 := ⟨by decide +kernel, rfl⟩
theorem dX2_steadyPair_31 : jm_d cX2_steadyPair 31 (.iconst 4) 1 32 := ⟨by decide +kernel, rfl⟩
theorem dX2_steadyPair_32 : jm_b cX2_steadyPair 32 (.if_icmp .ge) 35 92 := ⟨60, by decide +kernel, rfl, by decide⟩
theorem dX2_steadyPair_35 : jm_d cX2_steadyPair 35 (.aload_n 0) 1 36 := ⟨by decide +kernel, rfl⟩
theorem dX2_steadyPair_36 : jm_d cX2_steadyPair 36 (.getfield 18) 3 39 := ⟨by decide +kernel, rfl⟩
theorem dX2_steadyPair_39 : jm_d cX2_steadyPair 39 (.iload 5) 2 41 := ⟨by decide +kernel, rfl⟩
theorem dX2_steadyPair_41 : jm_d cX2_steadyPair 41 (.iaload) 1 42 := ⟨by decide +kernel, rfl⟩
theorem dX2_steadyPair_42 : jm_d cX2_steadyPair 42 (.aload_n 0) 1 43 := ⟨by decide +kernel, rfl⟩
theorem dX2_steadyPair_43 : jm_d cX2_steadyPair 43 (.getfield 18) 3 46 := ⟨by decide +kernel, rfl⟩
theorem dX2_steadyPair_46 : jm_d cX2_steadyPair 46 (.iload 5) 2 48 := ⟨by decide +kernel, rfl⟩
theorem dX2_steadyPair_48 : jm_d cX2_steadyPair 48 (.iconst 2) 1 49 := ⟨by decide +kernel, rfl⟩
theorem dX2_steadyPair_49 : jm_d cX2_steadyPair 49 (.ixor) 1 50 := ⟨by decide +kernel, rfl⟩
theorem dX2_steadyPair_50 : jm_d cX2_steadyPair 50 (.iaload) 1 51 := ⟨by decide +kernel, rfl⟩
theorem dX2_steadyPair_51 : jm_b cX2_steadyPair 51 (.if_icmp .lt) 54 86 := ⟨35, by decide +kernel, rfl, by decide⟩
theorem dX2_steadyPair_86 : jm_d cX2_steadyPair 86 (.iinc 5 1) 3 89 := ⟨by decide +kernel, rfl⟩
theorem dX2_steadyPair_89 : jm_b cX2_steadyPair 89 .goto 92 29 := ⟨(-60), by decide +kernel, rfl, by decide⟩
theorem dX2_steadyPair_54 : jm_d cX2_steadyPair 54 (.aload_n 0) 1 55 := ⟨by decide +kernel, rfl⟩
theorem dX2_steadyPair_55 : jm_d cX2_steadyPair 55 (.getfield 22) 3 58 := ⟨by decide +kernel, rfl⟩
theorem dX2_steadyPair_58 : jm_d cX2_steadyPair 58 (.iload 5) 2 60 := ⟨by decide +kernel, rfl⟩
theorem dX2_steadyPair_60 : jm_d cX2_steadyPair 60 (.iaload) 1 61 := ⟨by decide +kernel, rfl⟩
theorem dX2_steadyPair_61 : jm_d cX2_steadyPair 61 (.aload_n 0) 1 62 := ⟨by decide +kernel, rfl⟩
theorem dX2_steadyPair_62 : jm_d cX2_steadyPair 62 (.getfield 22) 3 65 := ⟨by decide +kernel, rfl⟩
theorem dX2_steadyPair_65 : jm_d cX2_steadyPair 65 (.iload 5) 2 67 := ⟨by decide +kernel, rfl⟩
theorem dX2_steadyPair_67 : jm_d cX2_steadyPair 67 (.iconst 1) 1 68 := ⟨by decide +kernel, rfl⟩
theorem dX2_steadyPair_68 : jm_d cX2_steadyPair 68 (.ixor) 1 69 := ⟨by decide +kernel, rfl⟩
theorem dX2_steadyPair_69 : jm_d cX2_steadyPair 69 (.iaload) 1 70 := ⟨by decide +kernel, rfl⟩
theorem dX2_steadyPair_70 : jm_b cX2_steadyPair 70 (.if_icmp .lt) 73 86 := ⟨16, by decide +kernel, rfl, by decide⟩
theorem dX2_steadyPair_73 : jm_d cX2_steadyPair 73 (.bipush 10) 2 75 := ⟨by decide +kernel, rfl⟩
theorem dX2_steadyPair_75 : jm_d cX2_steadyPair 75 (.iload 5) 2 77 := ⟨by decide +kernel, rfl⟩
theorem dX2_steadyPair_77 : jm_d cX2_steadyPair 77 (.iconst 1) 1 78 := ⟨by decide +kernel, rfl⟩
theorem dX2_steadyPair_78 : jm_d cX2_steadyPair 78 (.ishr) 1 79 := ⟨by decide +kernel, rfl⟩
theorem dX2_steadyPair_79 : jm_d cX2_steadyPair 79 (.imul) 1 80 := ⟨by decide +kernel, rfl⟩
theorem dX2_steadyPair_80 : jm_d cX2_steadyPair 80 (.iload 5) 2 82 := ⟨by decide +kernel, rfl⟩
theorem dX2_steadyPair_82 : jm_d cX2_steadyPair 82 (.iconst 1) 1 83 := ⟨by decide +kernel, rfl⟩
theorem dX2_steadyPair_83 : jm_d cX2_steadyPair 83 (.iand) 1 84 := ⟨by decide +kernel, rfl⟩
theorem dX2_steadyPair_84 : jm_d cX2_steadyPair 84 (.iadd) 1 85 := ⟨by decide +kernel, rfl⟩
theorem dX2_steadyPair_85 : jm_d cX2_steadyPair 85 (.ireturn) 1 86 := ⟨by decide +kernel, rfl⟩
theorem dX2_steadyPair_92 : jm_d cX2_steadyPair 92 (.bipush (-9)) 2 94 := ⟨by decide +kernel, rfl⟩
theorem dX2_steadyPair_94 : jm_d cX2_steadyPair 94 (.ireturn) 1 95 := ⟨by decide +kernel, rfl⟩
set_option maxHeartbeats 4000000 in
set_option maxRecDepth 100000 in
theorem kF_steadyPair (E : jm_Ev) (hE : jm_dj E jm_LC) {M : jm_M} {p1 : Nat} {p2 : Int32} {p3 : Int32} {p4 : Int32} (hp1 : jm_isT p1) {r : Int32 × jm_M} (h : sF_steadyPair M p1 p2 p3 p4 = some r) : jm_Ct E jm_LC yX2_steadyPair cX2_steadyPair 6 (some .int) 5 117 [.ref (jm_a E 15 0), .ref (jm_a E p1 0), .int p2, .int p3, .int p4] M (some (.int r.1)) r.2 := by
  refine jm_enter (lv := [some (.ref (jm_a E 15 0)), some (.ref (jm_a E p1 0)), some (.int p2), some (.int p3), some (.int p4), none]) hE (by decide) (Nat.le_of_ble_eq_true rfl) rfl ?_
  intro z w F hz
  have G : jm_G w 0 [some (.ref (jm_a E 15 0)), some (.ref (jm_a E p1 0)), some (.int p2), some (.int p3), some (.int p4), none] [] M (sF_steadyPair M p1 p2 p3 p4) (fun e => z (some (.int e.1)) e.2) := by
    unfold sF_steadyPair
    refine jm_iconst F dX2_steadyPair_0 kc_0 ?_
    refine jm_istore (i := 5) (lv' := [some (.ref (jm_a E 15 0)), some (.ref (jm_a E p1 0)), some (.int p2), some (.int p3), some (.int p4), some (.int 0)]) F dX2_steadyPair_1 (by decide) rfl rfl ?_
    refine jm_bind (pcJ := 26) (lvJ := fun e4 => [some (.ref (jm_a E 15 0)), none, none, none, none, none]) (stJ := fun _ => []) (MJ := fun e4 => e4) ?_ (fun e4 => ?_)
    · refine jm_weak F (lv' := [some (.ref (jm_a E 15 0)), some (.ref (jm_a E p1 0)), some (.int p2), some (.int p3), some (.int p4), some (.int 0)]) ⟨rfl, rfl, rfl, rfl, rfl, rfl, trivial⟩ ?_
      refine jm_loopR (lvH := fun s1 => [some (.ref (jm_a E 15 0)), some (.ref (jm_a E p1 0)), some (.int p2), some (.int p3), some (.int p4), some (.int s1.1)]) (MH := fun s1 => s1.2) (fun s1 => ?_) jm_N (0, M)
      unfold sF_steadyPair_L3
      refine jm_iload F dX2_steadyPair_3 rfl ?_
      refine jm_iconst F dX2_steadyPair_5 kc_4 ?_
      refine jm_icmp_ge F dX2_steadyPair_6 (fun c2 => ?_) (fun c2 => ?_)
      · exact jm_weakD F (lv' := [some (.ref (jm_a E 15 0)), none, none, none, none, none]) ⟨rfl, trivial⟩ (fun h => h)
      · refine jm_aload_n (i := 0) F dX2_steadyPair_9 rfl rfl ?_
        refine jm_aload_n (i := 1) F dX2_steadyPair_10 rfl rfl ?_
        refine jm_iload_n (i := 2) F dX2_steadyPair_11 rfl rfl ?_
        refine jm_iload_n (i := 3) F dX2_steadyPair_12 rfl rfl ?_
        refine jm_iload F dX2_steadyPair_13 rfl ?_
        refine jm_iload F dX2_steadyPair_15 rfl ?_
        refine jm_callV (As := [.ref (jm_a E p1 0), .int p2, .int p3, .int p4, .int s1.1]) (st := []) (rv := fun _ => none) (mm := fun r => r) F dX2_steadyPair_17 qX2_89 rfl lo_X2 rfl (fun r h => kF_weighChoice E hE hp1 h) rfl (Nat.le_of_ble_eq_true rfl) ⟨Nat.le_of_ble_eq_true rfl, Nat.le_of_ble_eq_true rfl⟩ (fun r3 => ?_)
        refine jm_iinc (i := 5) (lv' := [some (.ref (jm_a E 15 0)), some (.ref (jm_a E p1 0)), some (.int p2), some (.int p3), some (.int p4), some (.int (s1.1 + 1))]) F dX2_steadyPair_20 kc_1 rfl (by decide) rfl rfl ?_
        refine jm_goto F dX2_steadyPair_23 ?_
        exact jm_weakD F (lv' := [some (.ref (jm_a E 15 0)), some (.ref (jm_a E p1 0)), some (.int p2), some (.int p3), some (.int p4), some (.int (s1.1 + 1))]) ⟨rfl, rfl, rfl, rfl, rfl, rfl, trivial⟩ (fun h => h)
    · refine jm_iconst F dX2_steadyPair_26 kc_0 ?_
      refine jm_istore (i := 5) (lv' := [some (.ref (jm_a E 15 0)), none, none, none, none, some (.int 0)]) F dX2_steadyPair_27 (by decide) rfl rfl ?_
      refine jm_bindS (pcJ := 92) (lvJ := fun e13 => [none, none, none, none, none, none]) (stJ := fun _ => []) (MJ := fun e13 => e4) ?_ (fun e13 => ?_)
      · refine jm_weak F (lv' := [some (.ref (jm_a E 15 0)), none, none, none, none, some (.int 0)]) ⟨rfl, rfl, trivial⟩ ?_
        refine jm_loopR (lvH := fun s5 => [some (.ref (jm_a E 15 0)), none, none, none, none, some (.int s5)]) (MH := fun s5 => e4) (fun s5 => ?_) jm_N 0
        unfold sF_steadyPair_L29
        refine jm_iload F dX2_steadyPair_29 rfl ?_
        refine jm_iconst F dX2_steadyPair_31 kc_4 ?_
        refine jm_icmp_ge F dX2_steadyPair_32 (fun c6 => ?_) (fun c6 => ?_)
        · exact jm_weakD F (lv' := [none, none, none, none, none, none]) trivial (fun h => h)
        · refine jm_aload_n (i := 0) F dX2_steadyPair_35 rfl rfl ?_
          refine jm_getR F dX2_steadyPair_36 fl_X2_18 lo_X2 rfl ?_
          refine jm_iload F dX2_steadyPair_39 rfl ?_
          refine jm_iald F dX2_steadyPair_41 la_X2_2 (fun v7 => ?_)
          refine jm_aload_n (i := 0) F dX2_steadyPair_42 rfl rfl ?_
          refine jm_getR F dX2_steadyPair_43 fl_X2_18 lo_X2 rfl ?_
          refine jm_iload F dX2_steadyPair_46 rfl ?_
          refine jm_iconst F dX2_steadyPair_48 kc_2 ?_
          refine jm_ixor F dX2_steadyPair_49 ?_
          refine jm_iald F dX2_steadyPair_50 la_X2_2 (fun v8 => ?_)
          refine jm_icmp_lt F dX2_steadyPair_51 (fun c9 => ?_) (fun c9 => ?_)
          · refine jm_iinc (i := 5) (lv' := [some (.ref (jm_a E 15 0)), none, none, none, none, some (.int (s5 + 1))]) F dX2_steadyPair_86 kc_1 rfl (by decide) rfl rfl ?_
            refine jm_goto F dX2_steadyPair_89 ?_
            exact jm_weakD F (lv' := [some (.ref (jm_a E 15 0)), none, none, none, none, some (.int (s5 + 1))]) ⟨rfl, rfl, trivial⟩ (fun h => h)
          · refine jm_aload_n (i := 0) F dX2_steadyPair_54 rfl rfl ?_
            refine jm_getR F dX2_steadyPair_55 fl_X2_22 lo_X2 rfl ?_
            refine jm_iload F dX2_steadyPair_58 rfl ?_
            refine jm_iald F dX2_steadyPair_60 la_X2_3 (fun v10 => ?_)
            refine jm_aload_n (i := 0) F dX2_steadyPair_61 rfl rfl ?_
            refine jm_getR F dX2_steadyPair_62 fl_X2_22 lo_X2 rfl ?_
            refine jm_iload F dX2_steadyPair_65 rfl ?_
            refine jm_iconst F dX2_steadyPair_67 kc_1 ?_
            refine jm_ixor F dX2_steadyPair_68 ?_
            refine jm_iald F dX2_steadyPair_69 la_X2_3 (fun v11 => ?_)
            refine jm_icmp_lt F dX2_steadyPair_70 (fun c12 => ?_) (fun c12 => ?_)
            · refine jm_iinc (i := 5) (lv' := [some (.ref (jm_a E 15 0)), none, none, none, none, some (.int (s5 + 1))]) F dX2_steadyPair_86 kc_1 rfl (by decide) rfl rfl ?_
              refine jm_goto F dX2_steadyPair_89 ?_
              exact jm_weakD F (lv' := [some (.ref (jm_a E 15 0)), none, none, none, none, some (.int (s5 + 1))]) ⟨rfl, rfl, trivial⟩ (fun h => h)
            · refine jm_bipush F dX2_steadyPair_73 kb_10 ?_
              refine jm_iload F dX2_steadyPair_75 rfl ?_
              refine jm_iconst F dX2_steadyPair_77 kc_1 ?_
              refine jm_ishr F dX2_steadyPair_78 ?_
              refine jm_imul F dX2_steadyPair_79 ?_
              refine jm_iload F dX2_steadyPair_80 rfl ?_
              refine jm_iconst F dX2_steadyPair_82 kc_1 ?_
              refine jm_iand F dX2_steadyPair_83 ?_
              refine jm_iadd F dX2_steadyPair_84 ?_
              exact jm_iret F dX2_steadyPair_85 (fun h => h)
      · refine jm_bipush F dX2_steadyPair_92 kb_m9 ?_
        exact jm_iret F dX2_steadyPair_94 (fun h => h)
  exact G r h hz
theorem dX8_two_0 : jm_d cX8_two 0 (.aload_n 0) 1 1 := ⟨by decide +kernel, rfl⟩
theorem dX8_two_1 : jm_d cX8_two 1 (.iload_n 1) 1 2 := ⟨by decide +kernel, rfl⟩
theorem dX8_two_2 : jm_d cX8_two 2 (.iload_n 2) 1 3 := ⟨by decide +kernel, rfl⟩
theorem dX8_two_3 : jm_d cX8_two 3 (.invokevirtual 188) 3 6 := ⟨by decide +kernel, rfl⟩
theorem dX8_two_6 : jm_b cX8_two 6 (.ifCond .ne) 9 15 := ⟨9, by decide +kernel, rfl, by decide⟩
theorem dX8_two_9 : jm_d cX8_two 9 (.aload_n 0) 1 10 := ⟨by decide +kernel, rfl⟩
theorem dX8_two_10 : jm_d cX8_two 10 (.iconst (-1)) 1 11 := ⟨by decide +kernel, rfl⟩
theorem dX8_two_11 : jm_d cX8_two 11 (.invokevirtual 64) 3 14 := ⟨by decide +kernel, rfl⟩
theorem dX8_two_14 : jm_d cX8_two 14 (.ireturn) 1 15 := ⟨by decide +kernel, rfl⟩
theorem dX8_two_15 : jm_d cX8_two 15 (.iload_n 3) 1 16 := ⟨by decide +kernel, rfl⟩
theorem dX8_two_16 : jm_d cX8_two 16 (.iconst 1) 1 17 := ⟨by decide +kernel, rfl⟩
theorem dX8_two_17 : jm_b cX8_two 17 (.if_icmp .ge) 20 27 := ⟨10, by decide +kernel, rfl, by decide⟩
theorem dX8_two_27 : jm_d cX8_two 27 (.iload_n 3) 1 28 := ⟨by decide +kernel, rfl⟩
theorem dX8_two_28 : jm_d cX8_two 28 (.bipush 30) 2 30 := ⟨by decide +kernel, rfl⟩
theorem dX8_two_30 : jm_b cX8_two 30 (.if_icmp .le) 33 40 := ⟨10, by decide +kernel, rfl, by decide⟩
theorem dX8_two_40 : jm_d cX8_two 40 (.aload_n 0) 1 41 := ⟨by decide +kernel, rfl⟩
theorem dX8_two_41 : jm_d cX8_two 41 (.getfield 36) 3 44 := ⟨by decide +kernel, rfl⟩
theorem dX8_two_44 : jm_d cX8_two 44 (.aload_n 0) 1 45 := ⟨by decide +kernel, rfl⟩
theorem dX8_two_45 : jm_d cX8_two 45 (.getfield 10) 3 48 := ⟨by decide +kernel, rfl⟩
theorem dX8_two_48 : jm_d cX8_two 48 (.iload_n 1) 1 49 := ⟨by decide +kernel, rfl⟩
theorem dX8_two_49 : jm_d cX8_two 49 (.iload_n 2) 1 50 := ⟨by decide +kernel, rfl⟩
theorem dX8_two_50 : jm_d cX8_two 50 (.iload_n 3) 1 51 := ⟨by decide +kernel, rfl⟩
theorem dX8_two_51 : jm_d cX8_two 51 (.invokevirtual 261) 3 54 := ⟨by decide +kernel, rfl⟩
theorem dX8_two_54 : jm_d cX8_two 54 (.ireturn) 1 55 := ⟨by decide +kernel, rfl⟩
theorem dX8_two_33 : jm_d cX8_two 33 (.aload_n 0) 1 34 := ⟨by decide +kernel, rfl⟩
theorem dX8_two_34 : jm_d cX8_two 34 (.bipush (-6)) 2 36 := ⟨by decide +kernel, rfl⟩
theorem dX8_two_36 : jm_d cX8_two 36 (.invokevirtual 64) 3 39 := ⟨by decide +kernel, rfl⟩
theorem dX8_two_39 : jm_d cX8_two 39 (.ireturn) 1 40 := ⟨by decide +kernel, rfl⟩
theorem dX8_two_20 : jm_d cX8_two 20 (.aload_n 0) 1 21 := ⟨by decide +kernel, rfl⟩
theorem dX8_two_21 : jm_d cX8_two 21 (.bipush (-4)) 2 23 := ⟨by decide +kernel, rfl⟩
theorem dX8_two_23 : jm_d cX8_two 23 (.invokevirtual 64) 3 26 := ⟨by decide +kernel, rfl⟩
theorem dX8_two_26 : jm_d cX8_two 26 (.ireturn) 1 27 := ⟨by decide +kernel, rfl⟩
set_option maxHeartbeats 4000000 in
set_option maxRecDepth 100000 in
theorem kW_two (E : jm_Ev) (hE : jm_dj E jm_LC) {M : jm_M} {p1 : Int32} {p2 : Int32} {p3 : Int32}  {r : Int32 × jm_M} (h : sW_two M p1 p2 p3 = some r) : jm_Ct E jm_LC yX8_two cX8_two 4 (some .int) 6 142 [.ref (jm_a E 0 0), .int p1, .int p2, .int p3] M (some (.int r.1)) r.2 := by
  refine jm_enter (lv := [some (.ref (jm_a E 0 0)), some (.int p1), some (.int p2), some (.int p3)]) hE (by decide) (Nat.le_of_ble_eq_true rfl) rfl ?_
  intro z w F hz
  have G : jm_G w 0 [some (.ref (jm_a E 0 0)), some (.int p1), some (.int p2), some (.int p3)] [] M (sW_two M p1 p2 p3) (fun e => z (some (.int e.1)) e.2) := by
    unfold sW_two
    refine jm_aload_n (i := 0) F dX8_two_0 rfl rfl ?_
    refine jm_iload_n (i := 1) F dX8_two_1 rfl rfl ?_
    refine jm_iload_n (i := 2) F dX8_two_2 rfl rfl ?_
    refine jm_callV (As := [.int p1, .int p2]) (st := []) (rv := fun r => some (.int r)) (mm := fun _ => M) F dX8_two_3 qX8_188 rfl lo_X8 rfl (fun r h => kW_areTwo E hE h) rfl (Nat.le_of_ble_eq_true rfl) ⟨Nat.le_of_ble_eq_true rfl, Nat.le_of_ble_eq_true rfl⟩ (fun r1 => ?_)
    refine jm_if_ne F dX8_two_6 (fun c2 => ?_) (fun c2 => ?_)
    · refine jm_aload_n (i := 0) F dX8_two_9 rfl rfl ?_
      refine jm_iconst F dX8_two_10 kc_m1 ?_
      refine jm_callV (As := [.int (-1)]) (st := []) (rv := fun r => some (.int r.1)) (mm := fun r => r.2) F dX8_two_11 qX8_64 rfl lo_X8 rfl (fun r h => kW_refuse E hE h) rfl (Nat.le_of_ble_eq_true rfl) ⟨Nat.le_of_ble_eq_true rfl, Nat.le_of_ble_eq_true rfl⟩ (fun r3 => ?_)
      exact jm_iret F dX8_two_14 (fun h => h)
    · refine jm_iload_n (i := 3) F dX8_two_15 rfl rfl ?_
      refine jm_iconst F dX8_two_16 kc_1 ?_
      refine jm_icmp_ge F dX8_two_17 (fun c4 => ?_) (fun c4 => ?_)
      · refine jm_iload_n (i := 3) F dX8_two_27 rfl rfl ?_
        refine jm_bipush F dX8_two_28 kb_30 ?_
        refine jm_icmp_le F dX8_two_30 (fun c5 => ?_) (fun c5 => ?_)
        · refine jm_aload_n (i := 0) F dX8_two_40 rfl rfl ?_
          refine jm_getR F dX8_two_41 fl_X8_36 lo_X8 rfl ?_
          refine jm_aload_n (i := 0) F dX8_two_44 rfl rfl ?_
          refine jm_getR F dX8_two_45 fl_X8_10 lo_X8 rfl ?_
          refine jm_iload_n (i := 1) F dX8_two_48 rfl rfl ?_
          refine jm_iload_n (i := 2) F dX8_two_49 rfl rfl ?_
          refine jm_iload_n (i := 3) F dX8_two_50 rfl rfl ?_
          refine jm_callV (As := [.ref (jm_a E 1 0), .int p1, .int p2, .int p3]) (st := []) (rv := fun r => some (.int r.1)) (mm := fun r => r.2) F dX8_two_51 qX8_261 rfl lo_X2 rfl (fun r h => kF_steadyPair E hE isT_1 h) rfl (Nat.le_of_ble_eq_true rfl) ⟨Nat.le_of_ble_eq_true rfl, Nat.le_of_ble_eq_true rfl⟩ (fun r6 => ?_)
          exact jm_iret F dX8_two_54 (fun h => h)
        · refine jm_aload_n (i := 0) F dX8_two_33 rfl rfl ?_
          refine jm_bipush F dX8_two_34 kb_m6 ?_
          refine jm_callV (As := [.int (-6)]) (st := []) (rv := fun r => some (.int r.1)) (mm := fun r => r.2) F dX8_two_36 qX8_64 rfl lo_X8 rfl (fun r h => kW_refuse E hE h) rfl (Nat.le_of_ble_eq_true rfl) ⟨Nat.le_of_ble_eq_true rfl, Nat.le_of_ble_eq_true rfl⟩ (fun r7 => ?_)
          exact jm_iret F dX8_two_39 (fun h => h)
      · refine jm_aload_n (i := 0) F dX8_two_20 rfl rfl ?_
        refine jm_bipush F dX8_two_21 kb_m4 ?_
        refine jm_callV (As := [.int (-4)]) (st := []) (rv := fun r => some (.int r.1)) (mm := fun r => r.2) F dX8_two_23 qX8_64 rfl lo_X8 rfl (fun r h => kW_refuse E hE h) rfl (Nat.le_of_ble_eq_true rfl) ⟨Nat.le_of_ble_eq_true rfl, Nat.le_of_ble_eq_true rfl⟩ (fun r8 => ?_)
        exact jm_iret F dX8_two_26 (fun h => h)
  exact G r h hz
theorem dX2_dampCases_0 : jm_d cX2_dampCases 0 (.lconst 0) 1 1 := ⟨by decide +kernel, rfl⟩
theorem dX2_dampCases_1 : jm_d cX2_dampCases 1 (.lstore 6) 2 3 := ⟨by decide +kernel, rfl⟩
theorem dX2_dampCases_3 : jm_d cX2_dampCases 3 (.lconst 1) 1 4 := ⟨by decide +kernel, rfl⟩
theorem dX2_dampCases_4 : jm_d cX2_dampCases 4 (.lstore 8) 2 6 := ⟨by decide +kernel, rfl⟩
theorem dX2_dampCases_6 : jm_d cX2_dampCases 6 (.lconst 1) 1 7 := ⟨by decide +kernel, rfl⟩
theorem dX2_dampCases_7 : jm_d cX2_dampCases 7 (.lstore 10) 2 9 := ⟨by decide +kernel, rfl⟩
theorem dX2_dampCases_9 : jm_d cX2_dampCases 9 (.iconst 0) 1 10 := ⟨by decide +kernel, rfl⟩
theorem dX2_dampCases_10 : jm_d cX2_dampCases 10 (.istore 12) 2 12 := ⟨by decide +kernel, rfl⟩
theorem dX2_dampCases_12 : jm_d cX2_dampCases 12 (.iload 12) 2 14 := ⟨by decide +kernel, rfl⟩
theorem dX2_dampCases_14 : jm_d cX2_dampCases 14 (.iload 4) 2 16 := ⟨by decide +kernel, rfl⟩
theorem dX2_dampCases_16 : jm_b cX2_dampCases 16 (.if_icmp .gt) 19 114 := ⟨98, by decide +kernel, rfl, by decide⟩
theorem dX2_dampCases_19 : jm_d cX2_dampCases 19 (.aload_n 0) 1 20 := ⟨by decide +kernel, rfl⟩
theorem dX2_dampCases_20 : jm_d cX2_dampCases 20 (.aload_n 1) 1 21 := ⟨by decide +kernel, rfl⟩
theorem dX2_dampCases_21 : jm_d cX2_dampCases 21 (.invokevirtual 29) 3 24 := ⟨by decide +kernel, rfl⟩
theorem dX2_dampCases_24 : jm_d cX2_dampCases 24 (.iconst 0) 1 25 := ⟨by decide +kernel, rfl⟩
theorem dX2_dampCases_25 : jm_d cX2_dampCases 25 (.istore 13) 2 27 := ⟨by decide +kernel, rfl⟩
theorem dX2_dampCases_27 : jm_d cX2_dampCases 27 (.iload 13) 2 29 := ⟨by decide +kernel, rfl⟩
theorem dX2_dampCases_29 : jm_d cX2_dampCases 29 (.iload 4) 2 31 := ⟨by decide +kernel, rfl⟩
theorem dX2_dampCases_31 : jm_b cX2_dampCases 31 (.if_icmp .ge) 34 59 := ⟨28, by decide +kernel, rfl, by decide⟩
theorem dX2_dampCases_34 : jm_d cX2_dampCases 34 (.aload_n 0) 1 35 := ⟨by decide +kernel, rfl⟩
theorem dX2_dampCases_35 : jm_d cX2_dampCases 35 (.getfield 12) 3 38 := ⟨by decide +kernel, rfl⟩
theorem dX2_dampCases_38 : jm_d cX2_dampCases 38 (.iload 13) 2 40 := ⟨by decide +kernel, rfl⟩
theorem dX2_dampCases_40 : jm_d cX2_dampCases 40 (.iload 12) 2 42 := ⟨by decide +kernel, rfl⟩
theorem dX2_dampCases_42 : jm_b cX2_dampCases 42 (.if_icmp .ge) 45 49 := ⟨7, by decide +kernel, rfl, by decide⟩
theorem dX2_dampCases_49 : jm_d cX2_dampCases 49 (.iconst 0) 1 50 := ⟨by decide +kernel, rfl⟩
theorem dX2_dampCases_45 : jm_d cX2_dampCases 45 (.iconst 1) 1 46 := ⟨by decide +kernel, rfl⟩
theorem dX2_dampCases_46 : jm_b cX2_dampCases 46 .goto 49 50 := ⟨4, by decide +kernel, rfl, by decide⟩
theorem dX2_dampCases_50 : jm_d cX2_dampCases 50 (.invokevirtual 44) 3 53 := ⟨by decide +kernel, rfl⟩
theorem dX2_dampCases_53 : jm_d cX2_dampCases 53 (.iinc 13 1) 3 56 := ⟨by decide +kernel, rfl⟩
theorem dX2_dampCases_56 : jm_b cX2_dampCases 56 .goto 59 27 := ⟨(-29), by decide +kernel, rfl, by decide⟩
theorem dX2_dampCases_59 : jm_d cX2_dampCases 59 (.aload_n 0) 1 60 := ⟨by decide +kernel, rfl⟩
theorem dX2_dampCases_60 : jm_d cX2_dampCases 60 (.getfield 12) 3 63 := ⟨by decide +kernel, rfl⟩
theorem dX2_dampCases_63 : jm_d cX2_dampCases 63 (.iload_n 2) 1 64 := ⟨by decide +kernel, rfl⟩
theorem dX2_dampCases_64 : jm_d cX2_dampCases 64 (.iload_n 3) 1 65 := ⟨by decide +kernel, rfl⟩
theorem dX2_dampCases_65 : jm_d cX2_dampCases 65 (.invokevirtual 40) 3 68 := ⟨by decide +kernel, rfl⟩
theorem dX2_dampCases_68 : jm_b cX2_dampCases 68 (.ifCond .eq) 71 81 := ⟨13, by decide +kernel, rfl, by decide⟩
theorem dX2_dampCases_71 : jm_d cX2_dampCases 71 (.lload 6) 2 73 := ⟨by decide +kernel, rfl⟩
theorem dX2_dampCases_73 : jm_d cX2_dampCases 73 (.lload 8) 2 75 := ⟨by decide +kernel, rfl⟩
theorem dX2_dampCases_75 : jm_d cX2_dampCases 75 (.lload 10) 2 77 := ⟨by decide +kernel, rfl⟩
theorem dX2_dampCases_77 : jm_d cX2_dampCases 77 (.lmul) 1 78 := ⟨by decide +kernel, rfl⟩
theorem dX2_dampCases_78 : jm_d cX2_dampCases 78 (.ladd) 1 79 := ⟨by decide +kernel, rfl⟩
theorem dX2_dampCases_79 : jm_d cX2_dampCases 79 (.lstore 6) 2 81 := ⟨by decide +kernel, rfl⟩
theorem dX2_dampCases_81 : jm_d cX2_dampCases 81 (.lload 8) 2 83 := ⟨by decide +kernel, rfl⟩
theorem dX2_dampCases_83 : jm_d cX2_dampCases 83 (.iload 4) 2 85 := ⟨by decide +kernel, rfl⟩
theorem dX2_dampCases_85 : jm_d cX2_dampCases 85 (.iload 12) 2 87 := ⟨by decide +kernel, rfl⟩
theorem dX2_dampCases_87 : jm_d cX2_dampCases 87 (.isub) 1 88 := ⟨by decide +kernel, rfl⟩
theorem dX2_dampCases_88 : jm_d cX2_dampCases 88 (.i2l) 1 89 := ⟨by decide +kernel, rfl⟩
theorem dX2_dampCases_89 : jm_d cX2_dampCases 89 (.lmul) 1 90 := ⟨by decide +kernel, rfl⟩
theorem dX2_dampCases_90 : jm_d cX2_dampCases 90 (.iload 12) 2 92 := ⟨by decide +kernel, rfl⟩
theorem dX2_dampCases_92 : jm_d cX2_dampCases 92 (.iconst 1) 1 93 := ⟨by decide +kernel, rfl⟩
theorem dX2_dampCases_93 : jm_d cX2_dampCases 93 (.iadd) 1 94 := ⟨by decide +kernel, rfl⟩
theorem dX2_dampCases_94 : jm_d cX2_dampCases 94 (.i2l) 1 95 := ⟨by decide +kernel, rfl⟩
theorem dX2_dampCases_95 : jm_d cX2_dampCases 95 (.ldiv) 1 96 := ⟨by decide +kernel, rfl⟩
theorem dX2_dampCases_96 : jm_d cX2_dampCases 96 (.lstore 8) 2 98 := ⟨by decide +kernel, rfl⟩
theorem dX2_dampCases_98 : jm_d cX2_dampCases 98 (.lload 10) 2 100 := ⟨by decide +kernel, rfl⟩
theorem dX2_dampCases_100 : jm_d cX2_dampCases 100 (.iload 5) 2 102 := ⟨by decide +kernel, rfl⟩
theorem dX2_dampCases_102 : jm_d cX2_dampCases 102 (.iconst 1) 1 103 := ⟨by decide +kernel, rfl⟩
theorem dX2_dampCases_103 : jm_d cX2_dampCases 103 (.isub) 1 104 := ⟨by decide +kernel, rfl⟩
theorem dX2_dampCases_104 : jm_d cX2_dampCases 104 (.i2l) 1 105 := ⟨by decide +kernel, rfl⟩
theorem dX2_dampCases_105 : jm_d cX2_dampCases 105 (.lmul) 1 106 := ⟨by decide +kernel, rfl⟩
theorem dX2_dampCases_106 : jm_d cX2_dampCases 106 (.lstore 10) 2 108 := ⟨by decide +kernel, rfl⟩
theorem dX2_dampCases_108 : jm_d cX2_dampCases 108 (.iinc 12 1) 3 111 := ⟨by decide +kernel, rfl⟩
theorem dX2_dampCases_111 : jm_b cX2_dampCases 111 .goto 114 12 := ⟨(-99), by decide +kernel, rfl, by decide⟩
theorem dX2_dampCases_114 : jm_d cX2_dampCases 114 (.lload 6) 2 116 := ⟨by decide +kernel, rfl⟩
theorem dX2_dampCases_116 : jm_d cX2_dampCases 116 (.lreturn) 1 117 := ⟨by decide +kernel, rfl⟩
set_option maxHeartbeats 4000000 in
set_option maxRecDepth 100000 in
theorem kF_dampCases (E : jm_Ev) (hE : jm_dj E jm_LC) {M : jm_M} {p1 : Nat} {p2 : Int32} {p3 : Int32} {p4 : Int32} {p5 : Int32} (hp1 : jm_isT p1) {r : Int64 × jm_M} (h : sF_dampCases M p1 p2 p3 p4 p5 = some r) : jm_Ct E jm_LC yX2_dampCases cX2_dampCases 14 (some .long) 5 139 [.ref (jm_a E 15 0), .ref (jm_a E p1 0), .int p2, .int p3, .int p4, .int p5] M (some (.long r.1)) r.2 := by
  refine jm_enter (lv := [some (.ref (jm_a E 15 0)), some (.ref (jm_a E p1 0)), some (.int p2), some (.int p3), some (.int p4), some (.int p5), none, none, none, none, none, none, none, none]) hE (by decide) (Nat.le_of_ble_eq_true rfl) rfl ?_
  intro z w F hz
  have G : jm_G w 0 [some (.ref (jm_a E 15 0)), some (.ref (jm_a E p1 0)), some (.int p2), some (.int p3), some (.int p4), some (.int p5), none, none, none, none, none, none, none, none] [] M (sF_dampCases M p1 p2 p3 p4 p5) (fun e => z (some (.long e.1)) e.2) := by
    unfold sF_dampCases
    refine jm_lconst (v := 0) F dX2_dampCases_0 (by decide) ?_
    refine jm_lstore (i := 6) (lv' := [some (.ref (jm_a E 15 0)), some (.ref (jm_a E p1 0)), some (.int p2), some (.int p3), some (.int p4), some (.int p5), some (.long 0), none, none, none, none, none, none, none]) F dX2_dampCases_1 (by decide) rfl rfl ?_
    refine jm_lconst (v := 1) F dX2_dampCases_3 (by decide) ?_
    refine jm_lstore (i := 8) (lv' := [some (.ref (jm_a E 15 0)), some (.ref (jm_a E p1 0)), some (.int p2), some (.int p3), some (.int p4), some (.int p5), some (.long 0), none, some (.long 1), none, none, none, none, none]) F dX2_dampCases_4 (by decide) rfl rfl ?_
    refine jm_lconst (v := 1) F dX2_dampCases_6 (by decide) ?_
    refine jm_lstore (i := 10) (lv' := [some (.ref (jm_a E 15 0)), some (.ref (jm_a E p1 0)), some (.int p2), some (.int p3), some (.int p4), some (.int p5), some (.long 0), none, some (.long 1), none, some (.long 1), none, none, none]) F dX2_dampCases_7 (by decide) rfl rfl ?_
    refine jm_iconst F dX2_dampCases_9 kc_0 ?_
    refine jm_istore (i := 12) (lv' := [some (.ref (jm_a E 15 0)), some (.ref (jm_a E p1 0)), some (.int p2), some (.int p3), some (.int p4), some (.int p5), some (.long 0), none, some (.long 1), none, some (.long 1), none, some (.int 0), none]) F dX2_dampCases_10 (by decide) rfl rfl ?_
    refine jm_bind (pcJ := 114) (lvJ := fun e16 => [none, none, none, none, none, none, some (.long e16.1), none, none, none, none, none, none, none]) (stJ := fun _ => []) (MJ := fun e16 => e16.2) ?_ (fun e16 => ?_)
    · refine jm_weak F (lv' := [some (.ref (jm_a E 15 0)), some (.ref (jm_a E p1 0)), some (.int p2), some (.int p3), some (.int p4), some (.int p5), some (.long 0), none, some (.long 1), none, some (.long 1), none, some (.int 0), none]) ⟨rfl, rfl, rfl, rfl, rfl, rfl, rfl, rfl, rfl, rfl, trivial⟩ ?_
      refine jm_loopR (lvH := fun s1 => [some (.ref (jm_a E 15 0)), some (.ref (jm_a E p1 0)), some (.int p2), some (.int p3), some (.int p4), some (.int p5), some (.long s1.1), none, some (.long s1.2.1), none, some (.long s1.2.2.1), none, some (.int s1.2.2.2.1), none]) (MH := fun s1 => s1.2.2.2.2) (fun s1 => ?_) jm_N (0, 1, 1, 0, M)
      unfold sF_dampCases_L12
      refine jm_iload F dX2_dampCases_12 rfl ?_
      refine jm_iload F dX2_dampCases_14 rfl ?_
      refine jm_icmp_gt F dX2_dampCases_16 (fun c2 => ?_) (fun c2 => ?_)
      · exact jm_weakD F (lv' := [none, none, none, none, none, none, some (.long s1.1), none, none, none, none, none, none, none]) ⟨rfl, trivial⟩ (fun h => h)
      · refine jm_aload_n (i := 0) F dX2_dampCases_19 rfl rfl ?_
        refine jm_aload_n (i := 1) F dX2_dampCases_20 rfl rfl ?_
        refine jm_callV (As := [.ref (jm_a E p1 0)]) (st := []) (rv := fun _ => none) (mm := fun r => r) F dX2_dampCases_21 qX2_29 rfl lo_X2 rfl (fun r h => kF_think E hE hp1 h) rfl (Nat.le_of_ble_eq_true rfl) ⟨Nat.le_of_ble_eq_true rfl, Nat.le_of_ble_eq_true rfl⟩ (fun r3 => ?_)
        refine jm_iconst F dX2_dampCases_24 kc_0 ?_
        refine jm_istore (i := 13) (lv' := [some (.ref (jm_a E 15 0)), some (.ref (jm_a E p1 0)), some (.int p2), some (.int p3), some (.int p4), some (.int p5), some (.long s1.1), none, some (.long s1.2.1), none, some (.long s1.2.2.1), none, some (.int s1.2.2.2.1), some (.int 0)]) F dX2_dampCases_25 (by decide) rfl rfl ?_
        refine jm_bind (pcJ := 59) (lvJ := fun e9 => [some (.ref (jm_a E 15 0)), some (.ref (jm_a E p1 0)), some (.int p2), some (.int p3), some (.int p4), some (.int p5), some (.long s1.1), none, some (.long s1.2.1), none, some (.long s1.2.2.1), none, some (.int s1.2.2.2.1), none]) (stJ := fun _ => []) (MJ := fun e9 => e9) ?_ (fun e9 => ?_)
        · refine jm_weak F (lv' := [some (.ref (jm_a E 15 0)), some (.ref (jm_a E p1 0)), some (.int p2), some (.int p3), some (.int p4), some (.int p5), some (.long s1.1), none, some (.long s1.2.1), none, some (.long s1.2.2.1), none, some (.int s1.2.2.2.1), some (.int 0)]) ⟨rfl, rfl, rfl, rfl, rfl, rfl, rfl, rfl, rfl, rfl, rfl, trivial⟩ ?_
          refine jm_loopR (lvH := fun s4 => [some (.ref (jm_a E 15 0)), some (.ref (jm_a E p1 0)), some (.int p2), some (.int p3), some (.int p4), some (.int p5), some (.long s1.1), none, some (.long s1.2.1), none, some (.long s1.2.2.1), none, some (.int s1.2.2.2.1), some (.int s4.1)]) (MH := fun s4 => s4.2) (fun s4 => ?_) jm_N (0, r3)
          unfold sF_dampCases_L27
          refine jm_iload F dX2_dampCases_27 rfl ?_
          refine jm_iload F dX2_dampCases_29 rfl ?_
          refine jm_icmp_ge F dX2_dampCases_31 (fun c5 => ?_) (fun c5 => ?_)
          · exact jm_weakD F (lv' := [some (.ref (jm_a E 15 0)), some (.ref (jm_a E p1 0)), some (.int p2), some (.int p3), some (.int p4), some (.int p5), some (.long s1.1), none, some (.long s1.2.1), none, some (.long s1.2.2.1), none, some (.int s1.2.2.2.1), none]) ⟨rfl, rfl, rfl, rfl, rfl, rfl, rfl, rfl, rfl, rfl, trivial⟩ (fun h => h)
          · refine jm_aload_n (i := 0) F dX2_dampCases_34 rfl rfl ?_
            refine jm_getR F dX2_dampCases_35 fl_X2_12 lo_X2 rfl ?_
            refine jm_iload F dX2_dampCases_38 rfl ?_
            refine jm_iload F dX2_dampCases_40 rfl ?_
            refine jm_bind (pcJ := 50) (lvJ := fun e6 => [some (.ref (jm_a E 15 0)), some (.ref (jm_a E p1 0)), some (.int p2), some (.int p3), some (.int p4), some (.int p5), some (.long s1.1), none, some (.long s1.2.1), none, some (.long s1.2.2.1), none, some (.int s1.2.2.2.1), some (.int s4.1)]) (stJ := fun e6 => [.int e6, .ref (jm_a E 4 0)]) (MJ := fun e6 => s4.2) ?_ (fun e6 => ?_)
            · refine jm_icmp_ge F dX2_dampCases_42 (fun c7 => ?_) (fun c7 => ?_)
              · refine jm_iconst F dX2_dampCases_49 kc_0 ?_
                exact jm_weakD F (lv' := [some (.ref (jm_a E 15 0)), some (.ref (jm_a E p1 0)), some (.int p2), some (.int p3), some (.int p4), some (.int p5), some (.long s1.1), none, some (.long s1.2.1), none, some (.long s1.2.2.1), none, some (.int s1.2.2.2.1), some (.int s4.1)]) ⟨rfl, rfl, rfl, rfl, rfl, rfl, rfl, rfl, rfl, rfl, rfl, trivial⟩ (fun h => h)
              · refine jm_iconst F dX2_dampCases_45 kc_1 ?_
                refine jm_goto F dX2_dampCases_46 ?_
                exact jm_weakD F (lv' := [some (.ref (jm_a E 15 0)), some (.ref (jm_a E p1 0)), some (.int p2), some (.int p3), some (.int p4), some (.int p5), some (.long s1.1), none, some (.long s1.2.1), none, some (.long s1.2.2.1), none, some (.int s1.2.2.2.1), some (.int s4.1)]) ⟨rfl, rfl, rfl, rfl, rfl, rfl, rfl, rfl, rfl, rfl, rfl, trivial⟩ (fun h => h)
            · refine jm_callV (As := [.int e6]) (st := []) (rv := fun _ => none) (mm := fun r => r) F dX2_dampCases_50 qX2_44 rfl (lo_T isT_4) rfl (fun r h => kT_weekPasses E hE isT_4 h) rfl (Nat.le_of_ble_eq_true rfl) ⟨Nat.le_of_ble_eq_true rfl, Nat.le_of_ble_eq_true rfl⟩ (fun r8 => ?_)
              refine jm_iinc (i := 13) (lv' := [some (.ref (jm_a E 15 0)), some (.ref (jm_a E p1 0)), some (.int p2), some (.int p3), some (.int p4), some (.int p5), some (.long s1.1), none, some (.long s1.2.1), none, some (.long s1.2.2.1), none, some (.int s1.2.2.2.1), some (.int (s4.1 + 1))]) F dX2_dampCases_53 kc_1 rfl (by decide) rfl rfl ?_
              refine jm_goto F dX2_dampCases_56 ?_
              exact jm_weakD F (lv' := [some (.ref (jm_a E 15 0)), some (.ref (jm_a E p1 0)), some (.int p2), some (.int p3), some (.int p4), some (.int p5), some (.long s1.1), none, some (.long s1.2.1), none, some (.long s1.2.2.1), none, some (.int s1.2.2.2.1), some (.int (s4.1 + 1))]) ⟨rfl, rfl, rfl, rfl, rfl, rfl, rfl, rfl, rfl, rfl, rfl, trivial⟩ (fun h => h)
        · refine jm_aload_n (i := 0) F dX2_dampCases_59 rfl rfl ?_
          refine jm_getR F dX2_dampCases_60 fl_X2_12 lo_X2 rfl ?_
          refine jm_iload_n (i := 2) F dX2_dampCases_63 rfl rfl ?_
          refine jm_iload_n (i := 3) F dX2_dampCases_64 rfl rfl ?_
          refine jm_callV (As := [.int p2, .int p3]) (st := []) (rv := fun r => some (.int r)) (mm := fun _ => e9) F dX2_dampCases_65 qX2_40 rfl (lo_T isT_4) rfl (fun r h => kT_comesDown E hE isT_4 h) rfl (Nat.le_of_ble_eq_true rfl) ⟨Nat.le_of_ble_eq_true rfl, Nat.le_of_ble_eq_true rfl⟩ (fun r10 => ?_)
          refine jm_bind (pcJ := 81) (lvJ := fun e11 => [some (.ref (jm_a E 15 0)), some (.ref (jm_a E p1 0)), some (.int p2), some (.int p3), some (.int p4), some (.int p5), some (.long e11), none, some (.long s1.2.1), none, some (.long s1.2.2.1), none, some (.int s1.2.2.2.1), none]) (stJ := fun e11 => []) (MJ := fun e11 => e9) ?_ (fun e11 => ?_)
          · refine jm_if_eq F dX2_dampCases_68 (fun c12 => ?_) (fun c12 => ?_)
            · exact jm_weakD F (lv' := [some (.ref (jm_a E 15 0)), some (.ref (jm_a E p1 0)), some (.int p2), some (.int p3), some (.int p4), some (.int p5), some (.long s1.1), none, some (.long s1.2.1), none, some (.long s1.2.2.1), none, some (.int s1.2.2.2.1), none]) ⟨rfl, rfl, rfl, rfl, rfl, rfl, rfl, rfl, rfl, rfl, trivial⟩ (fun h => h)
            · refine jm_lload F dX2_dampCases_71 rfl ?_
              refine jm_lload F dX2_dampCases_73 rfl ?_
              refine jm_lload F dX2_dampCases_75 rfl ?_
              refine jm_lmul F dX2_dampCases_77 ?_
              refine jm_ladd F dX2_dampCases_78 ?_
              refine jm_nameL (f := fun x13 => [.long x13]) (fun x13 => ?_) rfl
              refine jm_lstore (i := 6) (lv' := [some (.ref (jm_a E 15 0)), some (.ref (jm_a E p1 0)), some (.int p2), some (.int p3), some (.int p4), some (.int p5), some (.long x13), none, some (.long s1.2.1), none, some (.long s1.2.2.1), none, some (.int s1.2.2.2.1), none]) F dX2_dampCases_79 (by decide) rfl rfl ?_
              exact jm_weakD F (lv' := [some (.ref (jm_a E 15 0)), some (.ref (jm_a E p1 0)), some (.int p2), some (.int p3), some (.int p4), some (.int p5), some (.long x13), none, some (.long s1.2.1), none, some (.long s1.2.2.1), none, some (.int s1.2.2.2.1), none]) ⟨rfl, rfl, rfl, rfl, rfl, rfl, rfl, rfl, rfl, rfl, trivial⟩ (fun h => h)
          · refine jm_lload F dX2_dampCases_81 rfl ?_
            refine jm_iload F dX2_dampCases_83 rfl ?_
            refine jm_iload F dX2_dampCases_85 rfl ?_
            refine jm_isub F dX2_dampCases_87 ?_
            refine jm_i2l F dX2_dampCases_88 ?_
            refine jm_lmul F dX2_dampCases_89 ?_
            refine jm_iload F dX2_dampCases_90 rfl ?_
            refine jm_iconst F dX2_dampCases_92 kc_1 ?_
            refine jm_iadd F dX2_dampCases_93 ?_
            refine jm_i2l F dX2_dampCases_94 ?_
            refine jm_ldiv F dX2_dampCases_95 (fun v14 => ?_)
            refine jm_lstore (i := 8) (lv' := [some (.ref (jm_a E 15 0)), some (.ref (jm_a E p1 0)), some (.int p2), some (.int p3), some (.int p4), some (.int p5), some (.long e11), none, some (.long v14), none, some (.long s1.2.2.1), none, some (.int s1.2.2.2.1), none]) F dX2_dampCases_96 (by decide) rfl rfl ?_
            refine jm_lload F dX2_dampCases_98 rfl ?_
            refine jm_iload F dX2_dampCases_100 rfl ?_
            refine jm_iconst F dX2_dampCases_102 kc_1 ?_
            refine jm_isub F dX2_dampCases_103 ?_
            refine jm_i2l F dX2_dampCases_104 ?_
            refine jm_lmul F dX2_dampCases_105 ?_
            refine jm_nameL (f := fun x15 => [.long x15]) (fun x15 => ?_) rfl
            refine jm_lstore (i := 10) (lv' := [some (.ref (jm_a E 15 0)), some (.ref (jm_a E p1 0)), some (.int p2), some (.int p3), some (.int p4), some (.int p5), some (.long e11), none, some (.long v14), none, some (.long x15), none, some (.int s1.2.2.2.1), none]) F dX2_dampCases_106 (by decide) rfl rfl ?_
            refine jm_iinc (i := 12) (lv' := [some (.ref (jm_a E 15 0)), some (.ref (jm_a E p1 0)), some (.int p2), some (.int p3), some (.int p4), some (.int p5), some (.long e11), none, some (.long v14), none, some (.long x15), none, some (.int (s1.2.2.2.1 + 1)), none]) F dX2_dampCases_108 kc_1 rfl (by decide) rfl rfl ?_
            refine jm_goto F dX2_dampCases_111 ?_
            exact jm_weakD F (lv' := [some (.ref (jm_a E 15 0)), some (.ref (jm_a E p1 0)), some (.int p2), some (.int p3), some (.int p4), some (.int p5), some (.long e11), none, some (.long v14), none, some (.long x15), none, some (.int (s1.2.2.2.1 + 1)), none]) ⟨rfl, rfl, rfl, rfl, rfl, rfl, rfl, rfl, rfl, rfl, trivial⟩ (fun h => h)
    · refine jm_lload F dX2_dampCases_114 rfl ?_
      exact jm_lret F dX2_dampCases_116 (fun h => h)
  exact G r h hz
theorem dX3_power_0 : jm_d cX3_power 0 (.lconst 1) 1 1 := ⟨by decide +kernel, rfl⟩
theorem dX3_power_1 : jm_d cX3_power 1 (.lstore_n 3) 1 2 := ⟨by decide +kernel, rfl⟩
theorem dX3_power_2 : jm_d cX3_power 2 (.iconst 0) 1 3 := ⟨by decide +kernel, rfl⟩
theorem dX3_power_3 : jm_d cX3_power 3 (.istore 5) 2 5 := ⟨by decide +kernel, rfl⟩
theorem dX3_power_5 : jm_d cX3_power 5 (.iload 5) 2 7 := ⟨by decide +kernel, rfl⟩
theorem dX3_power_7 : jm_d cX3_power 7 (.iload_n 2) 1 8 := ⟨by decide +kernel, rfl⟩
theorem dX3_power_8 : jm_b cX3_power 8 (.if_icmp .ge) 11 21 := ⟨13, by decide +kernel, rfl, by decide⟩
theorem dX3_power_11 : jm_d cX3_power 11 (.lload_n 3) 1 12 := ⟨by decide +kernel, rfl⟩
theorem dX3_power_12 : jm_d cX3_power 12 (.lload_n 0) 1 13 := ⟨by decide +kernel, rfl⟩
theorem dX3_power_13 : jm_d cX3_power 13 (.lmul) 1 14 := ⟨by decide +kernel, rfl⟩
theorem dX3_power_14 : jm_d cX3_power 14 (.lstore_n 3) 1 15 := ⟨by decide +kernel, rfl⟩
theorem dX3_power_15 : jm_d cX3_power 15 (.iinc 5 1) 3 18 := ⟨by decide +kernel, rfl⟩
theorem dX3_power_18 : jm_b cX3_power 18 .goto 21 5 := ⟨(-13), by decide +kernel, rfl, by decide⟩
theorem dX3_power_21 : jm_d cX3_power 21 (.lload_n 3) 1 22 := ⟨by decide +kernel, rfl⟩
theorem dX3_power_22 : jm_d cX3_power 22 (.lreturn) 1 23 := ⟨by decide +kernel, rfl⟩
set_option maxHeartbeats 4000000 in
set_option maxRecDepth 100000 in
theorem kQ_power (E : jm_Ev) (hE : jm_dj E jm_LC) {p1 : Int64} {p2 : Int32} {M : jm_M}  {r : Int64} (h : sQ_power p1 p2 = some r) : jm_Ct E jm_LC yX3_power cX3_power 6 (some .long) 0 0 [.long p1, .int p2] M (some (.long r)) M := by
  refine jm_enter (lv := [some (.long p1), none, some (.int p2), none, none, none]) hE (by decide) (Nat.le_of_ble_eq_true rfl) rfl ?_
  intro z w F hz
  have G : jm_G w 0 [some (.long p1), none, some (.int p2), none, none, none] [] M (sQ_power p1 p2) (fun e => z (some (.long e)) M) := by
    unfold sQ_power
    refine jm_lconst (v := 1) F dX3_power_0 (by decide) ?_
    refine jm_lstore_n (i := 3) (lv' := [some (.long p1), none, some (.int p2), some (.long 1), none, none]) F dX3_power_1 rfl (by decide) rfl rfl ?_
    refine jm_iconst F dX3_power_2 kc_0 ?_
    refine jm_istore (i := 5) (lv' := [some (.long p1), none, some (.int p2), some (.long 1), none, some (.int 0)]) F dX3_power_3 (by decide) rfl rfl ?_
    refine jm_bind (pcJ := 21) (lvJ := fun e4 => [none, none, none, some (.long e4), none, none]) (stJ := fun _ => []) (MJ := fun e4 => M) ?_ (fun e4 => ?_)
    · refine jm_weak F (lv' := [some (.long p1), none, some (.int p2), some (.long 1), none, some (.int 0)]) ⟨rfl, rfl, rfl, rfl, trivial⟩ ?_
      refine jm_loopR (lvH := fun s1 => [some (.long p1), none, some (.int p2), some (.long s1.1), none, some (.int s1.2)]) (MH := fun s1 => M) (fun s1 => ?_) jm_N (1, 0)
      unfold sQ_power_L5
      refine jm_iload F dX3_power_5 rfl ?_
      refine jm_iload_n (i := 2) F dX3_power_7 rfl rfl ?_
      refine jm_icmp_ge F dX3_power_8 (fun c2 => ?_) (fun c2 => ?_)
      · exact jm_weakD F (lv' := [none, none, none, some (.long s1.1), none, none]) ⟨rfl, trivial⟩ (fun h => h)
      · refine jm_lload_n (i := 3) F dX3_power_11 rfl rfl ?_
        refine jm_lload_n (i := 0) F dX3_power_12 rfl rfl ?_
        refine jm_lmul F dX3_power_13 ?_
        refine jm_nameL (f := fun x3 => [.long x3]) (fun x3 => ?_) rfl
        refine jm_lstore_n (i := 3) (lv' := [some (.long p1), none, some (.int p2), some (.long x3), none, some (.int s1.2)]) F dX3_power_14 rfl (by decide) rfl rfl ?_
        refine jm_iinc (i := 5) (lv' := [some (.long p1), none, some (.int p2), some (.long x3), none, some (.int (s1.2 + 1))]) F dX3_power_15 kc_1 rfl (by decide) rfl rfl ?_
        refine jm_goto F dX3_power_18 ?_
        exact jm_weakD F (lv' := [some (.long p1), none, some (.int p2), some (.long x3), none, some (.int (s1.2 + 1))]) ⟨rfl, rfl, rfl, rfl, trivial⟩ (fun h => h)
    · refine jm_lload_n (i := 3) F dX3_power_21 rfl rfl ?_
      exact jm_lret F dX3_power_22 (fun h => h)
  exact G r h hz
theorem dX3_sharedDivisor_0 : jm_d cX3_sharedDivisor 0 (.lload_n 0) 1 1 := ⟨by decide +kernel, rfl⟩
theorem dX3_sharedDivisor_1 : jm_d cX3_sharedDivisor 1 (.lstore 4) 2 3 := ⟨by decide +kernel, rfl⟩
theorem dX3_sharedDivisor_3 : jm_d cX3_sharedDivisor 3 (.lload_n 2) 1 4 := ⟨by decide +kernel, rfl⟩
theorem dX3_sharedDivisor_4 : jm_d cX3_sharedDivisor 4 (.lstore 6) 2 6 := ⟨by decide +kernel, rfl⟩
theorem dX3_sharedDivisor_6 : jm_d cX3_sharedDivisor 6 (.iconst 0) 1 7 := ⟨by decide +kernel, rfl⟩
theorem dX3_sharedDivisor_7 : jm_d cX3_sharedDivisor 7 (.istore 8) 2 9 := ⟨by decide +kernel, rfl⟩
theorem dX3_sharedDivisor_9 : jm_d cX3_sharedDivisor 9 (.iload 8) 2 11 := ⟨by decide +kernel, rfl⟩
theorem dX3_sharedDivisor_11 : jm_d cX3_sharedDivisor 11 (.sipush 130) 3 14 := ⟨by decide +kernel, rfl⟩
theorem dX3_sharedDivisor_14 : jm_b cX3_sharedDivisor 14 (.if_icmp .ge) 17 45 := ⟨31, by decide +kernel, rfl, by decide⟩
theorem dX3_sharedDivisor_17 : jm_d cX3_sharedDivisor 17 (.lload 6) 2 19 := ⟨by decide +kernel, rfl⟩
theorem dX3_sharedDivisor_19 : jm_d cX3_sharedDivisor 19 (.lconst 0) 1 20 := ⟨by decide +kernel, rfl⟩
theorem dX3_sharedDivisor_20 : jm_d cX3_sharedDivisor 20 (.lcmp) 1 21 := ⟨by decide +kernel, rfl⟩
theorem dX3_sharedDivisor_21 : jm_b cX3_sharedDivisor 21 (.ifCond .eq) 24 45 := ⟨24, by decide +kernel, rfl, by decide⟩
theorem dX3_sharedDivisor_24 : jm_d cX3_sharedDivisor 24 (.lload 4) 2 26 := ⟨by decide +kernel, rfl⟩
theorem dX3_sharedDivisor_26 : jm_d cX3_sharedDivisor 26 (.lload 6) 2 28 := ⟨by decide +kernel, rfl⟩
theorem dX3_sharedDivisor_28 : jm_d cX3_sharedDivisor 28 (.lrem) 1 29 := ⟨by decide +kernel, rfl⟩
theorem dX3_sharedDivisor_29 : jm_d cX3_sharedDivisor 29 (.lstore 9) 2 31 := ⟨by decide +kernel, rfl⟩
theorem dX3_sharedDivisor_31 : jm_d cX3_sharedDivisor 31 (.lload 6) 2 33 := ⟨by decide +kernel, rfl⟩
theorem dX3_sharedDivisor_33 : jm_d cX3_sharedDivisor 33 (.lstore 4) 2 35 := ⟨by decide +kernel, rfl⟩
theorem dX3_sharedDivisor_35 : jm_d cX3_sharedDivisor 35 (.lload 9) 2 37 := ⟨by decide +kernel, rfl⟩
theorem dX3_sharedDivisor_37 : jm_d cX3_sharedDivisor 37 (.lstore 6) 2 39 := ⟨by decide +kernel, rfl⟩
theorem dX3_sharedDivisor_39 : jm_d cX3_sharedDivisor 39 (.iinc 8 1) 3 42 := ⟨by decide +kernel, rfl⟩
theorem dX3_sharedDivisor_42 : jm_b cX3_sharedDivisor 42 .goto 45 9 := ⟨(-33), by decide +kernel, rfl, by decide⟩
theorem dX3_sharedDivisor_45 : jm_d cX3_sharedDivisor 45 (.lload 4) 2 47 := ⟨by decide +kernel, rfl⟩
theorem dX3_sharedDivisor_47 : jm_d cX3_sharedDivisor 47 (.lreturn) 1 48 := ⟨by decide +kernel, rfl⟩
set_option maxHeartbeats 4000000 in
set_option maxRecDepth 100000 in
theorem kQ_sharedDivisor (E : jm_Ev) (hE : jm_dj E jm_LC) {p1 : Int64} {p2 : Int64} {M : jm_M}  {r : Int64} (h : sQ_sharedDivisor p1 p2 = some r) : jm_Ct E jm_LC yX3_sharedDivisor cX3_sharedDivisor 11 (some .long) 0 0 [.long p1, .long p2] M (some (.long r)) M := by
  refine jm_enter (lv := [some (.long p1), none, some (.long p2), none, none, none, none, none, none, none, none]) hE (by decide) (Nat.le_of_ble_eq_true rfl) rfl ?_
  intro z w F hz
  have G : jm_G w 0 [some (.long p1), none, some (.long p2), none, none, none, none, none, none, none, none] [] M (sQ_sharedDivisor p1 p2) (fun e => z (some (.long e)) M) := by
    unfold sQ_sharedDivisor
    refine jm_lload_n (i := 0) F dX3_sharedDivisor_0 rfl rfl ?_
    refine jm_lstore (i := 4) (lv' := [some (.long p1), none, some (.long p2), none, some (.long p1), none, none, none, none, none, none]) F dX3_sharedDivisor_1 (by decide) rfl rfl ?_
    refine jm_lload_n (i := 2) F dX3_sharedDivisor_3 rfl rfl ?_
    refine jm_lstore (i := 6) (lv' := [some (.long p1), none, some (.long p2), none, some (.long p1), none, some (.long p2), none, none, none, none]) F dX3_sharedDivisor_4 (by decide) rfl rfl ?_
    refine jm_iconst F dX3_sharedDivisor_6 kc_0 ?_
    refine jm_istore (i := 8) (lv' := [some (.long p1), none, some (.long p2), none, some (.long p1), none, some (.long p2), none, some (.int 0), none, none]) F dX3_sharedDivisor_7 (by decide) rfl rfl ?_
    refine jm_bind (pcJ := 45) (lvJ := fun e5 => [none, none, none, none, some (.long e5), none, none, none, none, none, none]) (stJ := fun _ => []) (MJ := fun e5 => M) ?_ (fun e5 => ?_)
    · refine jm_weak F (lv' := [none, none, none, none, some (.long p1), none, some (.long p2), none, some (.int 0), none, none]) ⟨rfl, rfl, rfl, trivial⟩ ?_
      refine jm_loopR (lvH := fun s1 => [none, none, none, none, some (.long s1.1), none, some (.long s1.2.1), none, some (.int s1.2.2), none, none]) (MH := fun s1 => M) (fun s1 => ?_) jm_N (p1, p2, 0)
      unfold sQ_sharedDivisor_L9
      refine jm_iload F dX3_sharedDivisor_9 rfl ?_
      refine jm_sipush F dX3_sharedDivisor_11 ks_130 ?_
      refine jm_icmp_ge F dX3_sharedDivisor_14 (fun c2 => ?_) (fun c2 => ?_)
      · exact jm_weakD F (lv' := [none, none, none, none, some (.long s1.1), none, none, none, none, none, none]) ⟨rfl, trivial⟩ (fun h => h)
      · refine jm_lload F dX3_sharedDivisor_17 rfl ?_
        refine jm_lconst (v := 0) F dX3_sharedDivisor_19 (by decide) ?_
        refine jm_lcmp F dX3_sharedDivisor_20 ?_
        refine jm_if_eq F dX3_sharedDivisor_21 (fun c3 => ?_) (fun c3 => ?_)
        · exact jm_weakD F (lv' := [none, none, none, none, some (.long s1.1), none, none, none, none, none, none]) ⟨rfl, trivial⟩ (fun h => h)
        · refine jm_lload F dX3_sharedDivisor_24 rfl ?_
          refine jm_lload F dX3_sharedDivisor_26 rfl ?_
          refine jm_lrem F dX3_sharedDivisor_28 (fun v4 => ?_)
          refine jm_lstore (i := 9) (lv' := [none, none, none, none, some (.long s1.1), none, some (.long s1.2.1), none, some (.int s1.2.2), some (.long v4), none]) F dX3_sharedDivisor_29 (by decide) rfl rfl ?_
          refine jm_lload F dX3_sharedDivisor_31 rfl ?_
          refine jm_lstore (i := 4) (lv' := [none, none, none, none, some (.long s1.2.1), none, some (.long s1.2.1), none, some (.int s1.2.2), some (.long v4), none]) F dX3_sharedDivisor_33 (by decide) rfl rfl ?_
          refine jm_lload F dX3_sharedDivisor_35 rfl ?_
          refine jm_lstore (i := 6) (lv' := [none, none, none, none, some (.long s1.2.1), none, some (.long v4), none, some (.int s1.2.2), some (.long v4), none]) F dX3_sharedDivisor_37 (by decide) rfl rfl ?_
          refine jm_iinc (i := 8) (lv' := [none, none, none, none, some (.long s1.2.1), none, some (.long v4), none, some (.int (s1.2.2 + 1)), some (.long v4), none]) F dX3_sharedDivisor_39 kc_1 rfl (by decide) rfl rfl ?_
          refine jm_goto F dX3_sharedDivisor_42 ?_
          exact jm_weakD F (lv' := [none, none, none, none, some (.long s1.2.1), none, some (.long v4), none, some (.int (s1.2.2 + 1)), none, none]) ⟨rfl, rfl, rfl, trivial⟩ (fun h => h)
    · refine jm_lload F dX3_sharedDivisor_45 rfl ?_
      exact jm_lret F dX3_sharedDivisor_47 (fun h => h)
  exact G r h hz
theorem dX3_part_0 : jm_d cX3_part 0 (.lload_n 0) 1 1 := ⟨by decide +kernel, rfl⟩
theorem dX3_part_1 : jm_d cX3_part 1 (.lconst 0) 1 2 := ⟨by decide +kernel, rfl⟩
theorem dX3_part_2 : jm_d cX3_part 2 (.lcmp) 1 3 := ⟨by decide +kernel, rfl⟩
theorem dX3_part_3 : jm_b cX3_part 3 (.ifCond .ne) 6 10 := ⟨7, by decide +kernel, rfl, by decide⟩
theorem dX3_part_6 : jm_d cX3_part 6 (.iload 4) 2 8 := ⟨by decide +kernel, rfl⟩
theorem dX3_part_8 : jm_d cX3_part 8 (.i2l) 1 9 := ⟨by decide +kernel, rfl⟩
theorem dX3_part_9 : jm_d cX3_part 9 (.lreturn) 1 10 := ⟨by decide +kernel, rfl⟩
theorem dX3_part_10 : jm_d cX3_part 10 (.lload_n 0) 1 11 := ⟨by decide +kernel, rfl⟩
theorem dX3_part_11 : jm_d cX3_part 11 (.lload_n 2) 1 12 := ⟨by decide +kernel, rfl⟩
theorem dX3_part_12 : jm_d cX3_part 12 (.invokestatic 7) 3 15 := ⟨by decide +kernel, rfl⟩
theorem dX3_part_15 : jm_d cX3_part 15 (.lstore 5) 2 17 := ⟨by decide +kernel, rfl⟩
theorem dX3_part_17 : jm_d cX3_part 17 (.lload 5) 2 19 := ⟨by decide +kernel, rfl⟩
theorem dX3_part_19 : jm_d cX3_part 19 (.lconst 0) 1 20 := ⟨by decide +kernel, rfl⟩
theorem dX3_part_20 : jm_d cX3_part 20 (.lcmp) 1 21 := ⟨by decide +kernel, rfl⟩
theorem dX3_part_21 : jm_b cX3_part 21 (.ifCond .ne) 24 28 := ⟨7, by decide +kernel, rfl, by decide⟩
theorem dX3_part_24 : jm_d cX3_part 24 (.iload 4) 2 26 := ⟨by decide +kernel, rfl⟩
theorem dX3_part_26 : jm_d cX3_part 26 (.i2l) 1 27 := ⟨by decide +kernel, rfl⟩
theorem dX3_part_27 : jm_d cX3_part 27 (.lreturn) 1 28 := ⟨by decide +kernel, rfl⟩
theorem dX3_part_28 : jm_d cX3_part 28 (.iload 4) 2 30 := ⟨by decide +kernel, rfl⟩
theorem dX3_part_30 : jm_b cX3_part 30 (.ifCond .ne) 33 40 := ⟨10, by decide +kernel, rfl, by decide⟩
theorem dX3_part_33 : jm_d cX3_part 33 (.lload_n 0) 1 34 := ⟨by decide +kernel, rfl⟩
theorem dX3_part_34 : jm_d cX3_part 34 (.lload 5) 2 36 := ⟨by decide +kernel, rfl⟩
theorem dX3_part_36 : jm_d cX3_part 36 (.ldiv) 1 37 := ⟨by decide +kernel, rfl⟩
theorem dX3_part_37 : jm_b cX3_part 37 .goto 40 44 := ⟨7, by decide +kernel, rfl, by decide⟩
theorem dX3_part_44 : jm_d cX3_part 44 (.lreturn) 1 45 := ⟨by decide +kernel, rfl⟩
theorem dX3_part_40 : jm_d cX3_part 40 (.lload_n 2) 1 41 := ⟨by decide +kernel, rfl⟩
theorem dX3_part_41 : jm_d cX3_part 41 (.lload 5) 2 43 := ⟨by decide +kernel, rfl⟩
theorem dX3_part_43 : jm_d cX3_part 43 (.ldiv) 1 44 := ⟨by decide +kernel, rfl⟩
set_option maxHeartbeats 4000000 in
set_option maxRecDepth 100000 in
theorem kQ_part (E : jm_Ev) (hE : jm_dj E jm_LC) {p1 : Int64} {p2 : Int64} {p3 : Int32} {M : jm_M}  {r : Int64} (h : sQ_part p1 p2 p3 = some r) : jm_Ct E jm_LC yX3_part cX3_part 7 (some .long) 1 30 [.long p1, .long p2, .int p3] M (some (.long r)) M := by
  refine jm_enter (lv := [some (.long p1), none, some (.long p2), none, some (.int p3), none, none]) hE (by decide) (Nat.le_of_ble_eq_true rfl) rfl ?_
  intro z w F hz
  have G : jm_G w 0 [some (.long p1), none, some (.long p2), none, some (.int p3), none, none] [] M (sQ_part p1 p2 p3) (fun e => z (some (.long e)) M) := by
    unfold sQ_part
    refine jm_lload_n (i := 0) F dX3_part_0 rfl rfl ?_
    refine jm_lconst (v := 0) F dX3_part_1 (by decide) ?_
    refine jm_lcmp F dX3_part_2 ?_
    refine jm_if_ne F dX3_part_3 (fun c1 => ?_) (fun c1 => ?_)
    · refine jm_iload F dX3_part_6 rfl ?_
      refine jm_i2l F dX3_part_8 ?_
      exact jm_lret F dX3_part_9 (fun h => h)
    · refine jm_lload_n (i := 0) F dX3_part_10 rfl rfl ?_
      refine jm_lload_n (i := 2) F dX3_part_11 rfl rfl ?_
      refine jm_callS (As := [.long p1, .long p2]) (st := []) (rv := fun r => some (.long r)) (mm := fun _ => M) F dX3_part_12 qX3_7 rfl (fun r h => kQ_sharedDivisor E hE h) rfl (Nat.le_of_ble_eq_true rfl) ⟨Nat.le_of_ble_eq_true rfl, Nat.le_of_ble_eq_true rfl⟩ (fun r2 => ?_)
      refine jm_lstore (i := 5) (lv' := [some (.long p1), none, some (.long p2), none, some (.int p3), some (.long r2), none]) F dX3_part_15 (by decide) rfl rfl ?_
      refine jm_lload F dX3_part_17 rfl ?_
      refine jm_lconst (v := 0) F dX3_part_19 (by decide) ?_
      refine jm_lcmp F dX3_part_20 ?_
      refine jm_if_ne F dX3_part_21 (fun c3 => ?_) (fun c3 => ?_)
      · refine jm_iload F dX3_part_24 rfl ?_
        refine jm_i2l F dX3_part_26 ?_
        exact jm_lret F dX3_part_27 (fun h => h)
      · refine jm_iload F dX3_part_28 rfl ?_
        refine jm_if_ne F dX3_part_30 (fun c4 => ?_) (fun c4 => ?_)
        · refine jm_lload_n (i := 0) F dX3_part_33 rfl rfl ?_
          refine jm_lload F dX3_part_34 rfl ?_
          refine jm_ldiv F dX3_part_36 (fun v5 => ?_)
          refine jm_goto F dX3_part_37 ?_
          exact jm_lret F dX3_part_44 (fun h => h)
        · refine jm_lload_n (i := 2) F dX3_part_40 rfl rfl ?_
          refine jm_lload F dX3_part_41 rfl ?_
          refine jm_ldiv F dX3_part_43 (fun v6 => ?_)
          exact jm_lret F dX3_part_44 (fun h => h)
  exact G r h hz
theorem dX8_damp_0 : jm_d cX8_damp 0 (.aload_n 0) 1 1 := ⟨by decide +kernel, rfl⟩
theorem dX8_damp_1 : jm_d cX8_damp 1 (.iload_n 1) 1 2 := ⟨by decide +kernel, rfl⟩
theorem dX8_damp_2 : jm_d cX8_damp 2 (.iload_n 2) 1 3 := ⟨by decide +kernel, rfl⟩
theorem dX8_damp_3 : jm_d cX8_damp 3 (.invokevirtual 188) 3 6 := ⟨by decide +kernel, rfl⟩
theorem dX8_damp_6 : jm_b cX8_damp 6 (.ifCond .ne) 9 20 := ⟨14, by decide +kernel, rfl, by decide⟩
theorem dX8_damp_9 : jm_d cX8_damp 9 (.ldc2_w 265) 3 12 := ⟨by decide +kernel, rfl⟩
theorem dX8_damp_12 : jm_d cX8_damp 12 (.aload_n 0) 1 13 := ⟨by decide +kernel, rfl⟩
theorem dX8_damp_13 : jm_d cX8_damp 13 (.iconst (-1)) 1 14 := ⟨by decide +kernel, rfl⟩
theorem dX8_damp_14 : jm_d cX8_damp 14 (.invokevirtual 64) 3 17 := ⟨by decide +kernel, rfl⟩
theorem dX8_damp_17 : jm_d cX8_damp 17 (.i2l) 1 18 := ⟨by decide +kernel, rfl⟩
theorem dX8_damp_18 : jm_d cX8_damp 18 (.lsub) 1 19 := ⟨by decide +kernel, rfl⟩
theorem dX8_damp_19 : jm_d cX8_damp 19 (.lreturn) 1 20 := ⟨by decide +kernel, rfl⟩
theorem dX8_damp_20 : jm_d cX8_damp 20 (.iload_n 3) 1 21 := ⟨by decide +kernel, rfl⟩
theorem dX8_damp_21 : jm_b cX8_damp 21 (.ifCond .lt) 24 30 := ⟨9, by decide +kernel, rfl, by decide⟩
theorem dX8_damp_30 : jm_d cX8_damp 30 (.ldc2_w 265) 3 33 := ⟨by decide +kernel, rfl⟩
theorem dX8_damp_33 : jm_d cX8_damp 33 (.aload_n 0) 1 34 := ⟨by decide +kernel, rfl⟩
theorem dX8_damp_34 : jm_d cX8_damp 34 (.bipush (-4)) 2 36 := ⟨by decide +kernel, rfl⟩
theorem dX8_damp_36 : jm_d cX8_damp 36 (.invokevirtual 64) 3 39 := ⟨by decide +kernel, rfl⟩
theorem dX8_damp_39 : jm_d cX8_damp 39 (.i2l) 1 40 := ⟨by decide +kernel, rfl⟩
theorem dX8_damp_40 : jm_d cX8_damp 40 (.lsub) 1 41 := ⟨by decide +kernel, rfl⟩
theorem dX8_damp_41 : jm_d cX8_damp 41 (.lreturn) 1 42 := ⟨by decide +kernel, rfl⟩
theorem dX8_damp_24 : jm_d cX8_damp 24 (.iload 4) 2 26 := ⟨by decide +kernel, rfl⟩
theorem dX8_damp_26 : jm_d cX8_damp 26 (.iconst 2) 1 27 := ⟨by decide +kernel, rfl⟩
theorem dX8_damp_27 : jm_b cX8_damp 27 (.if_icmp .ge) 30 42 := ⟨15, by decide +kernel, rfl, by decide⟩
theorem dX8_damp_42 : jm_d cX8_damp 42 (.iload_n 3) 1 43 := ⟨by decide +kernel, rfl⟩
theorem dX8_damp_43 : jm_d cX8_damp 43 (.bipush 7) 2 45 := ⟨by decide +kernel, rfl⟩
theorem dX8_damp_45 : jm_b cX8_damp 45 (.if_icmp .gt) 48 55 := ⟨10, by decide +kernel, rfl, by decide⟩
theorem dX8_damp_55 : jm_d cX8_damp 55 (.ldc2_w 265) 3 58 := ⟨by decide +kernel, rfl⟩
theorem dX8_damp_58 : jm_d cX8_damp 58 (.aload_n 0) 1 59 := ⟨by decide +kernel, rfl⟩
theorem dX8_damp_59 : jm_d cX8_damp 59 (.bipush (-6)) 2 61 := ⟨by decide +kernel, rfl⟩
theorem dX8_damp_61 : jm_d cX8_damp 61 (.invokevirtual 64) 3 64 := ⟨by decide +kernel, rfl⟩
theorem dX8_damp_64 : jm_d cX8_damp 64 (.i2l) 1 65 := ⟨by decide +kernel, rfl⟩
theorem dX8_damp_65 : jm_d cX8_damp 65 (.lsub) 1 66 := ⟨by decide +kernel, rfl⟩
theorem dX8_damp_66 : jm_d cX8_damp 66 (.lreturn) 1 67 := ⟨by decide +kernel, rfl⟩
theorem dX8_damp_48 : jm_d cX8_damp 48 (.iload 4) 2 50 := ⟨by decide +kernel, rfl⟩
theorem dX8_damp_50 : jm_d cX8_damp 50 (.bipush 20) 2 52 := ⟨by decide +kernel, rfl⟩
theorem dX8_damp_52 : jm_b cX8_damp 52 (.if_icmp .le) 55 67 := ⟨15, by decide +kernel, rfl, by decide⟩
theorem dX8_damp_67 : jm_d cX8_damp 67 (.aload_n 0) 1 68 := ⟨by decide +kernel, rfl⟩
theorem dX8_damp_68 : jm_d cX8_damp 68 (.iload 5) 2 70 := ⟨by decide +kernel, rfl⟩
theorem dX8_damp_70 : jm_d cX8_damp 70 (.invokevirtual 199) 3 73 := ⟨by decide +kernel, rfl⟩
theorem dX8_damp_73 : jm_b cX8_damp 73 (.ifCond .eq) 76 88 := ⟨15, by decide +kernel, rfl, by decide⟩
theorem dX8_damp_88 : jm_d cX8_damp 88 (.aload_n 0) 1 89 := ⟨by decide +kernel, rfl⟩
theorem dX8_damp_89 : jm_d cX8_damp 89 (.getfield 36) 3 92 := ⟨by decide +kernel, rfl⟩
theorem dX8_damp_92 : jm_d cX8_damp 92 (.aload_n 0) 1 93 := ⟨by decide +kernel, rfl⟩
theorem dX8_damp_93 : jm_d cX8_damp 93 (.getfield 10) 3 96 := ⟨by decide +kernel, rfl⟩
theorem dX8_damp_96 : jm_d cX8_damp 96 (.iload_n 1) 1 97 := ⟨by decide +kernel, rfl⟩
theorem dX8_damp_97 : jm_d cX8_damp 97 (.iload_n 2) 1 98 := ⟨by decide +kernel, rfl⟩
theorem dX8_damp_98 : jm_d cX8_damp 98 (.iload_n 3) 1 99 := ⟨by decide +kernel, rfl⟩
theorem dX8_damp_99 : jm_d cX8_damp 99 (.iload 4) 2 101 := ⟨by decide +kernel, rfl⟩
theorem dX8_damp_101 : jm_d cX8_damp 101 (.invokevirtual 267) 3 104 := ⟨by decide +kernel, rfl⟩
theorem dX8_damp_104 : jm_d cX8_damp 104 (.iload 4) 2 106 := ⟨by decide +kernel, rfl⟩
theorem dX8_damp_106 : jm_d cX8_damp 106 (.i2l) 1 107 := ⟨by decide +kernel, rfl⟩
theorem dX8_damp_107 : jm_d cX8_damp 107 (.iload_n 3) 1 108 := ⟨by decide +kernel, rfl⟩
theorem dX8_damp_108 : jm_d cX8_damp 108 (.invokestatic 271) 3 111 := ⟨by decide +kernel, rfl⟩
theorem dX8_damp_111 : jm_d cX8_damp 111 (.iload 5) 2 113 := ⟨by decide +kernel, rfl⟩
theorem dX8_damp_113 : jm_d cX8_damp 113 (.invokestatic 277) 3 116 := ⟨by decide +kernel, rfl⟩
theorem dX8_damp_116 : jm_d cX8_damp 116 (.lreturn) 1 117 := ⟨by decide +kernel, rfl⟩
theorem dX8_damp_76 : jm_d cX8_damp 76 (.ldc2_w 265) 3 79 := ⟨by decide +kernel, rfl⟩
theorem dX8_damp_79 : jm_d cX8_damp 79 (.aload_n 0) 1 80 := ⟨by decide +kernel, rfl⟩
theorem dX8_damp_80 : jm_d cX8_damp 80 (.bipush (-2)) 2 82 := ⟨by decide +kernel, rfl⟩
theorem dX8_damp_82 : jm_d cX8_damp 82 (.invokevirtual 64) 3 85 := ⟨by decide +kernel, rfl⟩
theorem dX8_damp_85 : jm_d cX8_damp 85 (.i2l) 1 86 := ⟨by decide +kernel, rfl⟩
theorem dX8_damp_86 : jm_d cX8_damp 86 (.lsub) 1 87 := ⟨by decide +kernel, rfl⟩
theorem dX8_damp_87 : jm_d cX8_damp 87 (.lreturn) 1 88 := ⟨by decide +kernel, rfl⟩
set_option maxHeartbeats 4000000 in
set_option maxRecDepth 100000 in
theorem kW_damp (E : jm_Ev) (hE : jm_dj E jm_LC) {M : jm_M} {p1 : Int32} {p2 : Int32} {p3 : Int32} {p4 : Int32} {p5 : Int32}  {r : Int64 × jm_M} (h : sW_damp M p1 p2 p3 p4 p5 = some r) : jm_Ct E jm_LC yX8_damp cX8_damp 6 (some .long) 6 172 [.ref (jm_a E 0 0), .int p1, .int p2, .int p3, .int p4, .int p5] M (some (.long r.1)) r.2 := by
  refine jm_enter (lv := [some (.ref (jm_a E 0 0)), some (.int p1), some (.int p2), some (.int p3), some (.int p4), some (.int p5)]) hE (by decide) (Nat.le_of_ble_eq_true rfl) rfl ?_
  intro z w F hz
  have G : jm_G w 0 [some (.ref (jm_a E 0 0)), some (.int p1), some (.int p2), some (.int p3), some (.int p4), some (.int p5)] [] M (sW_damp M p1 p2 p3 p4 p5) (fun e => z (some (.long e.1)) e.2) := by
    unfold sW_damp
    refine jm_aload_n (i := 0) F dX8_damp_0 rfl rfl ?_
    refine jm_iload_n (i := 1) F dX8_damp_1 rfl rfl ?_
    refine jm_iload_n (i := 2) F dX8_damp_2 rfl rfl ?_
    refine jm_callV (As := [.int p1, .int p2]) (st := []) (rv := fun r => some (.int r)) (mm := fun _ => M) F dX8_damp_3 qX8_188 rfl lo_X8 rfl (fun r h => kW_areTwo E hE h) rfl (Nat.le_of_ble_eq_true rfl) ⟨Nat.le_of_ble_eq_true rfl, Nat.le_of_ble_eq_true rfl⟩ (fun r1 => ?_)
    refine jm_if_ne F dX8_damp_6 (fun c2 => ?_) (fun c2 => ?_)
    · refine jm_ldc2 F dX8_damp_9 tw_811 ?_
      refine jm_aload_n (i := 0) F dX8_damp_12 rfl rfl ?_
      refine jm_iconst F dX8_damp_13 kc_m1 ?_
      refine jm_callV (As := [.int (-1)]) (st := [.long 4000000000000000000]) (rv := fun r => some (.int r.1)) (mm := fun r => r.2) F dX8_damp_14 qX8_64 rfl lo_X8 rfl (fun r h => kW_refuse E hE h) rfl (Nat.le_of_ble_eq_true rfl) ⟨Nat.le_of_ble_eq_true rfl, Nat.le_of_ble_eq_true rfl⟩ (fun r3 => ?_)
      refine jm_i2l F dX8_damp_17 ?_
      refine jm_lsub F dX8_damp_18 ?_
      exact jm_lret F dX8_damp_19 (fun h => h)
    · refine jm_iload_n (i := 3) F dX8_damp_20 rfl rfl ?_
      refine jm_if_lt F dX8_damp_21 (fun c4 => ?_) (fun c4 => ?_)
      · refine jm_ldc2 F dX8_damp_30 tw_811 ?_
        refine jm_aload_n (i := 0) F dX8_damp_33 rfl rfl ?_
        refine jm_bipush F dX8_damp_34 kb_m4 ?_
        refine jm_callV (As := [.int (-4)]) (st := [.long 4000000000000000000]) (rv := fun r => some (.int r.1)) (mm := fun r => r.2) F dX8_damp_36 qX8_64 rfl lo_X8 rfl (fun r h => kW_refuse E hE h) rfl (Nat.le_of_ble_eq_true rfl) ⟨Nat.le_of_ble_eq_true rfl, Nat.le_of_ble_eq_true rfl⟩ (fun r5 => ?_)
        refine jm_i2l F dX8_damp_39 ?_
        refine jm_lsub F dX8_damp_40 ?_
        exact jm_lret F dX8_damp_41 (fun h => h)
      · refine jm_iload F dX8_damp_24 rfl ?_
        refine jm_iconst F dX8_damp_26 kc_2 ?_
        refine jm_icmp_ge F dX8_damp_27 (fun c6 => ?_) (fun c6 => ?_)
        · refine jm_iload_n (i := 3) F dX8_damp_42 rfl rfl ?_
          refine jm_bipush F dX8_damp_43 kb_7 ?_
          refine jm_icmp_gt F dX8_damp_45 (fun c7 => ?_) (fun c7 => ?_)
          · refine jm_ldc2 F dX8_damp_55 tw_811 ?_
            refine jm_aload_n (i := 0) F dX8_damp_58 rfl rfl ?_
            refine jm_bipush F dX8_damp_59 kb_m6 ?_
            refine jm_callV (As := [.int (-6)]) (st := [.long 4000000000000000000]) (rv := fun r => some (.int r.1)) (mm := fun r => r.2) F dX8_damp_61 qX8_64 rfl lo_X8 rfl (fun r h => kW_refuse E hE h) rfl (Nat.le_of_ble_eq_true rfl) ⟨Nat.le_of_ble_eq_true rfl, Nat.le_of_ble_eq_true rfl⟩ (fun r8 => ?_)
            refine jm_i2l F dX8_damp_64 ?_
            refine jm_lsub F dX8_damp_65 ?_
            exact jm_lret F dX8_damp_66 (fun h => h)
          · refine jm_iload F dX8_damp_48 rfl ?_
            refine jm_bipush F dX8_damp_50 kb_20 ?_
            refine jm_icmp_le F dX8_damp_52 (fun c9 => ?_) (fun c9 => ?_)
            · refine jm_aload_n (i := 0) F dX8_damp_67 rfl rfl ?_
              refine jm_iload F dX8_damp_68 rfl ?_
              refine jm_callV (As := [.int p5]) (st := []) (rv := fun r => some (.int r)) (mm := fun _ => M) F dX8_damp_70 qX8_199 rfl lo_X8 rfl (fun r h => kW_isNeither E hE h) rfl (Nat.le_of_ble_eq_true rfl) ⟨Nat.le_of_ble_eq_true rfl, Nat.le_of_ble_eq_true rfl⟩ (fun r10 => ?_)
              refine jm_if_eq F dX8_damp_73 (fun c11 => ?_) (fun c11 => ?_)
              · refine jm_aload_n (i := 0) F dX8_damp_88 rfl rfl ?_
                refine jm_getR F dX8_damp_89 fl_X8_36 lo_X8 rfl ?_
                refine jm_aload_n (i := 0) F dX8_damp_92 rfl rfl ?_
                refine jm_getR F dX8_damp_93 fl_X8_10 lo_X8 rfl ?_
                refine jm_iload_n (i := 1) F dX8_damp_96 rfl rfl ?_
                refine jm_iload_n (i := 2) F dX8_damp_97 rfl rfl ?_
                refine jm_iload_n (i := 3) F dX8_damp_98 rfl rfl ?_
                refine jm_iload F dX8_damp_99 rfl ?_
                refine jm_callV (As := [.ref (jm_a E 1 0), .int p1, .int p2, .int p3, .int p4]) (st := []) (rv := fun r => some (.long r.1)) (mm := fun r => r.2) F dX8_damp_101 qX8_267 rfl lo_X2 rfl (fun r h => kF_dampCases E hE isT_1 h) rfl (Nat.le_of_ble_eq_true rfl) ⟨Nat.le_of_ble_eq_true rfl, Nat.le_of_ble_eq_true rfl⟩ (fun r12 => ?_)
                refine jm_iload F dX8_damp_104 rfl ?_
                refine jm_i2l F dX8_damp_106 ?_
                refine jm_iload_n (i := 3) F dX8_damp_107 rfl rfl ?_
                refine jm_callS (As := [.long ((p4 : Int32).toInt64), .int p3]) (st := [.long r12.1]) (rv := fun r => some (.long r)) (mm := fun _ => r12.2) F dX8_damp_108 qX8_271 rfl (fun r h => kQ_power E hE h) rfl (Nat.le_of_ble_eq_true rfl) ⟨Nat.le_of_ble_eq_true rfl, Nat.le_of_ble_eq_true rfl⟩ (fun r13 => ?_)
                refine jm_iload F dX8_damp_111 rfl ?_
                refine jm_callS (As := [.long r12.1, .long r13, .int p5]) (st := []) (rv := fun r => some (.long r)) (mm := fun _ => r12.2) F dX8_damp_113 qX8_277 rfl (fun r h => kQ_part E hE h) rfl (Nat.le_of_ble_eq_true rfl) ⟨Nat.le_of_ble_eq_true rfl, Nat.le_of_ble_eq_true rfl⟩ (fun r14 => ?_)
                exact jm_lret F dX8_damp_116 (fun h => h)
              · refine jm_ldc2 F dX8_damp_76 tw_811 ?_
                refine jm_aload_n (i := 0) F dX8_damp_79 rfl rfl ?_
                refine jm_bipush F dX8_damp_80 kb_m2 ?_
                refine jm_callV (As := [.int (-2)]) (st := [.long 4000000000000000000]) (rv := fun r => some (.int r.1)) (mm := fun r => r.2) F dX8_damp_82 qX8_64 rfl lo_X8 rfl (fun r h => kW_refuse E hE h) rfl (Nat.le_of_ble_eq_true rfl) ⟨Nat.le_of_ble_eq_true rfl, Nat.le_of_ble_eq_true rfl⟩ (fun r15 => ?_)
                refine jm_i2l F dX8_damp_85 ?_
                refine jm_lsub F dX8_damp_86 ?_
                exact jm_lret F dX8_damp_87 (fun h => h)
            · refine jm_ldc2 F dX8_damp_55 tw_811 ?_
              refine jm_aload_n (i := 0) F dX8_damp_58 rfl rfl ?_
              refine jm_bipush F dX8_damp_59 kb_m6 ?_
              refine jm_callV (As := [.int (-6)]) (st := [.long 4000000000000000000]) (rv := fun r => some (.int r.1)) (mm := fun r => r.2) F dX8_damp_61 qX8_64 rfl lo_X8 rfl (fun r h => kW_refuse E hE h) rfl (Nat.le_of_ble_eq_true rfl) ⟨Nat.le_of_ble_eq_true rfl, Nat.le_of_ble_eq_true rfl⟩ (fun r16 => ?_)
              refine jm_i2l F dX8_damp_64 ?_
              refine jm_lsub F dX8_damp_65 ?_
              exact jm_lret F dX8_damp_66 (fun h => h)
        · refine jm_ldc2 F dX8_damp_30 tw_811 ?_
          refine jm_aload_n (i := 0) F dX8_damp_33 rfl rfl ?_
          refine jm_bipush F dX8_damp_34 kb_m4 ?_
          refine jm_callV (As := [.int (-4)]) (st := [.long 4000000000000000000]) (rv := fun r => some (.int r.1)) (mm := fun r => r.2) F dX8_damp_36 qX8_64 rfl lo_X8 rfl (fun r h => kW_refuse E hE h) rfl (Nat.le_of_ble_eq_true rfl) ⟨Nat.le_of_ble_eq_true rfl, Nat.le_of_ble_eq_true rfl⟩ (fun r17 => ?_)
          refine jm_i2l F dX8_damp_39 ?_
          refine jm_lsub F dX8_damp_40 ?_
          exact jm_lret F dX8_damp_41 (fun h => h)
  exact G r h hz
theorem dX2_keeperDrawn_0 : jm_d cX2_keeperDrawn 0 (.aload_n 0) 1 1 := ⟨by decide +kernel, rfl⟩
theorem dX2_keeperDrawn_1 : jm_d cX2_keeperDrawn 1 (.getfield 12) 3 4 := ⟨by decide +kernel, rfl⟩
theorem dX2_keeperDrawn_4 : jm_d cX2_keeperDrawn 4 (.getfield 52) 3 7 := ⟨by decide +kernel, rfl⟩
theorem dX2_keeperDrawn_7 : jm_b cX2_keeperDrawn 7 (.ifCond .le) 10 28 := ⟨21, by decide +kernel, rfl, by decide⟩
theorem dX2_keeperDrawn_28 : jm_d cX2_keeperDrawn 28 (.bipush 9) 2 30 := ⟨by decide +kernel, rfl⟩
theorem dX2_keeperDrawn_30 : jm_d cX2_keeperDrawn 30 (.ireturn) 1 31 := ⟨by decide +kernel, rfl⟩
theorem dX2_keeperDrawn_10 : jm_d cX2_keeperDrawn 10 (.iload_n 1) 1 11 := ⟨by decide +kernel, rfl⟩
theorem dX2_keeperDrawn_11 : jm_d cX2_keeperDrawn 11 (.ldc 117) 2 13 := ⟨by decide +kernel, rfl⟩
theorem dX2_keeperDrawn_13 : jm_d cX2_keeperDrawn 13 (.iand) 1 14 := ⟨by decide +kernel, rfl⟩
theorem dX2_keeperDrawn_14 : jm_d cX2_keeperDrawn 14 (.ldc 118) 2 16 := ⟨by decide +kernel, rfl⟩
theorem dX2_keeperDrawn_16 : jm_d cX2_keeperDrawn 16 (.idiv) 1 17 := ⟨by decide +kernel, rfl⟩
theorem dX2_keeperDrawn_17 : jm_d cX2_keeperDrawn 17 (.aload_n 0) 1 18 := ⟨by decide +kernel, rfl⟩
theorem dX2_keeperDrawn_18 : jm_d cX2_keeperDrawn 18 (.getfield 12) 3 21 := ⟨by decide +kernel, rfl⟩
theorem dX2_keeperDrawn_21 : jm_d cX2_keeperDrawn 21 (.getfield 52) 3 24 := ⟨by decide +kernel, rfl⟩
theorem dX2_keeperDrawn_24 : jm_d cX2_keeperDrawn 24 (.irem) 1 25 := ⟨by decide +kernel, rfl⟩
theorem dX2_keeperDrawn_25 : jm_b cX2_keeperDrawn 25 .goto 28 30 := ⟨5, by decide +kernel, rfl, by decide⟩
set_option maxHeartbeats 4000000 in
set_option maxRecDepth 100000 in
theorem kF_keeperDrawn (E : jm_Ev) (hE : jm_dj E jm_LC) {M : jm_M} {p1 : Int32}  {r : Int32} (h : sF_keeperDrawn M p1 = some r) : jm_Ct E jm_LC yX2_keeperDrawn cX2_keeperDrawn 2 (some .int) 0 0 [.ref (jm_a E 15 0), .int p1] M (some (.int r)) M := by
  refine jm_enter (lv := [some (.ref (jm_a E 15 0)), some (.int p1)]) hE (by decide) (Nat.le_of_ble_eq_true rfl) rfl ?_
  intro z w F hz
  have G : jm_G w 0 [some (.ref (jm_a E 15 0)), some (.int p1)] [] M (sF_keeperDrawn M p1) (fun e => z (some (.int e)) M) := by
    unfold sF_keeperDrawn
    refine jm_aload_n (i := 0) F dX2_keeperDrawn_0 rfl rfl ?_
    refine jm_getR F dX2_keeperDrawn_1 fl_X2_12 lo_X2 rfl ?_
    refine jm_getI F dX2_keeperDrawn_4 fl_X2_52 (lo_T isT_4) rfl ?_
    refine jm_if_le F dX2_keeperDrawn_7 (fun c1 => ?_) (fun c1 => ?_)
    · refine jm_bipush F dX2_keeperDrawn_28 kb_9 ?_
      exact jm_iret F dX2_keeperDrawn_30 (fun h => h)
    · refine jm_iload_n (i := 1) F dX2_keeperDrawn_10 rfl rfl ?_
      refine jm_ldc F dX2_keeperDrawn_11 tw_838 ?_
      refine jm_iand F dX2_keeperDrawn_13 ?_
      refine jm_ldc F dX2_keeperDrawn_14 tw_839 ?_
      refine jm_idiv F dX2_keeperDrawn_16 (fun v2 => ?_)
      refine jm_aload_n (i := 0) F dX2_keeperDrawn_17 rfl rfl ?_
      refine jm_getR F dX2_keeperDrawn_18 fl_X2_12 lo_X2 rfl ?_
      refine jm_getI F dX2_keeperDrawn_21 fl_X2_52 (lo_T isT_4) rfl ?_
      refine jm_irem F dX2_keeperDrawn_24 (fun v3 => ?_)
      refine jm_goto F dX2_keeperDrawn_25 ?_
      exact jm_iret F dX2_keeperDrawn_30 (fun h => h)
  exact G r h hz
theorem dX7_readings_0 : jm_d cX7_readings 0 (.iconst 0) 1 1 := ⟨by decide +kernel, rfl⟩
theorem dX7_readings_1 : jm_d cX7_readings 1 (.istore_n 1) 1 2 := ⟨by decide +kernel, rfl⟩
theorem dX7_readings_2 : jm_d cX7_readings 2 (.iconst 0) 1 3 := ⟨by decide +kernel, rfl⟩
theorem dX7_readings_3 : jm_d cX7_readings 3 (.istore_n 2) 1 4 := ⟨by decide +kernel, rfl⟩
theorem dX7_readings_4 : jm_d cX7_readings 4 (.iload_n 2) 1 5 := ⟨by decide +kernel, rfl⟩
theorem dX7_readings_5 : jm_d cX7_readings 5 (.aload_n 0) 1 6 := ⟨by decide +kernel, rfl⟩
theorem dX7_readings_6 : jm_d cX7_readings 6 (.getfield 55) 3 9 := ⟨by decide +kernel, rfl⟩
theorem dX7_readings_9 : jm_b cX7_readings 9 (.if_icmp .ge) 12 30 := ⟨21, by decide +kernel, rfl, by decide⟩
theorem dX7_readings_12 : jm_d cX7_readings 12 (.iload_n 1) 1 13 := ⟨by decide +kernel, rfl⟩
theorem dX7_readings_13 : jm_d cX7_readings 13 (.aload_n 0) 1 14 := ⟨by decide +kernel, rfl⟩
theorem dX7_readings_14 : jm_d cX7_readings 14 (.getfield 33) 3 17 := ⟨by decide +kernel, rfl⟩
theorem dX7_readings_17 : jm_d cX7_readings 17 (.iload_n 2) 1 18 := ⟨by decide +kernel, rfl⟩
theorem dX7_readings_18 : jm_d cX7_readings 18 (.iaload) 1 19 := ⟨by decide +kernel, rfl⟩
theorem dX7_readings_19 : jm_d cX7_readings 19 (.invokestatic 68) 3 22 := ⟨by decide +kernel, rfl⟩
theorem dX7_readings_22 : jm_d cX7_readings 22 (.iadd) 1 23 := ⟨by decide +kernel, rfl⟩
theorem dX7_readings_23 : jm_d cX7_readings 23 (.istore_n 1) 1 24 := ⟨by decide +kernel, rfl⟩
theorem dX7_readings_24 : jm_d cX7_readings 24 (.iinc 2 1) 3 27 := ⟨by decide +kernel, rfl⟩
theorem dX7_readings_27 : jm_b cX7_readings 27 .goto 30 4 := ⟨(-23), by decide +kernel, rfl, by decide⟩
theorem dX7_readings_30 : jm_d cX7_readings 30 (.iload_n 1) 1 31 := ⟨by decide +kernel, rfl⟩
theorem dX7_readings_31 : jm_d cX7_readings 31 (.ireturn) 1 32 := ⟨by decide +kernel, rfl⟩
set_option maxHeartbeats 4000000 in
set_option maxRecDepth 100000 in
theorem kT_readings (E : jm_Ev) (hE : jm_dj E jm_LC) {M : jm_M} {t : Nat} (ht : jm_isT t) {r : Int32} (h : sT_readings M t = some r) : jm_Ct E jm_LC yX7_readings cX7_readings 3 (some .int) 1 20 [.ref (jm_a E t 0)] M (some (.int r)) M := by
  refine jm_enter (lv := [some (.ref (jm_a E t 0)), none, none]) hE (by decide) (Nat.le_of_ble_eq_true rfl) rfl ?_
  intro z w F hz
  have G : jm_G w 0 [some (.ref (jm_a E t 0)), none, none] [] M (sT_readings M t) (fun e => z (some (.int e)) M) := by
    unfold sT_readings
    refine jm_iconst F dX7_readings_0 kc_0 ?_
    refine jm_istore_n (i := 1) (lv' := [some (.ref (jm_a E t 0)), some (.int 0), none]) F dX7_readings_1 rfl (by decide) rfl rfl ?_
    refine jm_iconst F dX7_readings_2 kc_0 ?_
    refine jm_istore_n (i := 2) (lv' := [some (.ref (jm_a E t 0)), some (.int 0), some (.int 0)]) F dX7_readings_3 rfl (by decide) rfl rfl ?_
    refine jm_bind (pcJ := 30) (lvJ := fun e6 => [none, some (.int e6), none]) (stJ := fun _ => []) (MJ := fun e6 => M) ?_ (fun e6 => ?_)
    · refine jm_weak F (lv' := [some (.ref (jm_a E t 0)), some (.int 0), some (.int 0)]) ⟨rfl, rfl, rfl, trivial⟩ ?_
      refine jm_loopR (lvH := fun s1 => [some (.ref (jm_a E t 0)), some (.int s1.1), some (.int s1.2)]) (MH := fun s1 => M) (fun s1 => ?_) jm_N (0, 0)
      unfold sT_readings_L4
      refine jm_iload_n (i := 2) F dX7_readings_4 rfl rfl ?_
      refine jm_aload_n (i := 0) F dX7_readings_5 rfl rfl ?_
      refine jm_getI F dX7_readings_6 fl_X7_55 (lo_T ht) rfl ?_
      refine jm_icmp_ge F dX7_readings_9 (fun c2 => ?_) (fun c2 => ?_)
      · exact jm_weakD F (lv' := [none, some (.int s1.1), none]) ⟨rfl, trivial⟩ (fun h => h)
      · refine jm_iload_n (i := 1) F dX7_readings_12 rfl rfl ?_
        refine jm_aload_n (i := 0) F dX7_readings_13 rfl rfl ?_
        refine jm_getR F dX7_readings_14 fl_X7_33 (lo_T ht) rfl ?_
        refine jm_iload_n (i := 2) F dX7_readings_17 rfl rfl ?_
        refine jm_iald F dX7_readings_18 (la_T_10 ht) (fun v3 => ?_)
        refine jm_callS (As := [.int v3]) (st := [.int s1.1]) (rv := fun r => some (.int r)) (mm := fun _ => M) F dX7_readings_19 qX7_68 rfl (fun r h => kJ_bitCount E hE h) rfl (Nat.le_of_ble_eq_true rfl) ⟨Nat.le_of_ble_eq_true rfl, Nat.le_of_ble_eq_true rfl⟩ (fun r4 => ?_)
        refine jm_iadd F dX7_readings_22 ?_
        refine jm_nameI (f := fun x5 => [.int x5]) (fun x5 => ?_) rfl
        refine jm_istore_n (i := 1) (lv' := [some (.ref (jm_a E t 0)), some (.int x5), some (.int s1.2)]) F dX7_readings_23 rfl (by decide) rfl rfl ?_
        refine jm_iinc (i := 2) (lv' := [some (.ref (jm_a E t 0)), some (.int x5), some (.int (s1.2 + 1))]) F dX7_readings_24 kc_1 rfl (by decide) rfl rfl ?_
        refine jm_goto F dX7_readings_27 ?_
        exact jm_weakD F (lv' := [some (.ref (jm_a E t 0)), some (.int x5), some (.int (s1.2 + 1))]) ⟨rfl, rfl, rfl, trivial⟩ (fun h => h)
    · refine jm_iload_n (i := 1) F dX7_readings_30 rfl rfl ?_
      exact jm_iret F dX7_readings_31 (fun h => h)
  exact G r h hz
theorem dX7_twosDown_0 : jm_d cX7_twosDown 0 (.iconst 0) 1 1 := ⟨by decide +kernel, rfl⟩
theorem dX7_twosDown_1 : jm_d cX7_twosDown 1 (.istore_n 1) 1 2 := ⟨by decide +kernel, rfl⟩
theorem dX7_twosDown_2 : jm_d cX7_twosDown 2 (.iconst 0) 1 3 := ⟨by decide +kernel, rfl⟩
theorem dX7_twosDown_3 : jm_d cX7_twosDown 3 (.istore_n 2) 1 4 := ⟨by decide +kernel, rfl⟩
theorem dX7_twosDown_4 : jm_d cX7_twosDown 4 (.iload_n 2) 1 5 := ⟨by decide +kernel, rfl⟩
theorem dX7_twosDown_5 : jm_d cX7_twosDown 5 (.aload_n 0) 1 6 := ⟨by decide +kernel, rfl⟩
theorem dX7_twosDown_6 : jm_d cX7_twosDown 6 (.getfield 45) 3 9 := ⟨by decide +kernel, rfl⟩
theorem dX7_twosDown_9 : jm_b cX7_twosDown 9 (.if_icmp .ge) 12 48 := ⟨39, by decide +kernel, rfl, by decide⟩
theorem dX7_twosDown_12 : jm_d cX7_twosDown 12 (.iload_n 2) 1 13 := ⟨by decide +kernel, rfl⟩
theorem dX7_twosDown_13 : jm_d cX7_twosDown 13 (.iconst 1) 1 14 := ⟨by decide +kernel, rfl⟩
theorem dX7_twosDown_14 : jm_d cX7_twosDown 14 (.iadd) 1 15 := ⟨by decide +kernel, rfl⟩
theorem dX7_twosDown_15 : jm_d cX7_twosDown 15 (.istore_n 3) 1 16 := ⟨by decide +kernel, rfl⟩
theorem dX7_twosDown_16 : jm_d cX7_twosDown 16 (.iload_n 3) 1 17 := ⟨by decide +kernel, rfl⟩
theorem dX7_twosDown_17 : jm_d cX7_twosDown 17 (.aload_n 0) 1 18 := ⟨by decide +kernel, rfl⟩
theorem dX7_twosDown_18 : jm_d cX7_twosDown 18 (.getfield 45) 3 21 := ⟨by decide +kernel, rfl⟩
theorem dX7_twosDown_21 : jm_b cX7_twosDown 21 (.if_icmp .ge) 24 42 := ⟨21, by decide +kernel, rfl, by decide⟩
theorem dX7_twosDown_24 : jm_d cX7_twosDown 24 (.aload_n 0) 1 25 := ⟨by decide +kernel, rfl⟩
theorem dX7_twosDown_25 : jm_d cX7_twosDown 25 (.iload_n 2) 1 26 := ⟨by decide +kernel, rfl⟩
theorem dX7_twosDown_26 : jm_d cX7_twosDown 26 (.iload_n 3) 1 27 := ⟨by decide +kernel, rfl⟩
theorem dX7_twosDown_27 : jm_d cX7_twosDown 27 (.invokevirtual 108) 3 30 := ⟨by decide +kernel, rfl⟩
theorem dX7_twosDown_30 : jm_b cX7_twosDown 30 (.ifCond .eq) 33 36 := ⟨6, by decide +kernel, rfl, by decide⟩
theorem dX7_twosDown_36 : jm_d cX7_twosDown 36 (.iinc 3 1) 3 39 := ⟨by decide +kernel, rfl⟩
theorem dX7_twosDown_39 : jm_b cX7_twosDown 39 .goto 42 16 := ⟨(-23), by decide +kernel, rfl, by decide⟩
theorem dX7_twosDown_33 : jm_d cX7_twosDown 33 (.iinc 1 1) 3 36 := ⟨by decide +kernel, rfl⟩
theorem dX7_twosDown_42 : jm_d cX7_twosDown 42 (.iinc 2 1) 3 45 := ⟨by decide +kernel, rfl⟩
theorem dX7_twosDown_45 : jm_b cX7_twosDown 45 .goto 48 4 := ⟨(-41), by decide +kernel, rfl, by decide⟩
theorem dX7_twosDown_48 : jm_d cX7_twosDown 48 (.iload_n 1) 1 49 := ⟨by decide +kernel, rfl⟩
theorem dX7_twosDown_49 : jm_d cX7_twosDown 49 (.ireturn) 1 50 := ⟨by decide +kernel, rfl⟩
set_option maxHeartbeats 4000000 in
set_option maxRecDepth 100000 in
theorem kT_twosDown (E : jm_Ev) (hE : jm_dj E jm_LC) {M : jm_M} {t : Nat} (ht : jm_isT t) {r : Int32} (h : sT_twosDown M t = some r) : jm_Ct E jm_LC yX7_twosDown cX7_twosDown 4 (some .int) 5 139 [.ref (jm_a E t 0)] M (some (.int r)) M := by
  refine jm_enter (lv := [some (.ref (jm_a E t 0)), none, none, none]) hE (by decide) (Nat.le_of_ble_eq_true rfl) rfl ?_
  intro z w F hz
  have G : jm_G w 0 [some (.ref (jm_a E t 0)), none, none, none] [] M (sT_twosDown M t) (fun e => z (some (.int e)) M) := by
    unfold sT_twosDown
    refine jm_iconst F dX7_twosDown_0 kc_0 ?_
    refine jm_istore_n (i := 1) (lv' := [some (.ref (jm_a E t 0)), some (.int 0), none, none]) F dX7_twosDown_1 rfl (by decide) rfl rfl ?_
    refine jm_iconst F dX7_twosDown_2 kc_0 ?_
    refine jm_istore_n (i := 2) (lv' := [some (.ref (jm_a E t 0)), some (.int 0), some (.int 0), none]) F dX7_twosDown_3 rfl (by decide) rfl rfl ?_
    refine jm_bind (pcJ := 48) (lvJ := fun e9 => [none, some (.int e9), none, none]) (stJ := fun _ => []) (MJ := fun e9 => M) ?_ (fun e9 => ?_)
    · refine jm_weak F (lv' := [some (.ref (jm_a E t 0)), some (.int 0), some (.int 0), none]) ⟨rfl, rfl, rfl, trivial⟩ ?_
      refine jm_loopR (lvH := fun s1 => [some (.ref (jm_a E t 0)), some (.int s1.1), some (.int s1.2), none]) (MH := fun s1 => M) (fun s1 => ?_) jm_N (0, 0)
      unfold sT_twosDown_L4
      refine jm_iload_n (i := 2) F dX7_twosDown_4 rfl rfl ?_
      refine jm_aload_n (i := 0) F dX7_twosDown_5 rfl rfl ?_
      refine jm_getI F dX7_twosDown_6 fl_X7_45 (lo_T ht) rfl ?_
      refine jm_icmp_ge F dX7_twosDown_9 (fun c2 => ?_) (fun c2 => ?_)
      · exact jm_weakD F (lv' := [none, some (.int s1.1), none, none]) ⟨rfl, trivial⟩ (fun h => h)
      · refine jm_iload_n (i := 2) F dX7_twosDown_12 rfl rfl ?_
        refine jm_iconst F dX7_twosDown_13 kc_1 ?_
        refine jm_iadd F dX7_twosDown_14 ?_
        refine jm_nameI (f := fun x3 => [.int x3]) (fun x3 => ?_) rfl
        refine jm_istore_n (i := 3) (lv' := [some (.ref (jm_a E t 0)), some (.int s1.1), some (.int s1.2), some (.int x3)]) F dX7_twosDown_15 rfl (by decide) rfl rfl ?_
        refine jm_bind (pcJ := 42) (lvJ := fun e8 => [some (.ref (jm_a E t 0)), some (.int e8), some (.int s1.2), none]) (stJ := fun _ => []) (MJ := fun e8 => M) ?_ (fun e8 => ?_)
        · refine jm_weak F (lv' := [some (.ref (jm_a E t 0)), some (.int s1.1), some (.int s1.2), some (.int x3)]) ⟨rfl, rfl, rfl, rfl, trivial⟩ ?_
          refine jm_loopR (lvH := fun s4 => [some (.ref (jm_a E t 0)), some (.int s4.1), some (.int s1.2), some (.int s4.2)]) (MH := fun s4 => M) (fun s4 => ?_) jm_N (s1.1, x3)
          unfold sT_twosDown_L16
          refine jm_iload_n (i := 3) F dX7_twosDown_16 rfl rfl ?_
          refine jm_aload_n (i := 0) F dX7_twosDown_17 rfl rfl ?_
          refine jm_getI F dX7_twosDown_18 fl_X7_45 (lo_T ht) rfl ?_
          refine jm_icmp_ge F dX7_twosDown_21 (fun c5 => ?_) (fun c5 => ?_)
          · exact jm_weakD F (lv' := [some (.ref (jm_a E t 0)), some (.int s4.1), some (.int s1.2), none]) ⟨rfl, rfl, rfl, trivial⟩ (fun h => h)
          · refine jm_aload_n (i := 0) F dX7_twosDown_24 rfl rfl ?_
            refine jm_iload_n (i := 2) F dX7_twosDown_25 rfl rfl ?_
            refine jm_iload_n (i := 3) F dX7_twosDown_26 rfl rfl ?_
            refine jm_callV (As := [.int s1.2, .int s4.2]) (st := []) (rv := fun r => some (.int r)) (mm := fun _ => M) F dX7_twosDown_27 qX7_108 rfl (lo_T ht) rfl (fun r h => kT_comesDown E hE ht h) rfl (Nat.le_of_ble_eq_true rfl) ⟨Nat.le_of_ble_eq_true rfl, Nat.le_of_ble_eq_true rfl⟩ (fun r6 => ?_)
            refine jm_if_eq F dX7_twosDown_30 (fun c7 => ?_) (fun c7 => ?_)
            · refine jm_iinc (i := 3) (lv' := [some (.ref (jm_a E t 0)), some (.int s4.1), some (.int s1.2), some (.int (s4.2 + 1))]) F dX7_twosDown_36 kc_1 rfl (by decide) rfl rfl ?_
              refine jm_goto F dX7_twosDown_39 ?_
              exact jm_weakD F (lv' := [some (.ref (jm_a E t 0)), some (.int s4.1), some (.int s1.2), some (.int (s4.2 + 1))]) ⟨rfl, rfl, rfl, rfl, trivial⟩ (fun h => h)
            · refine jm_iinc (i := 1) (lv' := [some (.ref (jm_a E t 0)), some (.int (s4.1 + 1)), some (.int s1.2), some (.int s4.2)]) F dX7_twosDown_33 kc_1 rfl (by decide) rfl rfl ?_
              refine jm_iinc (i := 3) (lv' := [some (.ref (jm_a E t 0)), some (.int (s4.1 + 1)), some (.int s1.2), some (.int (s4.2 + 1))]) F dX7_twosDown_36 kc_1 rfl (by decide) rfl rfl ?_
              refine jm_goto F dX7_twosDown_39 ?_
              exact jm_weakD F (lv' := [some (.ref (jm_a E t 0)), some (.int (s4.1 + 1)), some (.int s1.2), some (.int (s4.2 + 1))]) ⟨rfl, rfl, rfl, rfl, trivial⟩ (fun h => h)
        · refine jm_iinc (i := 2) (lv' := [some (.ref (jm_a E t 0)), some (.int e8), some (.int (s1.2 + 1)), none]) F dX7_twosDown_42 kc_1 rfl (by decide) rfl rfl ?_
          refine jm_goto F dX7_twosDown_45 ?_
          exact jm_weakD F (lv' := [some (.ref (jm_a E t 0)), some (.int e8), some (.int (s1.2 + 1)), none]) ⟨rfl, rfl, rfl, trivial⟩ (fun h => h)
    · refine jm_iload_n (i := 1) F dX7_twosDown_48 rfl rfl ?_
      exact jm_iret F dX7_twosDown_49 (fun h => h)
  exact G r h hz
theorem dX2_drawSprings_0 : jm_d cX2_drawSprings 0 (.iload_n 3) 1 1 := ⟨by decide +kernel, rfl⟩
theorem dX2_drawSprings_1 : jm_d cX2_drawSprings 1 (.istore 4) 2 3 := ⟨by decide +kernel, rfl⟩
theorem dX2_drawSprings_3 : jm_d cX2_drawSprings 3 (.aload_n 0) 1 4 := ⟨by decide +kernel, rfl⟩
theorem dX2_drawSprings_4 : jm_d cX2_drawSprings 4 (.iconst 0) 1 5 := ⟨by decide +kernel, rfl⟩
theorem dX2_drawSprings_5 : jm_d cX2_drawSprings 5 (.putfield 100) 3 8 := ⟨by decide +kernel, rfl⟩
theorem dX2_drawSprings_8 : jm_d cX2_drawSprings 8 (.aload_n 0) 1 9 := ⟨by decide +kernel, rfl⟩
theorem dX2_drawSprings_9 : jm_d cX2_drawSprings 9 (.iconst 0) 1 10 := ⟨by decide +kernel, rfl⟩
theorem dX2_drawSprings_10 : jm_d cX2_drawSprings 10 (.putfield 103) 3 13 := ⟨by decide +kernel, rfl⟩
theorem dX2_drawSprings_13 : jm_d cX2_drawSprings 13 (.iconst 0) 1 14 := ⟨by decide +kernel, rfl⟩
theorem dX2_drawSprings_14 : jm_d cX2_drawSprings 14 (.istore 5) 2 16 := ⟨by decide +kernel, rfl⟩
theorem dX2_drawSprings_16 : jm_d cX2_drawSprings 16 (.iload 5) 2 18 := ⟨by decide +kernel, rfl⟩
theorem dX2_drawSprings_18 : jm_d cX2_drawSprings 18 (.iload_n 2) 1 19 := ⟨by decide +kernel, rfl⟩
theorem dX2_drawSprings_19 : jm_b cX2_drawSprings 19 (.if_icmp .ge) 22 127 := ⟨108, by decide +kernel, rfl, by decide⟩
theorem dX2_drawSprings_22 : jm_d cX2_drawSprings 22 (.aload_n 0) 1 23 := ⟨by decide +kernel, rfl⟩
theorem dX2_drawSprings_23 : jm_d cX2_drawSprings 23 (.aload_n 1) 1 24 := ⟨by decide +kernel, rfl⟩
theorem dX2_drawSprings_24 : jm_d cX2_drawSprings 24 (.invokevirtual 29) 3 27 := ⟨by decide +kernel, rfl⟩
theorem dX2_drawSprings_27 : jm_d cX2_drawSprings 27 (.iconst 0) 1 28 := ⟨by decide +kernel, rfl⟩
theorem dX2_drawSprings_28 : jm_d cX2_drawSprings 28 (.istore 6) 2 30 := ⟨by decide +kernel, rfl⟩
theorem dX2_drawSprings_30 : jm_d cX2_drawSprings 30 (.iload 6) 2 32 := ⟨by decide +kernel, rfl⟩
theorem dX2_drawSprings_32 : jm_d cX2_drawSprings 32 (.aload_n 0) 1 33 := ⟨by decide +kernel, rfl⟩
theorem dX2_drawSprings_33 : jm_d cX2_drawSprings 33 (.getfield 12) 3 36 := ⟨by decide +kernel, rfl⟩
theorem dX2_drawSprings_36 : jm_d cX2_drawSprings 36 (.getfield 62) 3 39 := ⟨by decide +kernel, rfl⟩
theorem dX2_drawSprings_39 : jm_b cX2_drawSprings 39 (.if_icmp .ge) 42 75 := ⟨36, by decide +kernel, rfl, by decide⟩
theorem dX2_drawSprings_42 : jm_d cX2_drawSprings 42 (.iload 4) 2 44 := ⟨by decide +kernel, rfl⟩
theorem dX2_drawSprings_44 : jm_d cX2_drawSprings 44 (.ldc 106) 2 46 := ⟨by decide +kernel, rfl⟩
theorem dX2_drawSprings_46 : jm_d cX2_drawSprings 46 (.imul) 1 47 := ⟨by decide +kernel, rfl⟩
theorem dX2_drawSprings_47 : jm_d cX2_drawSprings 47 (.sipush 12345) 3 50 := ⟨by decide +kernel, rfl⟩
theorem dX2_drawSprings_50 : jm_d cX2_drawSprings 50 (.iadd) 1 51 := ⟨by decide +kernel, rfl⟩
theorem dX2_drawSprings_51 : jm_d cX2_drawSprings 51 (.istore 4) 2 53 := ⟨by decide +kernel, rfl⟩
theorem dX2_drawSprings_53 : jm_d cX2_drawSprings 53 (.aload_n 0) 1 54 := ⟨by decide +kernel, rfl⟩
theorem dX2_drawSprings_54 : jm_d cX2_drawSprings 54 (.getfield 12) 3 57 := ⟨by decide +kernel, rfl⟩
theorem dX2_drawSprings_57 : jm_d cX2_drawSprings 57 (.getfield 69) 3 60 := ⟨by decide +kernel, rfl⟩
theorem dX2_drawSprings_60 : jm_d cX2_drawSprings 60 (.iload 6) 2 62 := ⟨by decide +kernel, rfl⟩
theorem dX2_drawSprings_62 : jm_d cX2_drawSprings 62 (.aload_n 0) 1 63 := ⟨by decide +kernel, rfl⟩
theorem dX2_drawSprings_63 : jm_d cX2_drawSprings 63 (.iload 4) 2 65 := ⟨by decide +kernel, rfl⟩
theorem dX2_drawSprings_65 : jm_d cX2_drawSprings 65 (.invokevirtual 107) 3 68 := ⟨by decide +kernel, rfl⟩
theorem dX2_drawSprings_68 : jm_d cX2_drawSprings 68 (.iastore) 1 69 := ⟨by decide +kernel, rfl⟩
theorem dX2_drawSprings_69 : jm_d cX2_drawSprings 69 (.iinc 6 1) 3 72 := ⟨by decide +kernel, rfl⟩
theorem dX2_drawSprings_72 : jm_b cX2_drawSprings 72 .goto 75 30 := ⟨(-42), by decide +kernel, rfl, by decide⟩
theorem dX2_drawSprings_75 : jm_d cX2_drawSprings 75 (.aload_n 0) 1 76 := ⟨by decide +kernel, rfl⟩
theorem dX2_drawSprings_76 : jm_d cX2_drawSprings 76 (.getfield 12) 3 79 := ⟨by decide +kernel, rfl⟩
theorem dX2_drawSprings_79 : jm_d cX2_drawSprings 79 (.bipush 8) 2 81 := ⟨by decide +kernel, rfl⟩
theorem dX2_drawSprings_81 : jm_d cX2_drawSprings 81 (.invokevirtual 32) 3 84 := ⟨by decide +kernel, rfl⟩
theorem dX2_drawSprings_84 : jm_d cX2_drawSprings 84 (.aload_n 0) 1 85 := ⟨by decide +kernel, rfl⟩
theorem dX2_drawSprings_85 : jm_d cX2_drawSprings 85 (.dup) 1 86 := ⟨by decide +kernel, rfl⟩
theorem dX2_drawSprings_86 : jm_d cX2_drawSprings 86 (.getfield 100) 3 89 := ⟨by decide +kernel, rfl⟩
theorem dX2_drawSprings_89 : jm_d cX2_drawSprings 89 (.aload_n 0) 1 90 := ⟨by decide +kernel, rfl⟩
theorem dX2_drawSprings_90 : jm_d cX2_drawSprings 90 (.getfield 12) 3 93 := ⟨by decide +kernel, rfl⟩
theorem dX2_drawSprings_93 : jm_d cX2_drawSprings 93 (.invokevirtual 110) 3 96 := ⟨by decide +kernel, rfl⟩
theorem dX2_drawSprings_96 : jm_d cX2_drawSprings 96 (.aload_n 1) 1 97 := ⟨by decide +kernel, rfl⟩
theorem dX2_drawSprings_97 : jm_d cX2_drawSprings 97 (.invokevirtual 110) 3 100 := ⟨by decide +kernel, rfl⟩
theorem dX2_drawSprings_100 : jm_d cX2_drawSprings 100 (.isub) 1 101 := ⟨by decide +kernel, rfl⟩
theorem dX2_drawSprings_101 : jm_d cX2_drawSprings 101 (.iadd) 1 102 := ⟨by decide +kernel, rfl⟩
theorem dX2_drawSprings_102 : jm_d cX2_drawSprings 102 (.putfield 100) 3 105 := ⟨by decide +kernel, rfl⟩
theorem dX2_drawSprings_105 : jm_d cX2_drawSprings 105 (.aload_n 0) 1 106 := ⟨by decide +kernel, rfl⟩
theorem dX2_drawSprings_106 : jm_d cX2_drawSprings 106 (.dup) 1 107 := ⟨by decide +kernel, rfl⟩
theorem dX2_drawSprings_107 : jm_d cX2_drawSprings 107 (.getfield 103) 3 110 := ⟨by decide +kernel, rfl⟩
theorem dX2_drawSprings_110 : jm_d cX2_drawSprings 110 (.aload_n 0) 1 111 := ⟨by decide +kernel, rfl⟩
theorem dX2_drawSprings_111 : jm_d cX2_drawSprings 111 (.getfield 12) 3 114 := ⟨by decide +kernel, rfl⟩
theorem dX2_drawSprings_114 : jm_d cX2_drawSprings 114 (.invokevirtual 114) 3 117 := ⟨by decide +kernel, rfl⟩
theorem dX2_drawSprings_117 : jm_d cX2_drawSprings 117 (.iadd) 1 118 := ⟨by decide +kernel, rfl⟩
theorem dX2_drawSprings_118 : jm_d cX2_drawSprings 118 (.putfield 103) 3 121 := ⟨by decide +kernel, rfl⟩
theorem dX2_drawSprings_121 : jm_d cX2_drawSprings 121 (.iinc 5 1) 3 124 := ⟨by decide +kernel, rfl⟩
theorem dX2_drawSprings_124 : jm_b cX2_drawSprings 124 .goto 127 16 := ⟨(-108), by decide +kernel, rfl, by decide⟩
theorem dX2_drawSprings_127 : jm_d cX2_drawSprings 127 (.return_) 1 128 := ⟨by decide +kernel, rfl⟩
set_option maxHeartbeats 4000000 in
set_option maxRecDepth 100000 in
theorem kF_drawSprings (E : jm_Ev) (hE : jm_dj E jm_LC) {M : jm_M} {p1 : Nat} {p2 : Int32} {p3 : Int32} (hp1 : jm_isT p1) {r : jm_M} (h : sF_drawSprings M p1 p2 p3 = some r) : jm_Ct E jm_LC yX2_drawSprings cX2_drawSprings 7 none 6 162 [.ref (jm_a E 15 0), .ref (jm_a E p1 0), .int p2, .int p3] M none r := by
  refine jm_enter (lv := [some (.ref (jm_a E 15 0)), some (.ref (jm_a E p1 0)), some (.int p2), some (.int p3), none, none, none]) hE (by decide) (Nat.le_of_ble_eq_true rfl) rfl ?_
  intro z w F hz
  have G : jm_G w 0 [some (.ref (jm_a E 15 0)), some (.ref (jm_a E p1 0)), some (.int p2), some (.int p3), none, none, none] [] M (sF_drawSprings M p1 p2 p3) (fun e => z none e) := by
    unfold sF_drawSprings
    refine jm_iload_n (i := 3) F dX2_drawSprings_0 rfl rfl ?_
    refine jm_istore (i := 4) (lv' := [some (.ref (jm_a E 15 0)), some (.ref (jm_a E p1 0)), some (.int p2), some (.int p3), some (.int p3), none, none]) F dX2_drawSprings_1 (by decide) rfl rfl ?_
    refine jm_aload_n (i := 0) F dX2_drawSprings_3 rfl rfl ?_
    refine jm_iconst F dX2_drawSprings_4 kc_0 ?_
    refine jm_putI F dX2_drawSprings_5 fp_X2_100 lo_X2 rfl (fun M1 => ?_)
    refine jm_aload_n (i := 0) F dX2_drawSprings_8 rfl rfl ?_
    refine jm_iconst F dX2_drawSprings_9 kc_0 ?_
    refine jm_putI F dX2_drawSprings_10 fp_X2_103 lo_X2 rfl (fun M2 => ?_)
    refine jm_iconst F dX2_drawSprings_13 kc_0 ?_
    refine jm_istore (i := 5) (lv' := [some (.ref (jm_a E 15 0)), some (.ref (jm_a E p1 0)), some (.int p2), some (.int p3), some (.int p3), some (.int 0), none]) F dX2_drawSprings_14 (by decide) rfl rfl ?_
    refine jm_bind (pcJ := 127) (lvJ := fun e18 => [none, none, none, none, none, none, none]) (stJ := fun _ => []) (MJ := fun e18 => e18) ?_ (fun e18 => ?_)
    · refine jm_weak F (lv' := [some (.ref (jm_a E 15 0)), some (.ref (jm_a E p1 0)), some (.int p2), none, some (.int p3), some (.int 0), none]) ⟨rfl, rfl, rfl, rfl, rfl, trivial⟩ ?_
      refine jm_loopR (lvH := fun s3 => [some (.ref (jm_a E 15 0)), some (.ref (jm_a E p1 0)), some (.int p2), none, some (.int s3.1), some (.int s3.2.1), none]) (MH := fun s3 => s3.2.2) (fun s3 => ?_) jm_N (p3, 0, M2)
      unfold sF_drawSprings_L16
      refine jm_iload F dX2_drawSprings_16 rfl ?_
      refine jm_iload_n (i := 2) F dX2_drawSprings_18 rfl rfl ?_
      refine jm_icmp_ge F dX2_drawSprings_19 (fun c4 => ?_) (fun c4 => ?_)
      · exact jm_weakD F (lv' := [none, none, none, none, none, none, none]) trivial (fun h => h)
      · refine jm_aload_n (i := 0) F dX2_drawSprings_22 rfl rfl ?_
        refine jm_aload_n (i := 1) F dX2_drawSprings_23 rfl rfl ?_
        refine jm_callV (As := [.ref (jm_a E p1 0)]) (st := []) (rv := fun _ => none) (mm := fun r => r) F dX2_drawSprings_24 qX2_29 rfl lo_X2 rfl (fun r h => kF_think E hE hp1 h) rfl (Nat.le_of_ble_eq_true rfl) ⟨Nat.le_of_ble_eq_true rfl, Nat.le_of_ble_eq_true rfl⟩ (fun r5 => ?_)
        refine jm_iconst F dX2_drawSprings_27 kc_0 ?_
        refine jm_istore (i := 6) (lv' := [some (.ref (jm_a E 15 0)), some (.ref (jm_a E p1 0)), some (.int p2), none, some (.int s3.1), some (.int s3.2.1), some (.int 0)]) F dX2_drawSprings_28 (by decide) rfl rfl ?_
        refine jm_bind (pcJ := 75) (lvJ := fun e11 => [some (.ref (jm_a E 15 0)), some (.ref (jm_a E p1 0)), some (.int p2), none, some (.int e11.1), some (.int s3.2.1), none]) (stJ := fun _ => []) (MJ := fun e11 => e11.2) ?_ (fun e11 => ?_)
        · refine jm_weak F (lv' := [some (.ref (jm_a E 15 0)), some (.ref (jm_a E p1 0)), some (.int p2), none, some (.int s3.1), some (.int s3.2.1), some (.int 0)]) ⟨rfl, rfl, rfl, rfl, rfl, rfl, trivial⟩ ?_
          refine jm_loopR (lvH := fun s6 => [some (.ref (jm_a E 15 0)), some (.ref (jm_a E p1 0)), some (.int p2), none, some (.int s6.1), some (.int s3.2.1), some (.int s6.2.1)]) (MH := fun s6 => s6.2.2) (fun s6 => ?_) jm_N (s3.1, 0, r5)
          unfold sF_drawSprings_L30
          refine jm_iload F dX2_drawSprings_30 rfl ?_
          refine jm_aload_n (i := 0) F dX2_drawSprings_32 rfl rfl ?_
          refine jm_getR F dX2_drawSprings_33 fl_X2_12 lo_X2 rfl ?_
          refine jm_getI F dX2_drawSprings_36 fl_X2_62 (lo_T isT_4) rfl ?_
          refine jm_icmp_ge F dX2_drawSprings_39 (fun c7 => ?_) (fun c7 => ?_)
          · exact jm_weakD F (lv' := [some (.ref (jm_a E 15 0)), some (.ref (jm_a E p1 0)), some (.int p2), none, some (.int s6.1), some (.int s3.2.1), none]) ⟨rfl, rfl, rfl, rfl, rfl, trivial⟩ (fun h => h)
          · refine jm_iload F dX2_drawSprings_42 rfl ?_
            refine jm_ldc F dX2_drawSprings_44 tw_833 ?_
            refine jm_imul F dX2_drawSprings_46 ?_
            refine jm_sipush F dX2_drawSprings_47 ks_12345 ?_
            refine jm_iadd F dX2_drawSprings_50 ?_
            refine jm_nameI (f := fun x8 => [.int x8]) (fun x8 => ?_) rfl
            refine jm_istore (i := 4) (lv' := [some (.ref (jm_a E 15 0)), some (.ref (jm_a E p1 0)), some (.int p2), none, some (.int x8), some (.int s3.2.1), some (.int s6.2.1)]) F dX2_drawSprings_51 (by decide) rfl rfl ?_
            refine jm_aload_n (i := 0) F dX2_drawSprings_53 rfl rfl ?_
            refine jm_getR F dX2_drawSprings_54 fl_X2_12 lo_X2 rfl ?_
            refine jm_getR F dX2_drawSprings_57 fl_X2_69 (lo_T isT_4) rfl ?_
            refine jm_iload F dX2_drawSprings_60 rfl ?_
            refine jm_aload_n (i := 0) F dX2_drawSprings_62 rfl rfl ?_
            refine jm_iload F dX2_drawSprings_63 rfl ?_
            refine jm_callV (As := [.int x8]) (st := [.int s6.2.1, .ref (jm_a E 4 9)]) (rv := fun r => some (.int r)) (mm := fun _ => s6.2.2) F dX2_drawSprings_65 qX2_107 rfl lo_X2 rfl (fun r h => kF_keeperDrawn E hE h) rfl (Nat.le_of_ble_eq_true rfl) ⟨Nat.le_of_ble_eq_true rfl, Nat.le_of_ble_eq_true rfl⟩ (fun r9 => ?_)
            refine jm_iast F dX2_drawSprings_68 (la_T_9 isT_4) (fun M10 => ?_)
            refine jm_iinc (i := 6) (lv' := [some (.ref (jm_a E 15 0)), some (.ref (jm_a E p1 0)), some (.int p2), none, some (.int x8), some (.int s3.2.1), some (.int (s6.2.1 + 1))]) F dX2_drawSprings_69 kc_1 rfl (by decide) rfl rfl ?_
            refine jm_goto F dX2_drawSprings_72 ?_
            exact jm_weakD F (lv' := [some (.ref (jm_a E 15 0)), some (.ref (jm_a E p1 0)), some (.int p2), none, some (.int x8), some (.int s3.2.1), some (.int (s6.2.1 + 1))]) ⟨rfl, rfl, rfl, rfl, rfl, rfl, trivial⟩ (fun h => h)
        · refine jm_aload_n (i := 0) F dX2_drawSprings_75 rfl rfl ?_
          refine jm_getR F dX2_drawSprings_76 fl_X2_12 lo_X2 rfl ?_
          refine jm_bipush F dX2_drawSprings_79 kb_8 ?_
          refine jm_callV (As := [.int 8]) (st := []) (rv := fun _ => none) (mm := fun r => r) F dX2_drawSprings_81 qX2_32 rfl (lo_T isT_4) rfl (fun r h => kT_weeksPass E hE isT_4 h) rfl (Nat.le_of_ble_eq_true rfl) ⟨Nat.le_of_ble_eq_true rfl, Nat.le_of_ble_eq_true rfl⟩ (fun r12 => ?_)
          refine jm_aload_n (i := 0) F dX2_drawSprings_84 rfl rfl ?_
          refine jm_dup F dX2_drawSprings_85 rfl ?_
          refine jm_getI F dX2_drawSprings_86 fl_X2_100 lo_X2 rfl ?_
          refine jm_aload_n (i := 0) F dX2_drawSprings_89 rfl rfl ?_
          refine jm_getR F dX2_drawSprings_90 fl_X2_12 lo_X2 rfl ?_
          refine jm_callV (As := []) (st := [.int (r12 15 0 5), .ref (jm_a E 15 0)]) (rv := fun r => some (.int r)) (mm := fun _ => r12) F dX2_drawSprings_93 qX2_110 rfl (lo_T isT_4) rfl (fun r h => kT_readings E hE isT_4 h) rfl (Nat.le_of_ble_eq_true rfl) ⟨Nat.le_of_ble_eq_true rfl, Nat.le_of_ble_eq_true rfl⟩ (fun r13 => ?_)
          refine jm_aload_n (i := 1) F dX2_drawSprings_96 rfl rfl ?_
          refine jm_callV (As := []) (st := [.int r13, .int (r12 15 0 5), .ref (jm_a E 15 0)]) (rv := fun r => some (.int r)) (mm := fun _ => r12) F dX2_drawSprings_97 qX2_110 rfl (lo_T hp1) rfl (fun r h => kT_readings E hE hp1 h) rfl (Nat.le_of_ble_eq_true rfl) ⟨Nat.le_of_ble_eq_true rfl, Nat.le_of_ble_eq_true rfl⟩ (fun r14 => ?_)
          refine jm_isub F dX2_drawSprings_100 ?_
          refine jm_iadd F dX2_drawSprings_101 ?_
          refine jm_putI F dX2_drawSprings_102 fp_X2_100 lo_X2 rfl (fun M15 => ?_)
          refine jm_aload_n (i := 0) F dX2_drawSprings_105 rfl rfl ?_
          refine jm_dup F dX2_drawSprings_106 rfl ?_
          refine jm_getI F dX2_drawSprings_107 fl_X2_103 lo_X2 rfl ?_
          refine jm_aload_n (i := 0) F dX2_drawSprings_110 rfl rfl ?_
          refine jm_getR F dX2_drawSprings_111 fl_X2_12 lo_X2 rfl ?_
          refine jm_callV (As := []) (st := [.int (M15 15 0 6), .ref (jm_a E 15 0)]) (rv := fun r => some (.int r)) (mm := fun _ => M15) F dX2_drawSprings_114 qX2_114 rfl (lo_T isT_4) rfl (fun r h => kT_twosDown E hE isT_4 h) rfl (Nat.le_of_ble_eq_true rfl) ⟨Nat.le_of_ble_eq_true rfl, Nat.le_of_ble_eq_true rfl⟩ (fun r16 => ?_)
          refine jm_iadd F dX2_drawSprings_117 ?_
          refine jm_putI F dX2_drawSprings_118 fp_X2_103 lo_X2 rfl (fun M17 => ?_)
          refine jm_iinc (i := 5) (lv' := [some (.ref (jm_a E 15 0)), some (.ref (jm_a E p1 0)), some (.int p2), none, some (.int e11.1), some (.int (s3.2.1 + 1)), none]) F dX2_drawSprings_121 kc_1 rfl (by decide) rfl rfl ?_
          refine jm_goto F dX2_drawSprings_124 ?_
          exact jm_weakD F (lv' := [some (.ref (jm_a E 15 0)), some (.ref (jm_a E p1 0)), some (.int p2), none, some (.int e11.1), some (.int (s3.2.1 + 1)), none]) ⟨rfl, rfl, rfl, rfl, rfl, trivial⟩ (fun h => h)
    · exact jm_vret F dX2_drawSprings_127 (fun h => h)
  exact G r h hz
theorem dX8_lots_0 : jm_d cX8_lots 0 (.iload_n 1) 1 1 := ⟨by decide +kernel, rfl⟩
theorem dX8_lots_1 : jm_d cX8_lots 1 (.iconst 1) 1 2 := ⟨by decide +kernel, rfl⟩
theorem dX8_lots_2 : jm_b cX8_lots 2 (.if_icmp .ge) 5 12 := ⟨10, by decide +kernel, rfl, by decide⟩
theorem dX8_lots_12 : jm_d cX8_lots 12 (.iload_n 1) 1 13 := ⟨by decide +kernel, rfl⟩
theorem dX8_lots_13 : jm_d cX8_lots 13 (.bipush 20) 2 15 := ⟨by decide +kernel, rfl⟩
theorem dX8_lots_15 : jm_b cX8_lots 15 (.if_icmp .le) 18 25 := ⟨10, by decide +kernel, rfl, by decide⟩
theorem dX8_lots_25 : jm_d cX8_lots 25 (.aload_n 0) 1 26 := ⟨by decide +kernel, rfl⟩
theorem dX8_lots_26 : jm_d cX8_lots 26 (.iload_n 3) 1 27 := ⟨by decide +kernel, rfl⟩
theorem dX8_lots_27 : jm_d cX8_lots 27 (.invokevirtual 199) 3 30 := ⟨by decide +kernel, rfl⟩
theorem dX8_lots_30 : jm_b cX8_lots 30 (.ifCond .eq) 33 40 := ⟨10, by decide +kernel, rfl, by decide⟩
theorem dX8_lots_40 : jm_d cX8_lots 40 (.aload_n 0) 1 41 := ⟨by decide +kernel, rfl⟩
theorem dX8_lots_41 : jm_d cX8_lots 41 (.getfield 36) 3 44 := ⟨by decide +kernel, rfl⟩
theorem dX8_lots_44 : jm_d cX8_lots 44 (.aload_n 0) 1 45 := ⟨by decide +kernel, rfl⟩
theorem dX8_lots_45 : jm_d cX8_lots 45 (.getfield 10) 3 48 := ⟨by decide +kernel, rfl⟩
theorem dX8_lots_48 : jm_d cX8_lots 48 (.iload_n 1) 1 49 := ⟨by decide +kernel, rfl⟩
theorem dX8_lots_49 : jm_d cX8_lots 49 (.iload_n 2) 1 50 := ⟨by decide +kernel, rfl⟩
theorem dX8_lots_50 : jm_d cX8_lots 50 (.invokevirtual 281) 3 53 := ⟨by decide +kernel, rfl⟩
theorem dX8_lots_53 : jm_d cX8_lots 53 (.iload_n 3) 1 54 := ⟨by decide +kernel, rfl⟩
theorem dX8_lots_54 : jm_b cX8_lots 54 (.ifCond .ne) 57 67 := ⟨13, by decide +kernel, rfl, by decide⟩
theorem dX8_lots_57 : jm_d cX8_lots 57 (.aload_n 0) 1 58 := ⟨by decide +kernel, rfl⟩
theorem dX8_lots_58 : jm_d cX8_lots 58 (.getfield 36) 3 61 := ⟨by decide +kernel, rfl⟩
theorem dX8_lots_61 : jm_d cX8_lots 61 (.getfield 284) 3 64 := ⟨by decide +kernel, rfl⟩
theorem dX8_lots_64 : jm_b cX8_lots 64 .goto 67 74 := ⟨10, by decide +kernel, rfl, by decide⟩
theorem dX8_lots_74 : jm_d cX8_lots 74 (.ireturn) 1 75 := ⟨by decide +kernel, rfl⟩
theorem dX8_lots_67 : jm_d cX8_lots 67 (.aload_n 0) 1 68 := ⟨by decide +kernel, rfl⟩
theorem dX8_lots_68 : jm_d cX8_lots 68 (.getfield 36) 3 71 := ⟨by decide +kernel, rfl⟩
theorem dX8_lots_71 : jm_d cX8_lots 71 (.getfield 287) 3 74 := ⟨by decide +kernel, rfl⟩
theorem dX8_lots_33 : jm_d cX8_lots 33 (.aload_n 0) 1 34 := ⟨by decide +kernel, rfl⟩
theorem dX8_lots_34 : jm_d cX8_lots 34 (.bipush (-2)) 2 36 := ⟨by decide +kernel, rfl⟩
theorem dX8_lots_36 : jm_d cX8_lots 36 (.invokevirtual 64) 3 39 := ⟨by decide +kernel, rfl⟩
theorem dX8_lots_39 : jm_d cX8_lots 39 (.ireturn) 1 40 := ⟨by decide +kernel, rfl⟩
theorem dX8_lots_18 : jm_d cX8_lots 18 (.aload_n 0) 1 19 := ⟨by decide +kernel, rfl⟩
theorem dX8_lots_19 : jm_d cX8_lots 19 (.bipush (-6)) 2 21 := ⟨by decide +kernel, rfl⟩
theorem dX8_lots_21 : jm_d cX8_lots 21 (.invokevirtual 64) 3 24 := ⟨by decide +kernel, rfl⟩
theorem dX8_lots_24 : jm_d cX8_lots 24 (.ireturn) 1 25 := ⟨by decide +kernel, rfl⟩
theorem dX8_lots_5 : jm_d cX8_lots 5 (.aload_n 0) 1 6 := ⟨by decide +kernel, rfl⟩
theorem dX8_lots_6 : jm_d cX8_lots 6 (.bipush (-4)) 2 8 := ⟨by decide +kernel, rfl⟩
theorem dX8_lots_8 : jm_d cX8_lots 8 (.invokevirtual 64) 3 11 := ⟨by decide +kernel, rfl⟩
theorem dX8_lots_11 : jm_d cX8_lots 11 (.ireturn) 1 12 := ⟨by decide +kernel, rfl⟩
set_option maxHeartbeats 4000000 in
set_option maxRecDepth 100000 in
theorem kW_lots (E : jm_Ev) (hE : jm_dj E jm_LC) {M : jm_M} {p1 : Int32} {p2 : Int32} {p3 : Int32}  {r : Int32 × jm_M} (h : sW_lots M p1 p2 p3 = some r) : jm_Ct E jm_LC yX8_lots cX8_lots 4 (some .int) 7 188 [.ref (jm_a E 0 0), .int p1, .int p2, .int p3] M (some (.int r.1)) r.2 := by
  refine jm_enter (lv := [some (.ref (jm_a E 0 0)), some (.int p1), some (.int p2), some (.int p3)]) hE (by decide) (Nat.le_of_ble_eq_true rfl) rfl ?_
  intro z w F hz
  have G : jm_G w 0 [some (.ref (jm_a E 0 0)), some (.int p1), some (.int p2), some (.int p3)] [] M (sW_lots M p1 p2 p3) (fun e => z (some (.int e.1)) e.2) := by
    unfold sW_lots
    refine jm_iload_n (i := 1) F dX8_lots_0 rfl rfl ?_
    refine jm_iconst F dX8_lots_1 kc_1 ?_
    refine jm_icmp_ge F dX8_lots_2 (fun c1 => ?_) (fun c1 => ?_)
    · refine jm_iload_n (i := 1) F dX8_lots_12 rfl rfl ?_
      refine jm_bipush F dX8_lots_13 kb_20 ?_
      refine jm_icmp_le F dX8_lots_15 (fun c2 => ?_) (fun c2 => ?_)
      · refine jm_aload_n (i := 0) F dX8_lots_25 rfl rfl ?_
        refine jm_iload_n (i := 3) F dX8_lots_26 rfl rfl ?_
        refine jm_callV (As := [.int p3]) (st := []) (rv := fun r => some (.int r)) (mm := fun _ => M) F dX8_lots_27 qX8_199 rfl lo_X8 rfl (fun r h => kW_isNeither E hE h) rfl (Nat.le_of_ble_eq_true rfl) ⟨Nat.le_of_ble_eq_true rfl, Nat.le_of_ble_eq_true rfl⟩ (fun r3 => ?_)
        refine jm_if_eq F dX8_lots_30 (fun c4 => ?_) (fun c4 => ?_)
        · refine jm_aload_n (i := 0) F dX8_lots_40 rfl rfl ?_
          refine jm_getR F dX8_lots_41 fl_X8_36 lo_X8 rfl ?_
          refine jm_aload_n (i := 0) F dX8_lots_44 rfl rfl ?_
          refine jm_getR F dX8_lots_45 fl_X8_10 lo_X8 rfl ?_
          refine jm_iload_n (i := 1) F dX8_lots_48 rfl rfl ?_
          refine jm_iload_n (i := 2) F dX8_lots_49 rfl rfl ?_
          refine jm_callV (As := [.ref (jm_a E 1 0), .int p1, .int p2]) (st := []) (rv := fun _ => none) (mm := fun r => r) F dX8_lots_50 qX8_281 rfl lo_X2 rfl (fun r h => kF_drawSprings E hE isT_1 h) rfl (Nat.le_of_ble_eq_true rfl) ⟨Nat.le_of_ble_eq_true rfl, Nat.le_of_ble_eq_true rfl⟩ (fun r5 => ?_)
          refine jm_iload_n (i := 3) F dX8_lots_53 rfl rfl ?_
          refine jm_if_ne F dX8_lots_54 (fun c6 => ?_) (fun c6 => ?_)
          · refine jm_aload_n (i := 0) F dX8_lots_57 rfl rfl ?_
            refine jm_getR F dX8_lots_58 fl_X8_36 lo_X8 rfl ?_
            refine jm_getI F dX8_lots_61 fl_X8_284 lo_X2 rfl ?_
            refine jm_goto F dX8_lots_64 ?_
            exact jm_iret F dX8_lots_74 (fun h => h)
          · refine jm_aload_n (i := 0) F dX8_lots_67 rfl rfl ?_
            refine jm_getR F dX8_lots_68 fl_X8_36 lo_X8 rfl ?_
            refine jm_getI F dX8_lots_71 fl_X8_287 lo_X2 rfl ?_
            exact jm_iret F dX8_lots_74 (fun h => h)
        · refine jm_aload_n (i := 0) F dX8_lots_33 rfl rfl ?_
          refine jm_bipush F dX8_lots_34 kb_m2 ?_
          refine jm_callV (As := [.int (-2)]) (st := []) (rv := fun r => some (.int r.1)) (mm := fun r => r.2) F dX8_lots_36 qX8_64 rfl lo_X8 rfl (fun r h => kW_refuse E hE h) rfl (Nat.le_of_ble_eq_true rfl) ⟨Nat.le_of_ble_eq_true rfl, Nat.le_of_ble_eq_true rfl⟩ (fun r7 => ?_)
          exact jm_iret F dX8_lots_39 (fun h => h)
      · refine jm_aload_n (i := 0) F dX8_lots_18 rfl rfl ?_
        refine jm_bipush F dX8_lots_19 kb_m6 ?_
        refine jm_callV (As := [.int (-6)]) (st := []) (rv := fun r => some (.int r.1)) (mm := fun r => r.2) F dX8_lots_21 qX8_64 rfl lo_X8 rfl (fun r h => kW_refuse E hE h) rfl (Nat.le_of_ble_eq_true rfl) ⟨Nat.le_of_ble_eq_true rfl, Nat.le_of_ble_eq_true rfl⟩ (fun r8 => ?_)
        exact jm_iret F dX8_lots_24 (fun h => h)
    · refine jm_aload_n (i := 0) F dX8_lots_5 rfl rfl ?_
      refine jm_bipush F dX8_lots_6 kb_m4 ?_
      refine jm_callV (As := [.int (-4)]) (st := []) (rv := fun r => some (.int r.1)) (mm := fun r => r.2) F dX8_lots_8 qX8_64 rfl lo_X8 rfl (fun r h => kW_refuse E hE h) rfl (Nat.le_of_ble_eq_true rfl) ⟨Nat.le_of_ble_eq_true rfl, Nat.le_of_ble_eq_true rfl⟩ (fun r9 => ?_)
      exact jm_iret F dX8_lots_11 (fun h => h)
  exact G r h hz
theorem dX7_rankOf_0 : jm_d cX7_rankOf 0 (.iconst 0) 1 1 := ⟨by decide +kernel, rfl⟩
theorem dX7_rankOf_1 : jm_d cX7_rankOf 1 (.istore_n 2) 1 2 := ⟨by decide +kernel, rfl⟩
theorem dX7_rankOf_2 : jm_d cX7_rankOf 2 (.iconst 0) 1 3 := ⟨by decide +kernel, rfl⟩
theorem dX7_rankOf_3 : jm_d cX7_rankOf 3 (.istore_n 3) 1 4 := ⟨by decide +kernel, rfl⟩
theorem dX7_rankOf_4 : jm_d cX7_rankOf 4 (.iload_n 3) 1 5 := ⟨by decide +kernel, rfl⟩
theorem dX7_rankOf_5 : jm_d cX7_rankOf 5 (.aload_n 0) 1 6 := ⟨by decide +kernel, rfl⟩
theorem dX7_rankOf_6 : jm_d cX7_rankOf 6 (.getfield 55) 3 9 := ⟨by decide +kernel, rfl⟩
theorem dX7_rankOf_9 : jm_b cX7_rankOf 9 (.if_icmp .ge) 12 36 := ⟨27, by decide +kernel, rfl, by decide⟩
theorem dX7_rankOf_12 : jm_d cX7_rankOf 12 (.aload_n 0) 1 13 := ⟨by decide +kernel, rfl⟩
theorem dX7_rankOf_13 : jm_d cX7_rankOf 13 (.getfield 36) 3 16 := ⟨by decide +kernel, rfl⟩
theorem dX7_rankOf_16 : jm_d cX7_rankOf 16 (.iload_n 3) 1 17 := ⟨by decide +kernel, rfl⟩
theorem dX7_rankOf_17 : jm_d cX7_rankOf 17 (.iaload) 1 18 := ⟨by decide +kernel, rfl⟩
theorem dX7_rankOf_18 : jm_d cX7_rankOf 18 (.aload_n 0) 1 19 := ⟨by decide +kernel, rfl⟩
theorem dX7_rankOf_19 : jm_d cX7_rankOf 19 (.getfield 36) 3 22 := ⟨by decide +kernel, rfl⟩
theorem dX7_rankOf_22 : jm_d cX7_rankOf 22 (.iload_n 1) 1 23 := ⟨by decide +kernel, rfl⟩
theorem dX7_rankOf_23 : jm_d cX7_rankOf 23 (.iaload) 1 24 := ⟨by decide +kernel, rfl⟩
theorem dX7_rankOf_24 : jm_b cX7_rankOf 24 (.if_icmp .ge) 27 30 := ⟨6, by decide +kernel, rfl, by decide⟩
theorem dX7_rankOf_30 : jm_d cX7_rankOf 30 (.iinc 3 1) 3 33 := ⟨by decide +kernel, rfl⟩
theorem dX7_rankOf_33 : jm_b cX7_rankOf 33 .goto 36 4 := ⟨(-29), by decide +kernel, rfl, by decide⟩
theorem dX7_rankOf_27 : jm_d cX7_rankOf 27 (.iinc 2 1) 3 30 := ⟨by decide +kernel, rfl⟩
theorem dX7_rankOf_36 : jm_d cX7_rankOf 36 (.iload_n 2) 1 37 := ⟨by decide +kernel, rfl⟩
theorem dX7_rankOf_37 : jm_d cX7_rankOf 37 (.ireturn) 1 38 := ⟨by decide +kernel, rfl⟩
set_option maxHeartbeats 4000000 in
set_option maxRecDepth 100000 in
theorem kT_rankOf (E : jm_Ev) (hE : jm_dj E jm_LC) {M : jm_M} {t : Nat} {p1 : Int32} (ht : jm_isT t) {r : Int32} (h : sT_rankOf M t p1 = some r) : jm_Ct E jm_LC yX7_rankOf cX7_rankOf 4 (some .int) 0 0 [.ref (jm_a E t 0), .int p1] M (some (.int r)) M := by
  refine jm_enter (lv := [some (.ref (jm_a E t 0)), some (.int p1), none, none]) hE (by decide) (Nat.le_of_ble_eq_true rfl) rfl ?_
  intro z w F hz
  have G : jm_G w 0 [some (.ref (jm_a E t 0)), some (.int p1), none, none] [] M (sT_rankOf M t p1) (fun e => z (some (.int e)) M) := by
    unfold sT_rankOf
    refine jm_iconst F dX7_rankOf_0 kc_0 ?_
    refine jm_istore_n (i := 2) (lv' := [some (.ref (jm_a E t 0)), some (.int p1), some (.int 0), none]) F dX7_rankOf_1 rfl (by decide) rfl rfl ?_
    refine jm_iconst F dX7_rankOf_2 kc_0 ?_
    refine jm_istore_n (i := 3) (lv' := [some (.ref (jm_a E t 0)), some (.int p1), some (.int 0), some (.int 0)]) F dX7_rankOf_3 rfl (by decide) rfl rfl ?_
    refine jm_bind (pcJ := 36) (lvJ := fun e6 => [none, none, some (.int e6), none]) (stJ := fun _ => []) (MJ := fun e6 => M) ?_ (fun e6 => ?_)
    · refine jm_weak F (lv' := [some (.ref (jm_a E t 0)), some (.int p1), some (.int 0), some (.int 0)]) ⟨rfl, rfl, rfl, rfl, trivial⟩ ?_
      refine jm_loopR (lvH := fun s1 => [some (.ref (jm_a E t 0)), some (.int p1), some (.int s1.1), some (.int s1.2)]) (MH := fun s1 => M) (fun s1 => ?_) jm_N (0, 0)
      unfold sT_rankOf_L4
      refine jm_iload_n (i := 3) F dX7_rankOf_4 rfl rfl ?_
      refine jm_aload_n (i := 0) F dX7_rankOf_5 rfl rfl ?_
      refine jm_getI F dX7_rankOf_6 fl_X7_55 (lo_T ht) rfl ?_
      refine jm_icmp_ge F dX7_rankOf_9 (fun c2 => ?_) (fun c2 => ?_)
      · exact jm_weakD F (lv' := [none, none, some (.int s1.1), none]) ⟨rfl, trivial⟩ (fun h => h)
      · refine jm_aload_n (i := 0) F dX7_rankOf_12 rfl rfl ?_
        refine jm_getR F dX7_rankOf_13 fl_X7_36 (lo_T ht) rfl ?_
        refine jm_iload_n (i := 3) F dX7_rankOf_16 rfl rfl ?_
        refine jm_iald F dX7_rankOf_17 (la_T_11 ht) (fun v3 => ?_)
        refine jm_aload_n (i := 0) F dX7_rankOf_18 rfl rfl ?_
        refine jm_getR F dX7_rankOf_19 fl_X7_36 (lo_T ht) rfl ?_
        refine jm_iload_n (i := 1) F dX7_rankOf_22 rfl rfl ?_
        refine jm_iald F dX7_rankOf_23 (la_T_11 ht) (fun v4 => ?_)
        refine jm_icmp_ge F dX7_rankOf_24 (fun c5 => ?_) (fun c5 => ?_)
        · refine jm_iinc (i := 3) (lv' := [some (.ref (jm_a E t 0)), some (.int p1), some (.int s1.1), some (.int (s1.2 + 1))]) F dX7_rankOf_30 kc_1 rfl (by decide) rfl rfl ?_
          refine jm_goto F dX7_rankOf_33 ?_
          exact jm_weakD F (lv' := [some (.ref (jm_a E t 0)), some (.int p1), some (.int s1.1), some (.int (s1.2 + 1))]) ⟨rfl, rfl, rfl, rfl, trivial⟩ (fun h => h)
        · refine jm_iinc (i := 2) (lv' := [some (.ref (jm_a E t 0)), some (.int p1), some (.int (s1.1 + 1)), some (.int s1.2)]) F dX7_rankOf_27 kc_1 rfl (by decide) rfl rfl ?_
          refine jm_iinc (i := 3) (lv' := [some (.ref (jm_a E t 0)), some (.int p1), some (.int (s1.1 + 1)), some (.int (s1.2 + 1))]) F dX7_rankOf_30 kc_1 rfl (by decide) rfl rfl ?_
          refine jm_goto F dX7_rankOf_33 ?_
          exact jm_weakD F (lv' := [some (.ref (jm_a E t 0)), some (.int p1), some (.int (s1.1 + 1)), some (.int (s1.2 + 1))]) ⟨rfl, rfl, rfl, rfl, trivial⟩ (fun h => h)
    · refine jm_iload_n (i := 2) F dX7_rankOf_36 rfl rfl ?_
      exact jm_iret F dX7_rankOf_37 (fun h => h)
  exact G r h hz
theorem dX7_firstTitleFrom_0 : jm_d cX7_firstTitleFrom 0 (.bipush (-9)) 2 2 := ⟨by decide +kernel, rfl⟩
theorem dX7_firstTitleFrom_2 : jm_d cX7_firstTitleFrom 2 (.istore_n 2) 1 3 := ⟨by decide +kernel, rfl⟩
theorem dX7_firstTitleFrom_3 : jm_d cX7_firstTitleFrom 3 (.iconst 0) 1 4 := ⟨by decide +kernel, rfl⟩
theorem dX7_firstTitleFrom_4 : jm_d cX7_firstTitleFrom 4 (.istore_n 3) 1 5 := ⟨by decide +kernel, rfl⟩
theorem dX7_firstTitleFrom_5 : jm_d cX7_firstTitleFrom 5 (.iload_n 3) 1 6 := ⟨by decide +kernel, rfl⟩
theorem dX7_firstTitleFrom_6 : jm_d cX7_firstTitleFrom 6 (.aload_n 0) 1 7 := ⟨by decide +kernel, rfl⟩
theorem dX7_firstTitleFrom_7 : jm_d cX7_firstTitleFrom 7 (.getfield 55) 3 10 := ⟨by decide +kernel, rfl⟩
theorem dX7_firstTitleFrom_10 : jm_b cX7_firstTitleFrom 10 (.if_icmp .ge) 13 52 := ⟨42, by decide +kernel, rfl, by decide⟩
theorem dX7_firstTitleFrom_13 : jm_d cX7_firstTitleFrom 13 (.aload_n 0) 1 14 := ⟨by decide +kernel, rfl⟩
theorem dX7_firstTitleFrom_14 : jm_d cX7_firstTitleFrom 14 (.getfield 36) 3 17 := ⟨by decide +kernel, rfl⟩
theorem dX7_firstTitleFrom_17 : jm_d cX7_firstTitleFrom 17 (.iload_n 3) 1 18 := ⟨by decide +kernel, rfl⟩
theorem dX7_firstTitleFrom_18 : jm_d cX7_firstTitleFrom 18 (.iaload) 1 19 := ⟨by decide +kernel, rfl⟩
theorem dX7_firstTitleFrom_19 : jm_d cX7_firstTitleFrom 19 (.iload_n 1) 1 20 := ⟨by decide +kernel, rfl⟩
theorem dX7_firstTitleFrom_20 : jm_b cX7_firstTitleFrom 20 (.if_icmp .lt) 23 46 := ⟨26, by decide +kernel, rfl, by decide⟩
theorem dX7_firstTitleFrom_46 : jm_d cX7_firstTitleFrom 46 (.iinc 3 1) 3 49 := ⟨by decide +kernel, rfl⟩
theorem dX7_firstTitleFrom_49 : jm_b cX7_firstTitleFrom 49 .goto 52 5 := ⟨(-44), by decide +kernel, rfl, by decide⟩
theorem dX7_firstTitleFrom_23 : jm_d cX7_firstTitleFrom 23 (.iload_n 2) 1 24 := ⟨by decide +kernel, rfl⟩
theorem dX7_firstTitleFrom_24 : jm_d cX7_firstTitleFrom 24 (.bipush (-9)) 2 26 := ⟨by decide +kernel, rfl⟩
theorem dX7_firstTitleFrom_26 : jm_b cX7_firstTitleFrom 26 (.if_icmp .eq) 29 44 := ⟨18, by decide +kernel, rfl, by decide⟩
theorem dX7_firstTitleFrom_44 : jm_d cX7_firstTitleFrom 44 (.iload_n 3) 1 45 := ⟨by decide +kernel, rfl⟩
theorem dX7_firstTitleFrom_45 : jm_d cX7_firstTitleFrom 45 (.istore_n 2) 1 46 := ⟨by decide +kernel, rfl⟩
theorem dX7_firstTitleFrom_29 : jm_d cX7_firstTitleFrom 29 (.aload_n 0) 1 30 := ⟨by decide +kernel, rfl⟩
theorem dX7_firstTitleFrom_30 : jm_d cX7_firstTitleFrom 30 (.getfield 36) 3 33 := ⟨by decide +kernel, rfl⟩
theorem dX7_firstTitleFrom_33 : jm_d cX7_firstTitleFrom 33 (.iload_n 3) 1 34 := ⟨by decide +kernel, rfl⟩
theorem dX7_firstTitleFrom_34 : jm_d cX7_firstTitleFrom 34 (.iaload) 1 35 := ⟨by decide +kernel, rfl⟩
theorem dX7_firstTitleFrom_35 : jm_d cX7_firstTitleFrom 35 (.aload_n 0) 1 36 := ⟨by decide +kernel, rfl⟩
theorem dX7_firstTitleFrom_36 : jm_d cX7_firstTitleFrom 36 (.getfield 36) 3 39 := ⟨by decide +kernel, rfl⟩
theorem dX7_firstTitleFrom_39 : jm_d cX7_firstTitleFrom 39 (.iload_n 2) 1 40 := ⟨by decide +kernel, rfl⟩
theorem dX7_firstTitleFrom_40 : jm_d cX7_firstTitleFrom 40 (.iaload) 1 41 := ⟨by decide +kernel, rfl⟩
theorem dX7_firstTitleFrom_41 : jm_b cX7_firstTitleFrom 41 (.if_icmp .ge) 44 46 := ⟨5, by decide +kernel, rfl, by decide⟩
theorem dX7_firstTitleFrom_52 : jm_d cX7_firstTitleFrom 52 (.iload_n 2) 1 53 := ⟨by decide +kernel, rfl⟩
theorem dX7_firstTitleFrom_53 : jm_d cX7_firstTitleFrom 53 (.ireturn) 1 54 := ⟨by decide +kernel, rfl⟩
set_option maxHeartbeats 4000000 in
set_option maxRecDepth 100000 in
theorem kT_firstTitleFrom (E : jm_Ev) (hE : jm_dj E jm_LC) {M : jm_M} {t : Nat} {p1 : Int32} (ht : jm_isT t) {r : Int32} (h : sT_firstTitleFrom M t p1 = some r) : jm_Ct E jm_LC yX7_firstTitleFrom cX7_firstTitleFrom 4 (some .int) 0 0 [.ref (jm_a E t 0), .int p1] M (some (.int r)) M := by
  refine jm_enter (lv := [some (.ref (jm_a E t 0)), some (.int p1), none, none]) hE (by decide) (Nat.le_of_ble_eq_true rfl) rfl ?_
  intro z w F hz
  have G : jm_G w 0 [some (.ref (jm_a E t 0)), some (.int p1), none, none] [] M (sT_firstTitleFrom M t p1) (fun e => z (some (.int e)) M) := by
    unfold sT_firstTitleFrom
    refine jm_bipush F dX7_firstTitleFrom_0 kb_m9 ?_
    refine jm_istore_n (i := 2) (lv' := [some (.ref (jm_a E t 0)), some (.int p1), some (.int (-9)), none]) F dX7_firstTitleFrom_2 rfl (by decide) rfl rfl ?_
    refine jm_iconst F dX7_firstTitleFrom_3 kc_0 ?_
    refine jm_istore_n (i := 3) (lv' := [some (.ref (jm_a E t 0)), some (.int p1), some (.int (-9)), some (.int 0)]) F dX7_firstTitleFrom_4 rfl (by decide) rfl rfl ?_
    refine jm_bind (pcJ := 52) (lvJ := fun e9 => [none, none, some (.int e9), none]) (stJ := fun _ => []) (MJ := fun e9 => M) ?_ (fun e9 => ?_)
    · refine jm_weak F (lv' := [some (.ref (jm_a E t 0)), some (.int p1), some (.int (-9)), some (.int 0)]) ⟨rfl, rfl, rfl, rfl, trivial⟩ ?_
      refine jm_loopR (lvH := fun s1 => [some (.ref (jm_a E t 0)), some (.int p1), some (.int s1.1), some (.int s1.2)]) (MH := fun s1 => M) (fun s1 => ?_) jm_N ((-9), 0)
      unfold sT_firstTitleFrom_L5
      refine jm_iload_n (i := 3) F dX7_firstTitleFrom_5 rfl rfl ?_
      refine jm_aload_n (i := 0) F dX7_firstTitleFrom_6 rfl rfl ?_
      refine jm_getI F dX7_firstTitleFrom_7 fl_X7_55 (lo_T ht) rfl ?_
      refine jm_icmp_ge F dX7_firstTitleFrom_10 (fun c2 => ?_) (fun c2 => ?_)
      · exact jm_weakD F (lv' := [none, none, some (.int s1.1), none]) ⟨rfl, trivial⟩ (fun h => h)
      · refine jm_aload_n (i := 0) F dX7_firstTitleFrom_13 rfl rfl ?_
        refine jm_getR F dX7_firstTitleFrom_14 fl_X7_36 (lo_T ht) rfl ?_
        refine jm_iload_n (i := 3) F dX7_firstTitleFrom_17 rfl rfl ?_
        refine jm_iald F dX7_firstTitleFrom_18 (la_T_11 ht) (fun v3 => ?_)
        refine jm_iload_n (i := 1) F dX7_firstTitleFrom_19 rfl rfl ?_
        refine jm_icmp_lt F dX7_firstTitleFrom_20 (fun c4 => ?_) (fun c4 => ?_)
        · refine jm_iinc (i := 3) (lv' := [some (.ref (jm_a E t 0)), some (.int p1), some (.int s1.1), some (.int (s1.2 + 1))]) F dX7_firstTitleFrom_46 kc_1 rfl (by decide) rfl rfl ?_
          refine jm_goto F dX7_firstTitleFrom_49 ?_
          exact jm_weakD F (lv' := [some (.ref (jm_a E t 0)), some (.int p1), some (.int s1.1), some (.int (s1.2 + 1))]) ⟨rfl, rfl, rfl, rfl, trivial⟩ (fun h => h)
        · refine jm_iload_n (i := 2) F dX7_firstTitleFrom_23 rfl rfl ?_
          refine jm_bipush F dX7_firstTitleFrom_24 kb_m9 ?_
          refine jm_icmp_eq F dX7_firstTitleFrom_26 (fun c5 => ?_) (fun c5 => ?_)
          · refine jm_iload_n (i := 3) F dX7_firstTitleFrom_44 rfl rfl ?_
            refine jm_istore_n (i := 2) (lv' := [some (.ref (jm_a E t 0)), some (.int p1), some (.int s1.2), some (.int s1.2)]) F dX7_firstTitleFrom_45 rfl (by decide) rfl rfl ?_
            refine jm_iinc (i := 3) (lv' := [some (.ref (jm_a E t 0)), some (.int p1), some (.int s1.2), some (.int (s1.2 + 1))]) F dX7_firstTitleFrom_46 kc_1 rfl (by decide) rfl rfl ?_
            refine jm_goto F dX7_firstTitleFrom_49 ?_
            exact jm_weakD F (lv' := [some (.ref (jm_a E t 0)), some (.int p1), some (.int s1.2), some (.int (s1.2 + 1))]) ⟨rfl, rfl, rfl, rfl, trivial⟩ (fun h => h)
          · refine jm_aload_n (i := 0) F dX7_firstTitleFrom_29 rfl rfl ?_
            refine jm_getR F dX7_firstTitleFrom_30 fl_X7_36 (lo_T ht) rfl ?_
            refine jm_iload_n (i := 3) F dX7_firstTitleFrom_33 rfl rfl ?_
            refine jm_iald F dX7_firstTitleFrom_34 (la_T_11 ht) (fun v6 => ?_)
            refine jm_aload_n (i := 0) F dX7_firstTitleFrom_35 rfl rfl ?_
            refine jm_getR F dX7_firstTitleFrom_36 fl_X7_36 (lo_T ht) rfl ?_
            refine jm_iload_n (i := 2) F dX7_firstTitleFrom_39 rfl rfl ?_
            refine jm_iald F dX7_firstTitleFrom_40 (la_T_11 ht) (fun v7 => ?_)
            refine jm_icmp_ge F dX7_firstTitleFrom_41 (fun c8 => ?_) (fun c8 => ?_)
            · refine jm_iinc (i := 3) (lv' := [some (.ref (jm_a E t 0)), some (.int p1), some (.int s1.1), some (.int (s1.2 + 1))]) F dX7_firstTitleFrom_46 kc_1 rfl (by decide) rfl rfl ?_
              refine jm_goto F dX7_firstTitleFrom_49 ?_
              exact jm_weakD F (lv' := [some (.ref (jm_a E t 0)), some (.int p1), some (.int s1.1), some (.int (s1.2 + 1))]) ⟨rfl, rfl, rfl, rfl, trivial⟩ (fun h => h)
            · refine jm_iload_n (i := 3) F dX7_firstTitleFrom_44 rfl rfl ?_
              refine jm_istore_n (i := 2) (lv' := [some (.ref (jm_a E t 0)), some (.int p1), some (.int s1.2), some (.int s1.2)]) F dX7_firstTitleFrom_45 rfl (by decide) rfl rfl ?_
              refine jm_iinc (i := 3) (lv' := [some (.ref (jm_a E t 0)), some (.int p1), some (.int s1.2), some (.int (s1.2 + 1))]) F dX7_firstTitleFrom_46 kc_1 rfl (by decide) rfl rfl ?_
              refine jm_goto F dX7_firstTitleFrom_49 ?_
              exact jm_weakD F (lv' := [some (.ref (jm_a E t 0)), some (.int p1), some (.int s1.2), some (.int (s1.2 + 1))]) ⟨rfl, rfl, rfl, rfl, trivial⟩ (fun h => h)
    · refine jm_iload_n (i := 2) F dX7_firstTitleFrom_52 rfl rfl ?_
      exact jm_iret F dX7_firstTitleFrom_53 (fun h => h)
  exact G r h hz
theorem dX8_titles_0 : jm_d cX8_titles 0 (.aload_n 0) 1 1 := ⟨by decide +kernel, rfl⟩
theorem dX8_titles_1 : jm_d cX8_titles 1 (.getfield 10) 3 4 := ⟨by decide +kernel, rfl⟩
theorem dX8_titles_4 : jm_d cX8_titles 4 (.iload_n 1) 1 5 := ⟨by decide +kernel, rfl⟩
theorem dX8_titles_5 : jm_d cX8_titles 5 (.invokevirtual 133) 3 8 := ⟨by decide +kernel, rfl⟩
theorem dX8_titles_8 : jm_b cX8_titles 8 (.ifCond .ne) 11 17 := ⟨9, by decide +kernel, rfl, by decide⟩
theorem dX8_titles_11 : jm_d cX8_titles 11 (.aload_n 0) 1 12 := ⟨by decide +kernel, rfl⟩
theorem dX8_titles_12 : jm_d cX8_titles 12 (.iconst (-1)) 1 13 := ⟨by decide +kernel, rfl⟩
theorem dX8_titles_13 : jm_d cX8_titles 13 (.invokevirtual 64) 3 16 := ⟨by decide +kernel, rfl⟩
theorem dX8_titles_16 : jm_d cX8_titles 16 (.ireturn) 1 17 := ⟨by decide +kernel, rfl⟩
theorem dX8_titles_17 : jm_d cX8_titles 17 (.iload_n 2) 1 18 := ⟨by decide +kernel, rfl⟩
theorem dX8_titles_18 : decode cX8_titles 18 = .ok (.lookupswitch 54 #[(0, 26), (1, 35)], 26) := by decide +kernel
theorem dX8_titles_44 : jm_d cX8_titles 44 (.aload_n 0) 1 45 := ⟨by decide +kernel, rfl⟩
theorem dX8_titles_45 : jm_d cX8_titles 45 (.getfield 10) 3 48 := ⟨by decide +kernel, rfl⟩
theorem dX8_titles_48 : jm_d cX8_titles 48 (.iload_n 1) 1 49 := ⟨by decide +kernel, rfl⟩
theorem dX8_titles_49 : jm_d cX8_titles 49 (.invokevirtual 290) 3 52 := ⟨by decide +kernel, rfl⟩
theorem dX8_titles_52 : jm_d cX8_titles 52 (.ireturn) 1 53 := ⟨by decide +kernel, rfl⟩
theorem dX8_titles_53 : jm_d cX8_titles 53 (.aload_n 0) 1 54 := ⟨by decide +kernel, rfl⟩
theorem dX8_titles_54 : jm_d cX8_titles 54 (.getfield 10) 3 57 := ⟨by decide +kernel, rfl⟩
theorem dX8_titles_57 : jm_d cX8_titles 57 (.aload_n 0) 1 58 := ⟨by decide +kernel, rfl⟩
theorem dX8_titles_58 : jm_d cX8_titles 58 (.getfield 10) 3 61 := ⟨by decide +kernel, rfl⟩
theorem dX8_titles_61 : jm_d cX8_titles 61 (.getfield 151) 3 64 := ⟨by decide +kernel, rfl⟩
theorem dX8_titles_64 : jm_d cX8_titles 64 (.iload_n 1) 1 65 := ⟨by decide +kernel, rfl⟩
theorem dX8_titles_65 : jm_d cX8_titles 65 (.iaload) 1 66 := ⟨by decide +kernel, rfl⟩
theorem dX8_titles_66 : jm_d cX8_titles 66 (.iconst 1) 1 67 := ⟨by decide +kernel, rfl⟩
theorem dX8_titles_67 : jm_d cX8_titles 67 (.iadd) 1 68 := ⟨by decide +kernel, rfl⟩
theorem dX8_titles_68 : jm_d cX8_titles 68 (.invokevirtual 293) 3 71 := ⟨by decide +kernel, rfl⟩
theorem dX8_titles_71 : jm_d cX8_titles 71 (.ireturn) 1 72 := ⟨by decide +kernel, rfl⟩
theorem dX8_titles_72 : jm_d cX8_titles 72 (.aload_n 0) 1 73 := ⟨by decide +kernel, rfl⟩
theorem dX8_titles_73 : jm_d cX8_titles 73 (.bipush (-2)) 2 75 := ⟨by decide +kernel, rfl⟩
theorem dX8_titles_75 : jm_d cX8_titles 75 (.invokevirtual 64) 3 78 := ⟨by decide +kernel, rfl⟩
theorem dX8_titles_78 : jm_d cX8_titles 78 (.ireturn) 1 79 := ⟨by decide +kernel, rfl⟩
set_option maxHeartbeats 4000000 in
set_option maxRecDepth 100000 in
theorem kW_titles (E : jm_Ev) (hE : jm_dj E jm_LC) {M : jm_M} {p1 : Int32} {p2 : Int32}  {r : Int32 × jm_M} (h : sW_titles M p1 p2 = some r) : jm_Ct E jm_LC yX8_titles cX8_titles 3 (some .int) 1 23 [.ref (jm_a E 0 0), .int p1, .int p2] M (some (.int r.1)) r.2 := by
  refine jm_enter (lv := [some (.ref (jm_a E 0 0)), some (.int p1), some (.int p2)]) hE (by decide) (Nat.le_of_ble_eq_true rfl) rfl ?_
  intro z w F hz
  have G : jm_G w 0 [some (.ref (jm_a E 0 0)), some (.int p1), some (.int p2)] [] M (sW_titles M p1 p2) (fun e => z (some (.int e.1)) e.2) := by
    unfold sW_titles
    refine jm_aload_n (i := 0) F dX8_titles_0 rfl rfl ?_
    refine jm_getR F dX8_titles_1 fl_X8_10 lo_X8 rfl ?_
    refine jm_iload_n (i := 1) F dX8_titles_4 rfl rfl ?_
    refine jm_callV (As := [.int p1]) (st := []) (rv := fun r => some (.int r)) (mm := fun _ => M) F dX8_titles_5 qX8_133 rfl (lo_T isT_1) rfl (fun r h => kT_hasBook E hE isT_1 h) rfl (Nat.le_of_ble_eq_true rfl) ⟨Nat.le_of_ble_eq_true rfl, Nat.le_of_ble_eq_true rfl⟩ (fun r1 => ?_)
    refine jm_if_ne F dX8_titles_8 (fun c2 => ?_) (fun c2 => ?_)
    · refine jm_aload_n (i := 0) F dX8_titles_11 rfl rfl ?_
      refine jm_iconst F dX8_titles_12 kc_m1 ?_
      refine jm_callV (As := [.int (-1)]) (st := []) (rv := fun r => some (.int r.1)) (mm := fun r => r.2) F dX8_titles_13 qX8_64 rfl lo_X8 rfl (fun r h => kW_refuse E hE h) rfl (Nat.le_of_ble_eq_true rfl) ⟨Nat.le_of_ble_eq_true rfl, Nat.le_of_ble_eq_true rfl⟩ (fun r3 => ?_)
      exact jm_iret F dX8_titles_16 (fun h => h)
    · refine jm_iload_n (i := 2) F dX8_titles_17 rfl rfl ?_
      refine jm_ite (fun c4 => ?_) (fun c4 => ?_)
      · refine jm_lsw (off := 26) (tgt := 44) F dX8_titles_18 (by decide) (by rw [c4]; decide) (by decide) ?_
        refine jm_aload_n (i := 0) F dX8_titles_44 rfl rfl ?_
        refine jm_getR F dX8_titles_45 fl_X8_10 lo_X8 rfl ?_
        refine jm_iload_n (i := 1) F dX8_titles_48 rfl rfl ?_
        refine jm_callV (As := [.int p1]) (st := []) (rv := fun r => some (.int r)) (mm := fun _ => M) F dX8_titles_49 qX8_290 rfl (lo_T isT_1) rfl (fun r h => kT_rankOf E hE isT_1 h) rfl (Nat.le_of_ble_eq_true rfl) ⟨Nat.le_of_ble_eq_true rfl, Nat.le_of_ble_eq_true rfl⟩ (fun r5 => ?_)
        exact jm_iret F dX8_titles_52 (fun h => h)
      · refine jm_ite (fun c6 => ?_) (fun c6 => ?_)
        · refine jm_lsw (off := 35) (tgt := 53) F dX8_titles_18 (by decide) (by rw [c6]; decide) (by decide) ?_
          refine jm_aload_n (i := 0) F dX8_titles_53 rfl rfl ?_
          refine jm_getR F dX8_titles_54 fl_X8_10 lo_X8 rfl ?_
          refine jm_aload_n (i := 0) F dX8_titles_57 rfl rfl ?_
          refine jm_getR F dX8_titles_58 fl_X8_10 lo_X8 rfl ?_
          refine jm_getR F dX8_titles_61 fl_X8_151 (lo_T isT_1) rfl ?_
          refine jm_iload_n (i := 1) F dX8_titles_64 rfl rfl ?_
          refine jm_iald F dX8_titles_65 (la_T_11 isT_1) (fun v7 => ?_)
          refine jm_iconst F dX8_titles_66 kc_1 ?_
          refine jm_iadd F dX8_titles_67 ?_
          refine jm_callV (As := [.int (v7 + 1)]) (st := []) (rv := fun r => some (.int r)) (mm := fun _ => M) F dX8_titles_68 qX8_293 rfl (lo_T isT_1) rfl (fun r h => kT_firstTitleFrom E hE isT_1 h) rfl (Nat.le_of_ble_eq_true rfl) ⟨Nat.le_of_ble_eq_true rfl, Nat.le_of_ble_eq_true rfl⟩ (fun r8 => ?_)
          exact jm_iret F dX8_titles_71 (fun h => h)
        · refine jm_lsw (off := 54) (tgt := 72) F dX8_titles_18 (by decide) ((lv_osw c4 (by decide)).trans ((lv_osw c6 (by decide)).trans rfl)) (by decide) ?_
          refine jm_aload_n (i := 0) F dX8_titles_72 rfl rfl ?_
          refine jm_bipush F dX8_titles_73 kb_m2 ?_
          refine jm_callV (As := [.int (-2)]) (st := []) (rv := fun r => some (.int r.1)) (mm := fun r => r.2) F dX8_titles_75 qX8_64 rfl lo_X8 rfl (fun r h => kW_refuse E hE h) rfl (Nat.le_of_ble_eq_true rfl) ⟨Nat.le_of_ble_eq_true rfl, Nat.le_of_ble_eq_true rfl⟩ (fun r9 => ?_)
          exact jm_iret F dX8_titles_78 (fun h => h)
  exact G r h hz
theorem dX8_from_0 : jm_d cX8_from 0 (.iload_n 1) 1 1 := ⟨by decide +kernel, rfl⟩
theorem dX8_from_1 : jm_b cX8_from 1 (.ifCond .ge) 4 11 := ⟨10, by decide +kernel, rfl, by decide⟩
theorem dX8_from_11 : jm_d cX8_from 11 (.iload_n 1) 1 12 := ⟨by decide +kernel, rfl⟩
theorem dX8_from_12 : jm_d cX8_from 12 (.bipush 25) 2 14 := ⟨by decide +kernel, rfl⟩
theorem dX8_from_14 : jm_b cX8_from 14 (.if_icmp .le) 17 24 := ⟨10, by decide +kernel, rfl, by decide⟩
theorem dX8_from_24 : jm_d cX8_from 24 (.aload_n 0) 1 25 := ⟨by decide +kernel, rfl⟩
theorem dX8_from_25 : jm_d cX8_from 25 (.getfield 10) 3 28 := ⟨by decide +kernel, rfl⟩
theorem dX8_from_28 : jm_d cX8_from 28 (.iload_n 1) 1 29 := ⟨by decide +kernel, rfl⟩
theorem dX8_from_29 : jm_d cX8_from 29 (.invokestatic 96) 3 32 := ⟨by decide +kernel, rfl⟩
theorem dX8_from_32 : jm_d cX8_from 32 (.invokevirtual 293) 3 35 := ⟨by decide +kernel, rfl⟩
theorem dX8_from_35 : jm_d cX8_from 35 (.ireturn) 1 36 := ⟨by decide +kernel, rfl⟩
theorem dX8_from_17 : jm_d cX8_from 17 (.aload_n 0) 1 18 := ⟨by decide +kernel, rfl⟩
theorem dX8_from_18 : jm_d cX8_from 18 (.bipush (-6)) 2 20 := ⟨by decide +kernel, rfl⟩
theorem dX8_from_20 : jm_d cX8_from 20 (.invokevirtual 64) 3 23 := ⟨by decide +kernel, rfl⟩
theorem dX8_from_23 : jm_d cX8_from 23 (.ireturn) 1 24 := ⟨by decide +kernel, rfl⟩
theorem dX8_from_4 : jm_d cX8_from 4 (.aload_n 0) 1 5 := ⟨by decide +kernel, rfl⟩
theorem dX8_from_5 : jm_d cX8_from 5 (.bipush (-4)) 2 7 := ⟨by decide +kernel, rfl⟩
theorem dX8_from_7 : jm_d cX8_from 7 (.invokevirtual 64) 3 10 := ⟨by decide +kernel, rfl⟩
theorem dX8_from_10 : jm_d cX8_from 10 (.ireturn) 1 11 := ⟨by decide +kernel, rfl⟩
set_option maxHeartbeats 4000000 in
set_option maxRecDepth 100000 in
theorem kW_from (E : jm_Ev) (hE : jm_dj E jm_LC) {M : jm_M} {p1 : Int32}  {r : Int32 × jm_M} (h : sW_from M p1 = some r) : jm_Ct E jm_LC yX8_from cX8_from 2 (some .int) 2 44 [.ref (jm_a E 0 0), .int p1] M (some (.int r.1)) r.2 := by
  refine jm_enter (lv := [some (.ref (jm_a E 0 0)), some (.int p1)]) hE (by decide) (Nat.le_of_ble_eq_true rfl) rfl ?_
  intro z w F hz
  have G : jm_G w 0 [some (.ref (jm_a E 0 0)), some (.int p1)] [] M (sW_from M p1) (fun e => z (some (.int e.1)) e.2) := by
    unfold sW_from
    refine jm_iload_n (i := 1) F dX8_from_0 rfl rfl ?_
    refine jm_if_ge F dX8_from_1 (fun c1 => ?_) (fun c1 => ?_)
    · refine jm_iload_n (i := 1) F dX8_from_11 rfl rfl ?_
      refine jm_bipush F dX8_from_12 kb_25 ?_
      refine jm_icmp_le F dX8_from_14 (fun c2 => ?_) (fun c2 => ?_)
      · refine jm_aload_n (i := 0) F dX8_from_24 rfl rfl ?_
        refine jm_getR F dX8_from_25 fl_X8_10 lo_X8 rfl ?_
        refine jm_iload_n (i := 1) F dX8_from_28 rfl rfl ?_
        refine jm_callS (As := [.int p1]) (st := [.ref (jm_a E 1 0)]) (rv := fun r => some (.int r)) (mm := fun _ => M) F dX8_from_29 qX8_96 rfl (fun r h => kI_ofLetter E hE h) rfl (Nat.le_of_ble_eq_true rfl) ⟨Nat.le_of_ble_eq_true rfl, Nat.le_of_ble_eq_true rfl⟩ (fun r3 => ?_)
        refine jm_callV (As := [.int r3]) (st := []) (rv := fun r => some (.int r)) (mm := fun _ => M) F dX8_from_32 qX8_293 rfl (lo_T isT_1) rfl (fun r h => kT_firstTitleFrom E hE isT_1 h) rfl (Nat.le_of_ble_eq_true rfl) ⟨Nat.le_of_ble_eq_true rfl, Nat.le_of_ble_eq_true rfl⟩ (fun r4 => ?_)
        exact jm_iret F dX8_from_35 (fun h => h)
      · refine jm_aload_n (i := 0) F dX8_from_17 rfl rfl ?_
        refine jm_bipush F dX8_from_18 kb_m6 ?_
        refine jm_callV (As := [.int (-6)]) (st := []) (rv := fun r => some (.int r.1)) (mm := fun r => r.2) F dX8_from_20 qX8_64 rfl lo_X8 rfl (fun r h => kW_refuse E hE h) rfl (Nat.le_of_ble_eq_true rfl) ⟨Nat.le_of_ble_eq_true rfl, Nat.le_of_ble_eq_true rfl⟩ (fun r5 => ?_)
        exact jm_iret F dX8_from_23 (fun h => h)
    · refine jm_aload_n (i := 0) F dX8_from_4 rfl rfl ?_
      refine jm_bipush F dX8_from_5 kb_m4 ?_
      refine jm_callV (As := [.int (-4)]) (st := []) (rv := fun r => some (.int r.1)) (mm := fun r => r.2) F dX8_from_7 qX8_64 rfl lo_X8 rfl (fun r h => kW_refuse E hE h) rfl (Nat.le_of_ble_eq_true rfl) ⟨Nat.le_of_ble_eq_true rfl, Nat.le_of_ble_eq_true rfl⟩ (fun r6 => ?_)
      exact jm_iret F dX8_from_10 (fun h => h)
  exact G r h hz
theorem dX7_kindsHeldBy_0 : jm_d cX7_kindsHeldBy 0 (.iconst 0) 1 1 := ⟨by decide +kernel, rfl⟩
theorem dX7_kindsHeldBy_1 : jm_d cX7_kindsHeldBy 1 (.istore_n 2) 1 2 := ⟨by decide +kernel, rfl⟩
theorem dX7_kindsHeldBy_2 : jm_d cX7_kindsHeldBy 2 (.iconst 0) 1 3 := ⟨by decide +kernel, rfl⟩
theorem dX7_kindsHeldBy_3 : jm_d cX7_kindsHeldBy 3 (.istore_n 3) 1 4 := ⟨by decide +kernel, rfl⟩
theorem dX7_kindsHeldBy_4 : jm_d cX7_kindsHeldBy 4 (.iload_n 3) 1 5 := ⟨by decide +kernel, rfl⟩
theorem dX7_kindsHeldBy_5 : jm_d cX7_kindsHeldBy 5 (.aload_n 0) 1 6 := ⟨by decide +kernel, rfl⟩
theorem dX7_kindsHeldBy_6 : jm_d cX7_kindsHeldBy 6 (.getfield 55) 3 9 := ⟨by decide +kernel, rfl⟩
theorem dX7_kindsHeldBy_9 : jm_b cX7_kindsHeldBy 9 (.if_icmp .ge) 12 39 := ⟨30, by decide +kernel, rfl, by decide⟩
theorem dX7_kindsHeldBy_12 : jm_d cX7_kindsHeldBy 12 (.aload_n 0) 1 13 := ⟨by decide +kernel, rfl⟩
theorem dX7_kindsHeldBy_13 : jm_d cX7_kindsHeldBy 13 (.getfield 30) 3 16 := ⟨by decide +kernel, rfl⟩
theorem dX7_kindsHeldBy_16 : jm_d cX7_kindsHeldBy 16 (.iload_n 3) 1 17 := ⟨by decide +kernel, rfl⟩
theorem dX7_kindsHeldBy_17 : jm_d cX7_kindsHeldBy 17 (.iaload) 1 18 := ⟨by decide +kernel, rfl⟩
theorem dX7_kindsHeldBy_18 : jm_d cX7_kindsHeldBy 18 (.iload_n 1) 1 19 := ⟨by decide +kernel, rfl⟩
theorem dX7_kindsHeldBy_19 : jm_b cX7_kindsHeldBy 19 (.if_icmp .ne) 22 33 := ⟨14, by decide +kernel, rfl, by decide⟩
theorem dX7_kindsHeldBy_22 : jm_d cX7_kindsHeldBy 22 (.iload_n 2) 1 23 := ⟨by decide +kernel, rfl⟩
theorem dX7_kindsHeldBy_23 : jm_d cX7_kindsHeldBy 23 (.iconst 1) 1 24 := ⟨by decide +kernel, rfl⟩
theorem dX7_kindsHeldBy_24 : jm_d cX7_kindsHeldBy 24 (.aload_n 0) 1 25 := ⟨by decide +kernel, rfl⟩
theorem dX7_kindsHeldBy_25 : jm_d cX7_kindsHeldBy 25 (.getfield 21) 3 28 := ⟨by decide +kernel, rfl⟩
theorem dX7_kindsHeldBy_28 : jm_d cX7_kindsHeldBy 28 (.iload_n 3) 1 29 := ⟨by decide +kernel, rfl⟩
theorem dX7_kindsHeldBy_29 : jm_d cX7_kindsHeldBy 29 (.iaload) 1 30 := ⟨by decide +kernel, rfl⟩
theorem dX7_kindsHeldBy_30 : jm_d cX7_kindsHeldBy 30 (.ishl) 1 31 := ⟨by decide +kernel, rfl⟩
theorem dX7_kindsHeldBy_31 : jm_d cX7_kindsHeldBy 31 (.ior) 1 32 := ⟨by decide +kernel, rfl⟩
theorem dX7_kindsHeldBy_32 : jm_d cX7_kindsHeldBy 32 (.istore_n 2) 1 33 := ⟨by decide +kernel, rfl⟩
theorem dX7_kindsHeldBy_33 : jm_d cX7_kindsHeldBy 33 (.iinc 3 1) 3 36 := ⟨by decide +kernel, rfl⟩
theorem dX7_kindsHeldBy_36 : jm_b cX7_kindsHeldBy 36 .goto 39 4 := ⟨(-32), by decide +kernel, rfl, by decide⟩
theorem dX7_kindsHeldBy_39 : jm_d cX7_kindsHeldBy 39 (.iload_n 2) 1 40 := ⟨by decide +kernel, rfl⟩
theorem dX7_kindsHeldBy_40 : jm_d cX7_kindsHeldBy 40 (.ireturn) 1 41 := ⟨by decide +kernel, rfl⟩
set_option maxHeartbeats 4000000 in
set_option maxRecDepth 100000 in
theorem kT_kindsHeldBy (E : jm_Ev) (hE : jm_dj E jm_LC) {M : jm_M} {t : Nat} {p1 : Int32} (ht : jm_isT t) {r : Int32} (h : sT_kindsHeldBy M t p1 = some r) : jm_Ct E jm_LC yX7_kindsHeldBy cX7_kindsHeldBy 4 (some .int) 0 0 [.ref (jm_a E t 0), .int p1] M (some (.int r)) M := by
  refine jm_enter (lv := [some (.ref (jm_a E t 0)), some (.int p1), none, none]) hE (by decide) (Nat.le_of_ble_eq_true rfl) rfl ?_
  intro z w F hz
  have G : jm_G w 0 [some (.ref (jm_a E t 0)), some (.int p1), none, none] [] M (sT_kindsHeldBy M t p1) (fun e => z (some (.int e)) M) := by
    unfold sT_kindsHeldBy
    refine jm_iconst F dX7_kindsHeldBy_0 kc_0 ?_
    refine jm_istore_n (i := 2) (lv' := [some (.ref (jm_a E t 0)), some (.int p1), some (.int 0), none]) F dX7_kindsHeldBy_1 rfl (by decide) rfl rfl ?_
    refine jm_iconst F dX7_kindsHeldBy_2 kc_0 ?_
    refine jm_istore_n (i := 3) (lv' := [some (.ref (jm_a E t 0)), some (.int p1), some (.int 0), some (.int 0)]) F dX7_kindsHeldBy_3 rfl (by decide) rfl rfl ?_
    refine jm_bind (pcJ := 39) (lvJ := fun e7 => [none, none, some (.int e7), none]) (stJ := fun _ => []) (MJ := fun e7 => M) ?_ (fun e7 => ?_)
    · refine jm_weak F (lv' := [some (.ref (jm_a E t 0)), some (.int p1), some (.int 0), some (.int 0)]) ⟨rfl, rfl, rfl, rfl, trivial⟩ ?_
      refine jm_loopR (lvH := fun s1 => [some (.ref (jm_a E t 0)), some (.int p1), some (.int s1.1), some (.int s1.2)]) (MH := fun s1 => M) (fun s1 => ?_) jm_N (0, 0)
      unfold sT_kindsHeldBy_L4
      refine jm_iload_n (i := 3) F dX7_kindsHeldBy_4 rfl rfl ?_
      refine jm_aload_n (i := 0) F dX7_kindsHeldBy_5 rfl rfl ?_
      refine jm_getI F dX7_kindsHeldBy_6 fl_X7_55 (lo_T ht) rfl ?_
      refine jm_icmp_ge F dX7_kindsHeldBy_9 (fun c2 => ?_) (fun c2 => ?_)
      · exact jm_weakD F (lv' := [none, none, some (.int s1.1), none]) ⟨rfl, trivial⟩ (fun h => h)
      · refine jm_aload_n (i := 0) F dX7_kindsHeldBy_12 rfl rfl ?_
        refine jm_getR F dX7_kindsHeldBy_13 fl_X7_30 (lo_T ht) rfl ?_
        refine jm_iload_n (i := 3) F dX7_kindsHeldBy_16 rfl rfl ?_
        refine jm_iald F dX7_kindsHeldBy_17 (la_T_9 ht) (fun v3 => ?_)
        refine jm_iload_n (i := 1) F dX7_kindsHeldBy_18 rfl rfl ?_
        refine jm_icmp_ne F dX7_kindsHeldBy_19 (fun c4 => ?_) (fun c4 => ?_)
        · refine jm_iload_n (i := 2) F dX7_kindsHeldBy_22 rfl rfl ?_
          refine jm_iconst F dX7_kindsHeldBy_23 kc_1 ?_
          refine jm_aload_n (i := 0) F dX7_kindsHeldBy_24 rfl rfl ?_
          refine jm_getR F dX7_kindsHeldBy_25 fl_X7_21 (lo_T ht) rfl ?_
          refine jm_iload_n (i := 3) F dX7_kindsHeldBy_28 rfl rfl ?_
          refine jm_iald F dX7_kindsHeldBy_29 (la_T_6 ht) (fun v5 => ?_)
          refine jm_ishl F dX7_kindsHeldBy_30 ?_
          refine jm_ior F dX7_kindsHeldBy_31 ?_
          refine jm_nameI (f := fun x6 => [.int x6]) (fun x6 => ?_) rfl
          refine jm_istore_n (i := 2) (lv' := [some (.ref (jm_a E t 0)), some (.int p1), some (.int x6), some (.int s1.2)]) F dX7_kindsHeldBy_32 rfl (by decide) rfl rfl ?_
          refine jm_iinc (i := 3) (lv' := [some (.ref (jm_a E t 0)), some (.int p1), some (.int x6), some (.int (s1.2 + 1))]) F dX7_kindsHeldBy_33 kc_1 rfl (by decide) rfl rfl ?_
          refine jm_goto F dX7_kindsHeldBy_36 ?_
          exact jm_weakD F (lv' := [some (.ref (jm_a E t 0)), some (.int p1), some (.int x6), some (.int (s1.2 + 1))]) ⟨rfl, rfl, rfl, rfl, trivial⟩ (fun h => h)
        · refine jm_iinc (i := 3) (lv' := [some (.ref (jm_a E t 0)), some (.int p1), some (.int s1.1), some (.int (s1.2 + 1))]) F dX7_kindsHeldBy_33 kc_1 rfl (by decide) rfl rfl ?_
          refine jm_goto F dX7_kindsHeldBy_36 ?_
          exact jm_weakD F (lv' := [some (.ref (jm_a E t 0)), some (.int p1), some (.int s1.1), some (.int (s1.2 + 1))]) ⟨rfl, rfl, rfl, rfl, trivial⟩ (fun h => h)
    · refine jm_iload_n (i := 2) F dX7_kindsHeldBy_39 rfl rfl ?_
      exact jm_iret F dX7_kindsHeldBy_40 (fun h => h)
  exact G r h hz
theorem dX7_pricesHeldBy_0 : jm_d cX7_pricesHeldBy 0 (.iconst 0) 1 1 := ⟨by decide +kernel, rfl⟩
theorem dX7_pricesHeldBy_1 : jm_d cX7_pricesHeldBy 1 (.istore_n 2) 1 2 := ⟨by decide +kernel, rfl⟩
theorem dX7_pricesHeldBy_2 : jm_d cX7_pricesHeldBy 2 (.iconst 0) 1 3 := ⟨by decide +kernel, rfl⟩
theorem dX7_pricesHeldBy_3 : jm_d cX7_pricesHeldBy 3 (.istore_n 3) 1 4 := ⟨by decide +kernel, rfl⟩
theorem dX7_pricesHeldBy_4 : jm_d cX7_pricesHeldBy 4 (.iload_n 3) 1 5 := ⟨by decide +kernel, rfl⟩
theorem dX7_pricesHeldBy_5 : jm_d cX7_pricesHeldBy 5 (.aload_n 0) 1 6 := ⟨by decide +kernel, rfl⟩
theorem dX7_pricesHeldBy_6 : jm_d cX7_pricesHeldBy 6 (.getfield 55) 3 9 := ⟨by decide +kernel, rfl⟩
theorem dX7_pricesHeldBy_9 : jm_b cX7_pricesHeldBy 9 (.if_icmp .ge) 12 36 := ⟨27, by decide +kernel, rfl, by decide⟩
theorem dX7_pricesHeldBy_12 : jm_d cX7_pricesHeldBy 12 (.aload_n 0) 1 13 := ⟨by decide +kernel, rfl⟩
theorem dX7_pricesHeldBy_13 : jm_d cX7_pricesHeldBy 13 (.getfield 30) 3 16 := ⟨by decide +kernel, rfl⟩
theorem dX7_pricesHeldBy_16 : jm_d cX7_pricesHeldBy 16 (.iload_n 3) 1 17 := ⟨by decide +kernel, rfl⟩
theorem dX7_pricesHeldBy_17 : jm_d cX7_pricesHeldBy 17 (.iaload) 1 18 := ⟨by decide +kernel, rfl⟩
theorem dX7_pricesHeldBy_18 : jm_d cX7_pricesHeldBy 18 (.iload_n 1) 1 19 := ⟨by decide +kernel, rfl⟩
theorem dX7_pricesHeldBy_19 : jm_b cX7_pricesHeldBy 19 (.if_icmp .ne) 22 30 := ⟨11, by decide +kernel, rfl, by decide⟩
theorem dX7_pricesHeldBy_22 : jm_d cX7_pricesHeldBy 22 (.iload_n 2) 1 23 := ⟨by decide +kernel, rfl⟩
theorem dX7_pricesHeldBy_23 : jm_d cX7_pricesHeldBy 23 (.aload_n 0) 1 24 := ⟨by decide +kernel, rfl⟩
theorem dX7_pricesHeldBy_24 : jm_d cX7_pricesHeldBy 24 (.iload_n 3) 1 25 := ⟨by decide +kernel, rfl⟩
theorem dX7_pricesHeldBy_25 : jm_d cX7_pricesHeldBy 25 (.invokevirtual 126) 3 28 := ⟨by decide +kernel, rfl⟩
theorem dX7_pricesHeldBy_28 : jm_d cX7_pricesHeldBy 28 (.iadd) 1 29 := ⟨by decide +kernel, rfl⟩
theorem dX7_pricesHeldBy_29 : jm_d cX7_pricesHeldBy 29 (.istore_n 2) 1 30 := ⟨by decide +kernel, rfl⟩
theorem dX7_pricesHeldBy_30 : jm_d cX7_pricesHeldBy 30 (.iinc 3 1) 3 33 := ⟨by decide +kernel, rfl⟩
theorem dX7_pricesHeldBy_33 : jm_b cX7_pricesHeldBy 33 .goto 36 4 := ⟨(-29), by decide +kernel, rfl, by decide⟩
theorem dX7_pricesHeldBy_36 : jm_d cX7_pricesHeldBy 36 (.iload_n 2) 1 37 := ⟨by decide +kernel, rfl⟩
theorem dX7_pricesHeldBy_37 : jm_d cX7_pricesHeldBy 37 (.ireturn) 1 38 := ⟨by decide +kernel, rfl⟩
set_option maxHeartbeats 4000000 in
set_option maxRecDepth 100000 in
theorem kT_pricesHeldBy (E : jm_Ev) (hE : jm_dj E jm_LC) {M : jm_M} {t : Nat} {p1 : Int32} (ht : jm_isT t) {r : Int32} (h : sT_pricesHeldBy M t p1 = some r) : jm_Ct E jm_LC yX7_pricesHeldBy cX7_pricesHeldBy 4 (some .int) 2 65 [.ref (jm_a E t 0), .int p1] M (some (.int r)) M := by
  refine jm_enter (lv := [some (.ref (jm_a E t 0)), some (.int p1), none, none]) hE (by decide) (Nat.le_of_ble_eq_true rfl) rfl ?_
  intro z w F hz
  have G : jm_G w 0 [some (.ref (jm_a E t 0)), some (.int p1), none, none] [] M (sT_pricesHeldBy M t p1) (fun e => z (some (.int e)) M) := by
    unfold sT_pricesHeldBy
    refine jm_iconst F dX7_pricesHeldBy_0 kc_0 ?_
    refine jm_istore_n (i := 2) (lv' := [some (.ref (jm_a E t 0)), some (.int p1), some (.int 0), none]) F dX7_pricesHeldBy_1 rfl (by decide) rfl rfl ?_
    refine jm_iconst F dX7_pricesHeldBy_2 kc_0 ?_
    refine jm_istore_n (i := 3) (lv' := [some (.ref (jm_a E t 0)), some (.int p1), some (.int 0), some (.int 0)]) F dX7_pricesHeldBy_3 rfl (by decide) rfl rfl ?_
    refine jm_bind (pcJ := 36) (lvJ := fun e7 => [none, none, some (.int e7), none]) (stJ := fun _ => []) (MJ := fun e7 => M) ?_ (fun e7 => ?_)
    · refine jm_weak F (lv' := [some (.ref (jm_a E t 0)), some (.int p1), some (.int 0), some (.int 0)]) ⟨rfl, rfl, rfl, rfl, trivial⟩ ?_
      refine jm_loopR (lvH := fun s1 => [some (.ref (jm_a E t 0)), some (.int p1), some (.int s1.1), some (.int s1.2)]) (MH := fun s1 => M) (fun s1 => ?_) jm_N (0, 0)
      unfold sT_pricesHeldBy_L4
      refine jm_iload_n (i := 3) F dX7_pricesHeldBy_4 rfl rfl ?_
      refine jm_aload_n (i := 0) F dX7_pricesHeldBy_5 rfl rfl ?_
      refine jm_getI F dX7_pricesHeldBy_6 fl_X7_55 (lo_T ht) rfl ?_
      refine jm_icmp_ge F dX7_pricesHeldBy_9 (fun c2 => ?_) (fun c2 => ?_)
      · exact jm_weakD F (lv' := [none, none, some (.int s1.1), none]) ⟨rfl, trivial⟩ (fun h => h)
      · refine jm_aload_n (i := 0) F dX7_pricesHeldBy_12 rfl rfl ?_
        refine jm_getR F dX7_pricesHeldBy_13 fl_X7_30 (lo_T ht) rfl ?_
        refine jm_iload_n (i := 3) F dX7_pricesHeldBy_16 rfl rfl ?_
        refine jm_iald F dX7_pricesHeldBy_17 (la_T_9 ht) (fun v3 => ?_)
        refine jm_iload_n (i := 1) F dX7_pricesHeldBy_18 rfl rfl ?_
        refine jm_icmp_ne F dX7_pricesHeldBy_19 (fun c4 => ?_) (fun c4 => ?_)
        · refine jm_iload_n (i := 2) F dX7_pricesHeldBy_22 rfl rfl ?_
          refine jm_aload_n (i := 0) F dX7_pricesHeldBy_23 rfl rfl ?_
          refine jm_iload_n (i := 3) F dX7_pricesHeldBy_24 rfl rfl ?_
          refine jm_callV (As := [.int s1.2]) (st := [.int s1.1]) (rv := fun r => some (.int r)) (mm := fun _ => M) F dX7_pricesHeldBy_25 qX7_126 rfl (lo_T ht) rfl (fun r h => kT_priceOf E hE ht h) rfl (Nat.le_of_ble_eq_true rfl) ⟨Nat.le_of_ble_eq_true rfl, Nat.le_of_ble_eq_true rfl⟩ (fun r5 => ?_)
          refine jm_iadd F dX7_pricesHeldBy_28 ?_
          refine jm_nameI (f := fun x6 => [.int x6]) (fun x6 => ?_) rfl
          refine jm_istore_n (i := 2) (lv' := [some (.ref (jm_a E t 0)), some (.int p1), some (.int x6), some (.int s1.2)]) F dX7_pricesHeldBy_29 rfl (by decide) rfl rfl ?_
          refine jm_iinc (i := 3) (lv' := [some (.ref (jm_a E t 0)), some (.int p1), some (.int x6), some (.int (s1.2 + 1))]) F dX7_pricesHeldBy_30 kc_1 rfl (by decide) rfl rfl ?_
          refine jm_goto F dX7_pricesHeldBy_33 ?_
          exact jm_weakD F (lv' := [some (.ref (jm_a E t 0)), some (.int p1), some (.int x6), some (.int (s1.2 + 1))]) ⟨rfl, rfl, rfl, rfl, trivial⟩ (fun h => h)
        · refine jm_iinc (i := 3) (lv' := [some (.ref (jm_a E t 0)), some (.int p1), some (.int s1.1), some (.int (s1.2 + 1))]) F dX7_pricesHeldBy_30 kc_1 rfl (by decide) rfl rfl ?_
          refine jm_goto F dX7_pricesHeldBy_33 ?_
          exact jm_weakD F (lv' := [some (.ref (jm_a E t 0)), some (.int p1), some (.int s1.1), some (.int (s1.2 + 1))]) ⟨rfl, rfl, rfl, rfl, trivial⟩ (fun h => h)
    · refine jm_iload_n (i := 2) F dX7_pricesHeldBy_36 rfl rfl ?_
      exact jm_iret F dX7_pricesHeldBy_37 (fun h => h)
  exact G r h hz
theorem dX7_mostHeldKind_0 : jm_d cX7_mostHeldKind 0 (.iconst 0) 1 1 := ⟨by decide +kernel, rfl⟩
theorem dX7_mostHeldKind_1 : jm_d cX7_mostHeldKind 1 (.istore_n 2) 1 2 := ⟨by decide +kernel, rfl⟩
theorem dX7_mostHeldKind_2 : jm_d cX7_mostHeldKind 2 (.bipush (-9)) 2 4 := ⟨by decide +kernel, rfl⟩
theorem dX7_mostHeldKind_4 : jm_d cX7_mostHeldKind 4 (.istore_n 3) 1 5 := ⟨by decide +kernel, rfl⟩
theorem dX7_mostHeldKind_5 : jm_d cX7_mostHeldKind 5 (.iconst 0) 1 6 := ⟨by decide +kernel, rfl⟩
theorem dX7_mostHeldKind_6 : jm_d cX7_mostHeldKind 6 (.istore 4) 2 8 := ⟨by decide +kernel, rfl⟩
theorem dX7_mostHeldKind_8 : jm_d cX7_mostHeldKind 8 (.iload 4) 2 10 := ⟨by decide +kernel, rfl⟩
theorem dX7_mostHeldKind_10 : jm_d cX7_mostHeldKind 10 (.bipush 8) 2 12 := ⟨by decide +kernel, rfl⟩
theorem dX7_mostHeldKind_12 : jm_b cX7_mostHeldKind 12 (.if_icmp .ge) 15 80 := ⟨68, by decide +kernel, rfl, by decide⟩
theorem dX7_mostHeldKind_15 : jm_d cX7_mostHeldKind 15 (.iconst 0) 1 16 := ⟨by decide +kernel, rfl⟩
theorem dX7_mostHeldKind_16 : jm_d cX7_mostHeldKind 16 (.istore 5) 2 18 := ⟨by decide +kernel, rfl⟩
theorem dX7_mostHeldKind_18 : jm_d cX7_mostHeldKind 18 (.iconst 0) 1 19 := ⟨by decide +kernel, rfl⟩
theorem dX7_mostHeldKind_19 : jm_d cX7_mostHeldKind 19 (.istore 6) 2 21 := ⟨by decide +kernel, rfl⟩
theorem dX7_mostHeldKind_21 : jm_d cX7_mostHeldKind 21 (.iload 6) 2 23 := ⟨by decide +kernel, rfl⟩
theorem dX7_mostHeldKind_23 : jm_d cX7_mostHeldKind 23 (.aload_n 0) 1 24 := ⟨by decide +kernel, rfl⟩
theorem dX7_mostHeldKind_24 : jm_d cX7_mostHeldKind 24 (.getfield 55) 3 27 := ⟨by decide +kernel, rfl⟩
theorem dX7_mostHeldKind_27 : jm_b cX7_mostHeldKind 27 (.if_icmp .ge) 30 62 := ⟨35, by decide +kernel, rfl, by decide⟩
theorem dX7_mostHeldKind_30 : jm_d cX7_mostHeldKind 30 (.aload_n 0) 1 31 := ⟨by decide +kernel, rfl⟩
theorem dX7_mostHeldKind_31 : jm_d cX7_mostHeldKind 31 (.getfield 30) 3 34 := ⟨by decide +kernel, rfl⟩
theorem dX7_mostHeldKind_34 : jm_d cX7_mostHeldKind 34 (.iload 6) 2 36 := ⟨by decide +kernel, rfl⟩
theorem dX7_mostHeldKind_36 : jm_d cX7_mostHeldKind 36 (.iaload) 1 37 := ⟨by decide +kernel, rfl⟩
theorem dX7_mostHeldKind_37 : jm_d cX7_mostHeldKind 37 (.iload_n 1) 1 38 := ⟨by decide +kernel, rfl⟩
theorem dX7_mostHeldKind_38 : jm_b cX7_mostHeldKind 38 (.if_icmp .ne) 41 56 := ⟨18, by decide +kernel, rfl, by decide⟩
theorem dX7_mostHeldKind_41 : jm_d cX7_mostHeldKind 41 (.aload_n 0) 1 42 := ⟨by decide +kernel, rfl⟩
theorem dX7_mostHeldKind_42 : jm_d cX7_mostHeldKind 42 (.getfield 21) 3 45 := ⟨by decide +kernel, rfl⟩
theorem dX7_mostHeldKind_45 : jm_d cX7_mostHeldKind 45 (.iload 6) 2 47 := ⟨by decide +kernel, rfl⟩
theorem dX7_mostHeldKind_47 : jm_d cX7_mostHeldKind 47 (.iaload) 1 48 := ⟨by decide +kernel, rfl⟩
theorem dX7_mostHeldKind_48 : jm_d cX7_mostHeldKind 48 (.iload 4) 2 50 := ⟨by decide +kernel, rfl⟩
theorem dX7_mostHeldKind_50 : jm_b cX7_mostHeldKind 50 (.if_icmp .ne) 53 56 := ⟨6, by decide +kernel, rfl, by decide⟩
theorem dX7_mostHeldKind_53 : jm_d cX7_mostHeldKind 53 (.iinc 5 1) 3 56 := ⟨by decide +kernel, rfl⟩
theorem dX7_mostHeldKind_56 : jm_d cX7_mostHeldKind 56 (.iinc 6 1) 3 59 := ⟨by decide +kernel, rfl⟩
theorem dX7_mostHeldKind_59 : jm_b cX7_mostHeldKind 59 .goto 62 21 := ⟨(-38), by decide +kernel, rfl, by decide⟩
theorem dX7_mostHeldKind_62 : jm_d cX7_mostHeldKind 62 (.iload 5) 2 64 := ⟨by decide +kernel, rfl⟩
theorem dX7_mostHeldKind_64 : jm_d cX7_mostHeldKind 64 (.iload_n 2) 1 65 := ⟨by decide +kernel, rfl⟩
theorem dX7_mostHeldKind_65 : jm_b cX7_mostHeldKind 65 (.if_icmp .le) 68 74 := ⟨9, by decide +kernel, rfl, by decide⟩
theorem dX7_mostHeldKind_74 : jm_d cX7_mostHeldKind 74 (.iinc 4 1) 3 77 := ⟨by decide +kernel, rfl⟩
theorem dX7_mostHeldKind_77 : jm_b cX7_mostHeldKind 77 .goto 80 8 := ⟨(-69), by decide +kernel, rfl, by decide⟩
theorem dX7_mostHeldKind_68 : jm_d cX7_mostHeldKind 68 (.iload 5) 2 70 := ⟨by decide +kernel, rfl⟩
theorem dX7_mostHeldKind_70 : jm_d cX7_mostHeldKind 70 (.istore_n 2) 1 71 := ⟨by decide +kernel, rfl⟩
theorem dX7_mostHeldKind_71 : jm_d cX7_mostHeldKind 71 (.iload 4) 2 73 := ⟨by decide +kernel, rfl⟩
theorem dX7_mostHeldKind_73 : jm_d cX7_mostHeldKind 73 (.istore_n 3) 1 74 := ⟨by decide +kernel, rfl⟩
theorem dX7_mostHeldKind_80 : jm_d cX7_mostHeldKind 80 (.iload_n 3) 1 81 := ⟨by decide +kernel, rfl⟩
theorem dX7_mostHeldKind_81 : jm_d cX7_mostHeldKind 81 (.ireturn) 1 82 := ⟨by decide +kernel, rfl⟩
set_option maxHeartbeats 4000000 in
set_option maxRecDepth 100000 in
theorem kT_mostHeldKind (E : jm_Ev) (hE : jm_dj E jm_LC) {M : jm_M} {t : Nat} {p1 : Int32} (ht : jm_isT t) {r : Int32} (h : sT_mostHeldKind M t p1 = some r) : jm_Ct E jm_LC yX7_mostHeldKind cX7_mostHeldKind 7 (some .int) 0 0 [.ref (jm_a E t 0), .int p1] M (some (.int r)) M := by
  refine jm_enter (lv := [some (.ref (jm_a E t 0)), some (.int p1), none, none, none, none, none]) hE (by decide) (Nat.le_of_ble_eq_true rfl) rfl ?_
  intro z w F hz
  have G : jm_G w 0 [some (.ref (jm_a E t 0)), some (.int p1), none, none, none, none, none] [] M (sT_mostHeldKind M t p1) (fun e => z (some (.int e)) M) := by
    unfold sT_mostHeldKind
    refine jm_iconst F dX7_mostHeldKind_0 kc_0 ?_
    refine jm_istore_n (i := 2) (lv' := [some (.ref (jm_a E t 0)), some (.int p1), some (.int 0), none, none, none, none]) F dX7_mostHeldKind_1 rfl (by decide) rfl rfl ?_
    refine jm_bipush F dX7_mostHeldKind_2 kb_m9 ?_
    refine jm_istore_n (i := 3) (lv' := [some (.ref (jm_a E t 0)), some (.int p1), some (.int 0), some (.int (-9)), none, none, none]) F dX7_mostHeldKind_4 rfl (by decide) rfl rfl ?_
    refine jm_iconst F dX7_mostHeldKind_5 kc_0 ?_
    refine jm_istore (i := 4) (lv' := [some (.ref (jm_a E t 0)), some (.int p1), some (.int 0), some (.int (-9)), some (.int 0), none, none]) F dX7_mostHeldKind_6 (by decide) rfl rfl ?_
    refine jm_bind (pcJ := 80) (lvJ := fun e11 => [none, none, none, some (.int e11), none, none, none]) (stJ := fun _ => []) (MJ := fun e11 => M) ?_ (fun e11 => ?_)
    · refine jm_weak F (lv' := [some (.ref (jm_a E t 0)), some (.int p1), some (.int 0), some (.int (-9)), some (.int 0), none, none]) ⟨rfl, rfl, rfl, rfl, rfl, trivial⟩ ?_
      refine jm_loopR (lvH := fun s1 => [some (.ref (jm_a E t 0)), some (.int p1), some (.int s1.1), some (.int s1.2.1), some (.int s1.2.2), none, none]) (MH := fun s1 => M) (fun s1 => ?_) jm_N (0, (-9), 0)
      unfold sT_mostHeldKind_L8
      refine jm_iload F dX7_mostHeldKind_8 rfl ?_
      refine jm_bipush F dX7_mostHeldKind_10 kb_8 ?_
      refine jm_icmp_ge F dX7_mostHeldKind_12 (fun c2 => ?_) (fun c2 => ?_)
      · exact jm_weakD F (lv' := [none, none, none, some (.int s1.2.1), none, none, none]) ⟨rfl, trivial⟩ (fun h => h)
      · refine jm_iconst F dX7_mostHeldKind_15 kc_0 ?_
        refine jm_istore (i := 5) (lv' := [some (.ref (jm_a E t 0)), some (.int p1), some (.int s1.1), some (.int s1.2.1), some (.int s1.2.2), some (.int 0), none]) F dX7_mostHeldKind_16 (by decide) rfl rfl ?_
        refine jm_iconst F dX7_mostHeldKind_18 kc_0 ?_
        refine jm_istore (i := 6) (lv' := [some (.ref (jm_a E t 0)), some (.int p1), some (.int s1.1), some (.int s1.2.1), some (.int s1.2.2), some (.int 0), some (.int 0)]) F dX7_mostHeldKind_19 (by decide) rfl rfl ?_
        refine jm_bind (pcJ := 62) (lvJ := fun e9 => [some (.ref (jm_a E t 0)), some (.int p1), some (.int s1.1), some (.int s1.2.1), some (.int s1.2.2), some (.int e9), none]) (stJ := fun _ => []) (MJ := fun e9 => M) ?_ (fun e9 => ?_)
        · refine jm_weak F (lv' := [some (.ref (jm_a E t 0)), some (.int p1), some (.int s1.1), some (.int s1.2.1), some (.int s1.2.2), some (.int 0), some (.int 0)]) ⟨rfl, rfl, rfl, rfl, rfl, rfl, rfl, trivial⟩ ?_
          refine jm_loopR (lvH := fun s3 => [some (.ref (jm_a E t 0)), some (.int p1), some (.int s1.1), some (.int s1.2.1), some (.int s1.2.2), some (.int s3.1), some (.int s3.2)]) (MH := fun s3 => M) (fun s3 => ?_) jm_N (0, 0)
          unfold sT_mostHeldKind_L21
          refine jm_iload F dX7_mostHeldKind_21 rfl ?_
          refine jm_aload_n (i := 0) F dX7_mostHeldKind_23 rfl rfl ?_
          refine jm_getI F dX7_mostHeldKind_24 fl_X7_55 (lo_T ht) rfl ?_
          refine jm_icmp_ge F dX7_mostHeldKind_27 (fun c4 => ?_) (fun c4 => ?_)
          · exact jm_weakD F (lv' := [some (.ref (jm_a E t 0)), some (.int p1), some (.int s1.1), some (.int s1.2.1), some (.int s1.2.2), some (.int s3.1), none]) ⟨rfl, rfl, rfl, rfl, rfl, rfl, trivial⟩ (fun h => h)
          · refine jm_aload_n (i := 0) F dX7_mostHeldKind_30 rfl rfl ?_
            refine jm_getR F dX7_mostHeldKind_31 fl_X7_30 (lo_T ht) rfl ?_
            refine jm_iload F dX7_mostHeldKind_34 rfl ?_
            refine jm_iald F dX7_mostHeldKind_36 (la_T_9 ht) (fun v5 => ?_)
            refine jm_iload_n (i := 1) F dX7_mostHeldKind_37 rfl rfl ?_
            refine jm_icmp_ne F dX7_mostHeldKind_38 (fun c6 => ?_) (fun c6 => ?_)
            · refine jm_aload_n (i := 0) F dX7_mostHeldKind_41 rfl rfl ?_
              refine jm_getR F dX7_mostHeldKind_42 fl_X7_21 (lo_T ht) rfl ?_
              refine jm_iload F dX7_mostHeldKind_45 rfl ?_
              refine jm_iald F dX7_mostHeldKind_47 (la_T_6 ht) (fun v7 => ?_)
              refine jm_iload F dX7_mostHeldKind_48 rfl ?_
              refine jm_icmp_ne F dX7_mostHeldKind_50 (fun c8 => ?_) (fun c8 => ?_)
              · refine jm_iinc (i := 5) (lv' := [some (.ref (jm_a E t 0)), some (.int p1), some (.int s1.1), some (.int s1.2.1), some (.int s1.2.2), some (.int (s3.1 + 1)), some (.int s3.2)]) F dX7_mostHeldKind_53 kc_1 rfl (by decide) rfl rfl ?_
                refine jm_iinc (i := 6) (lv' := [some (.ref (jm_a E t 0)), some (.int p1), some (.int s1.1), some (.int s1.2.1), some (.int s1.2.2), some (.int (s3.1 + 1)), some (.int (s3.2 + 1))]) F dX7_mostHeldKind_56 kc_1 rfl (by decide) rfl rfl ?_
                refine jm_goto F dX7_mostHeldKind_59 ?_
                exact jm_weakD F (lv' := [some (.ref (jm_a E t 0)), some (.int p1), some (.int s1.1), some (.int s1.2.1), some (.int s1.2.2), some (.int (s3.1 + 1)), some (.int (s3.2 + 1))]) ⟨rfl, rfl, rfl, rfl, rfl, rfl, rfl, trivial⟩ (fun h => h)
              · refine jm_iinc (i := 6) (lv' := [some (.ref (jm_a E t 0)), some (.int p1), some (.int s1.1), some (.int s1.2.1), some (.int s1.2.2), some (.int s3.1), some (.int (s3.2 + 1))]) F dX7_mostHeldKind_56 kc_1 rfl (by decide) rfl rfl ?_
                refine jm_goto F dX7_mostHeldKind_59 ?_
                exact jm_weakD F (lv' := [some (.ref (jm_a E t 0)), some (.int p1), some (.int s1.1), some (.int s1.2.1), some (.int s1.2.2), some (.int s3.1), some (.int (s3.2 + 1))]) ⟨rfl, rfl, rfl, rfl, rfl, rfl, rfl, trivial⟩ (fun h => h)
            · refine jm_iinc (i := 6) (lv' := [some (.ref (jm_a E t 0)), some (.int p1), some (.int s1.1), some (.int s1.2.1), some (.int s1.2.2), some (.int s3.1), some (.int (s3.2 + 1))]) F dX7_mostHeldKind_56 kc_1 rfl (by decide) rfl rfl ?_
              refine jm_goto F dX7_mostHeldKind_59 ?_
              exact jm_weakD F (lv' := [some (.ref (jm_a E t 0)), some (.int p1), some (.int s1.1), some (.int s1.2.1), some (.int s1.2.2), some (.int s3.1), some (.int (s3.2 + 1))]) ⟨rfl, rfl, rfl, rfl, rfl, rfl, rfl, trivial⟩ (fun h => h)
        · refine jm_iload F dX7_mostHeldKind_62 rfl ?_
          refine jm_iload_n (i := 2) F dX7_mostHeldKind_64 rfl rfl ?_
          refine jm_icmp_le F dX7_mostHeldKind_65 (fun c10 => ?_) (fun c10 => ?_)
          · refine jm_iinc (i := 4) (lv' := [some (.ref (jm_a E t 0)), some (.int p1), some (.int s1.1), some (.int s1.2.1), some (.int (s1.2.2 + 1)), some (.int e9), none]) F dX7_mostHeldKind_74 kc_1 rfl (by decide) rfl rfl ?_
            refine jm_goto F dX7_mostHeldKind_77 ?_
            exact jm_weakD F (lv' := [some (.ref (jm_a E t 0)), some (.int p1), some (.int s1.1), some (.int s1.2.1), some (.int (s1.2.2 + 1)), none, none]) ⟨rfl, rfl, rfl, rfl, rfl, trivial⟩ (fun h => h)
          · refine jm_iload F dX7_mostHeldKind_68 rfl ?_
            refine jm_istore_n (i := 2) (lv' := [some (.ref (jm_a E t 0)), some (.int p1), some (.int e9), some (.int s1.2.1), some (.int s1.2.2), some (.int e9), none]) F dX7_mostHeldKind_70 rfl (by decide) rfl rfl ?_
            refine jm_iload F dX7_mostHeldKind_71 rfl ?_
            refine jm_istore_n (i := 3) (lv' := [some (.ref (jm_a E t 0)), some (.int p1), some (.int e9), some (.int s1.2.2), some (.int s1.2.2), some (.int e9), none]) F dX7_mostHeldKind_73 rfl (by decide) rfl rfl ?_
            refine jm_iinc (i := 4) (lv' := [some (.ref (jm_a E t 0)), some (.int p1), some (.int e9), some (.int s1.2.2), some (.int (s1.2.2 + 1)), some (.int e9), none]) F dX7_mostHeldKind_74 kc_1 rfl (by decide) rfl rfl ?_
            refine jm_goto F dX7_mostHeldKind_77 ?_
            exact jm_weakD F (lv' := [some (.ref (jm_a E t 0)), some (.int p1), some (.int e9), some (.int s1.2.2), some (.int (s1.2.2 + 1)), none, none]) ⟨rfl, rfl, rfl, rfl, rfl, trivial⟩ (fun h => h)
    · refine jm_iload_n (i := 3) F dX7_mostHeldKind_80 rfl rfl ?_
      exact jm_iret F dX7_mostHeldKind_81 (fun h => h)
  exact G r h hz
theorem dX8_shelf_0 : jm_d cX8_shelf 0 (.aload_n 0) 1 1 := ⟨by decide +kernel, rfl⟩
theorem dX8_shelf_1 : jm_d cX8_shelf 1 (.getfield 10) 3 4 := ⟨by decide +kernel, rfl⟩
theorem dX8_shelf_4 : jm_d cX8_shelf 4 (.iload_n 1) 1 5 := ⟨by decide +kernel, rfl⟩
theorem dX8_shelf_5 : jm_d cX8_shelf 5 (.invokevirtual 92) 3 8 := ⟨by decide +kernel, rfl⟩
theorem dX8_shelf_8 : jm_b cX8_shelf 8 (.ifCond .ne) 11 17 := ⟨9, by decide +kernel, rfl, by decide⟩
theorem dX8_shelf_11 : jm_d cX8_shelf 11 (.aload_n 0) 1 12 := ⟨by decide +kernel, rfl⟩
theorem dX8_shelf_12 : jm_d cX8_shelf 12 (.iconst (-1)) 1 13 := ⟨by decide +kernel, rfl⟩
theorem dX8_shelf_13 : jm_d cX8_shelf 13 (.invokevirtual 64) 3 16 := ⟨by decide +kernel, rfl⟩
theorem dX8_shelf_16 : jm_d cX8_shelf 16 (.ireturn) 1 17 := ⟨by decide +kernel, rfl⟩
theorem dX8_shelf_17 : jm_d cX8_shelf 17 (.iload_n 2) 1 18 := ⟨by decide +kernel, rfl⟩
theorem dX8_shelf_18 : decode cX8_shelf 18 = .ok (.tableswitch 73 0 3 #[30, 46, 55, 64], 30) := by decide +kernel
theorem dX8_shelf_48 : jm_d cX8_shelf 48 (.aload_n 0) 1 49 := ⟨by decide +kernel, rfl⟩
theorem dX8_shelf_49 : jm_d cX8_shelf 49 (.getfield 10) 3 52 := ⟨by decide +kernel, rfl⟩
theorem dX8_shelf_52 : jm_d cX8_shelf 52 (.aload_n 0) 1 53 := ⟨by decide +kernel, rfl⟩
theorem dX8_shelf_53 : jm_d cX8_shelf 53 (.getfield 10) 3 56 := ⟨by decide +kernel, rfl⟩
theorem dX8_shelf_56 : jm_d cX8_shelf 56 (.getfield 123) 3 59 := ⟨by decide +kernel, rfl⟩
theorem dX8_shelf_59 : jm_d cX8_shelf 59 (.iload_n 1) 1 60 := ⟨by decide +kernel, rfl⟩
theorem dX8_shelf_60 : jm_d cX8_shelf 60 (.invokevirtual 126) 3 63 := ⟨by decide +kernel, rfl⟩
theorem dX8_shelf_63 : jm_d cX8_shelf 63 (.ireturn) 1 64 := ⟨by decide +kernel, rfl⟩
theorem dX8_shelf_64 : jm_d cX8_shelf 64 (.aload_n 0) 1 65 := ⟨by decide +kernel, rfl⟩
theorem dX8_shelf_65 : jm_d cX8_shelf 65 (.getfield 10) 3 68 := ⟨by decide +kernel, rfl⟩
theorem dX8_shelf_68 : jm_d cX8_shelf 68 (.iload_n 1) 1 69 := ⟨by decide +kernel, rfl⟩
theorem dX8_shelf_69 : jm_d cX8_shelf 69 (.invokevirtual 296) 3 72 := ⟨by decide +kernel, rfl⟩
theorem dX8_shelf_72 : jm_d cX8_shelf 72 (.ireturn) 1 73 := ⟨by decide +kernel, rfl⟩
theorem dX8_shelf_73 : jm_d cX8_shelf 73 (.aload_n 0) 1 74 := ⟨by decide +kernel, rfl⟩
theorem dX8_shelf_74 : jm_d cX8_shelf 74 (.getfield 10) 3 77 := ⟨by decide +kernel, rfl⟩
theorem dX8_shelf_77 : jm_d cX8_shelf 77 (.iload_n 1) 1 78 := ⟨by decide +kernel, rfl⟩
theorem dX8_shelf_78 : jm_d cX8_shelf 78 (.invokevirtual 299) 3 81 := ⟨by decide +kernel, rfl⟩
theorem dX8_shelf_81 : jm_d cX8_shelf 81 (.ireturn) 1 82 := ⟨by decide +kernel, rfl⟩
theorem dX8_shelf_82 : jm_d cX8_shelf 82 (.aload_n 0) 1 83 := ⟨by decide +kernel, rfl⟩
theorem dX8_shelf_83 : jm_d cX8_shelf 83 (.getfield 10) 3 86 := ⟨by decide +kernel, rfl⟩
theorem dX8_shelf_86 : jm_d cX8_shelf 86 (.iload_n 1) 1 87 := ⟨by decide +kernel, rfl⟩
theorem dX8_shelf_87 : jm_d cX8_shelf 87 (.invokevirtual 302) 3 90 := ⟨by decide +kernel, rfl⟩
theorem dX8_shelf_90 : jm_d cX8_shelf 90 (.ireturn) 1 91 := ⟨by decide +kernel, rfl⟩
theorem dX8_shelf_91 : jm_d cX8_shelf 91 (.aload_n 0) 1 92 := ⟨by decide +kernel, rfl⟩
theorem dX8_shelf_92 : jm_d cX8_shelf 92 (.bipush (-2)) 2 94 := ⟨by decide +kernel, rfl⟩
theorem dX8_shelf_94 : jm_d cX8_shelf 94 (.invokevirtual 64) 3 97 := ⟨by decide +kernel, rfl⟩
theorem dX8_shelf_97 : jm_d cX8_shelf 97 (.ireturn) 1 98 := ⟨by decide +kernel, rfl⟩
set_option maxHeartbeats 4000000 in
set_option maxRecDepth 100000 in
theorem kW_shelf (E : jm_Ev) (hE : jm_dj E jm_LC) {M : jm_M} {p1 : Int32} {p2 : Int32}  {r : Int32 × jm_M} (h : sW_shelf M p1 p2 = some r) : jm_Ct E jm_LC yX8_shelf cX8_shelf 3 (some .int) 3 88 [.ref (jm_a E 0 0), .int p1, .int p2] M (some (.int r.1)) r.2 := by
  refine jm_enter (lv := [some (.ref (jm_a E 0 0)), some (.int p1), some (.int p2)]) hE (by decide) (Nat.le_of_ble_eq_true rfl) rfl ?_
  intro z w F hz
  have G : jm_G w 0 [some (.ref (jm_a E 0 0)), some (.int p1), some (.int p2)] [] M (sW_shelf M p1 p2) (fun e => z (some (.int e.1)) e.2) := by
    unfold sW_shelf
    refine jm_aload_n (i := 0) F dX8_shelf_0 rfl rfl ?_
    refine jm_getR F dX8_shelf_1 fl_X8_10 lo_X8 rfl ?_
    refine jm_iload_n (i := 1) F dX8_shelf_4 rfl rfl ?_
    refine jm_callV (As := [.int p1]) (st := []) (rv := fun r => some (.int r)) (mm := fun _ => M) F dX8_shelf_5 qX8_92 rfl (lo_T isT_1) rfl (fun r h => kT_hasKeeper E hE isT_1 h) rfl (Nat.le_of_ble_eq_true rfl) ⟨Nat.le_of_ble_eq_true rfl, Nat.le_of_ble_eq_true rfl⟩ (fun r1 => ?_)
    refine jm_if_ne F dX8_shelf_8 (fun c2 => ?_) (fun c2 => ?_)
    · refine jm_aload_n (i := 0) F dX8_shelf_11 rfl rfl ?_
      refine jm_iconst F dX8_shelf_12 kc_m1 ?_
      refine jm_callV (As := [.int (-1)]) (st := []) (rv := fun r => some (.int r.1)) (mm := fun r => r.2) F dX8_shelf_13 qX8_64 rfl lo_X8 rfl (fun r h => kW_refuse E hE h) rfl (Nat.le_of_ble_eq_true rfl) ⟨Nat.le_of_ble_eq_true rfl, Nat.le_of_ble_eq_true rfl⟩ (fun r3 => ?_)
      exact jm_iret F dX8_shelf_16 (fun h => h)
    · refine jm_iload_n (i := 2) F dX8_shelf_17 rfl rfl ?_
      refine jm_ite (fun c4 => ?_) (fun c4 => ?_)
      · refine jm_tsw (tgt := 48) F dX8_shelf_18 c4 (by decide) (by decide) rfl (by decide) ?_
        refine jm_aload_n (i := 0) F dX8_shelf_48 rfl rfl ?_
        refine jm_getR F dX8_shelf_49 fl_X8_10 lo_X8 rfl ?_
        refine jm_aload_n (i := 0) F dX8_shelf_52 rfl rfl ?_
        refine jm_getR F dX8_shelf_53 fl_X8_10 lo_X8 rfl ?_
        refine jm_getR F dX8_shelf_56 fl_X8_123 (lo_T isT_1) rfl ?_
        refine jm_iload_n (i := 1) F dX8_shelf_59 rfl rfl ?_
        refine jm_callV (As := [.ref (jm_a E 1 9), .int p1]) (st := []) (rv := fun r => some (.int r)) (mm := fun _ => M) F dX8_shelf_60 qX8_126 rfl (lo_T isT_1) rfl (fun r h => kT_booksWith E hE isT_1 h) rfl (Nat.le_of_ble_eq_true rfl) ⟨Nat.le_of_ble_eq_true rfl, Nat.le_of_ble_eq_true rfl⟩ (fun r5 => ?_)
        exact jm_iret F dX8_shelf_63 (fun h => h)
      · refine jm_ite (fun c6 => ?_) (fun c6 => ?_)
        · refine jm_tsw (tgt := 64) F dX8_shelf_18 c6 (by decide) (by decide) rfl (by decide) ?_
          refine jm_aload_n (i := 0) F dX8_shelf_64 rfl rfl ?_
          refine jm_getR F dX8_shelf_65 fl_X8_10 lo_X8 rfl ?_
          refine jm_iload_n (i := 1) F dX8_shelf_68 rfl rfl ?_
          refine jm_callV (As := [.int p1]) (st := []) (rv := fun r => some (.int r)) (mm := fun _ => M) F dX8_shelf_69 qX8_296 rfl (lo_T isT_1) rfl (fun r h => kT_kindsHeldBy E hE isT_1 h) rfl (Nat.le_of_ble_eq_true rfl) ⟨Nat.le_of_ble_eq_true rfl, Nat.le_of_ble_eq_true rfl⟩ (fun r7 => ?_)
          exact jm_iret F dX8_shelf_72 (fun h => h)
        · refine jm_ite (fun c8 => ?_) (fun c8 => ?_)
          · refine jm_tsw (tgt := 73) F dX8_shelf_18 c8 (by decide) (by decide) rfl (by decide) ?_
            refine jm_aload_n (i := 0) F dX8_shelf_73 rfl rfl ?_
            refine jm_getR F dX8_shelf_74 fl_X8_10 lo_X8 rfl ?_
            refine jm_iload_n (i := 1) F dX8_shelf_77 rfl rfl ?_
            refine jm_callV (As := [.int p1]) (st := []) (rv := fun r => some (.int r)) (mm := fun _ => M) F dX8_shelf_78 qX8_299 rfl (lo_T isT_1) rfl (fun r h => kT_pricesHeldBy E hE isT_1 h) rfl (Nat.le_of_ble_eq_true rfl) ⟨Nat.le_of_ble_eq_true rfl, Nat.le_of_ble_eq_true rfl⟩ (fun r9 => ?_)
            exact jm_iret F dX8_shelf_81 (fun h => h)
          · refine jm_ite (fun c10 => ?_) (fun c10 => ?_)
            · refine jm_tsw (tgt := 82) F dX8_shelf_18 c10 (by decide) (by decide) rfl (by decide) ?_
              refine jm_aload_n (i := 0) F dX8_shelf_82 rfl rfl ?_
              refine jm_getR F dX8_shelf_83 fl_X8_10 lo_X8 rfl ?_
              refine jm_iload_n (i := 1) F dX8_shelf_86 rfl rfl ?_
              refine jm_callV (As := [.int p1]) (st := []) (rv := fun r => some (.int r)) (mm := fun _ => M) F dX8_shelf_87 qX8_302 rfl (lo_T isT_1) rfl (fun r h => kT_mostHeldKind E hE isT_1 h) rfl (Nat.le_of_ble_eq_true rfl) ⟨Nat.le_of_ble_eq_true rfl, Nat.le_of_ble_eq_true rfl⟩ (fun r11 => ?_)
              exact jm_iret F dX8_shelf_90 (fun h => h)
            · refine jm_tsd (tgt := 91) F dX8_shelf_18 (by
                  have e0 := jm_ne c4 (a := 0) (by decide)
                  have e1 := jm_ne c6 (a := 1) (by decide)
                  have e2 := jm_ne c8 (a := 2) (by decide)
                  have e3 := jm_ne c10 (a := 3) (by decide)
                  omega) (by decide) ?_
              refine jm_aload_n (i := 0) F dX8_shelf_91 rfl rfl ?_
              refine jm_bipush F dX8_shelf_92 kb_m2 ?_
              refine jm_callV (As := [.int (-2)]) (st := []) (rv := fun r => some (.int r.1)) (mm := fun r => r.2) F dX8_shelf_94 qX8_64 rfl lo_X8 rfl (fun r h => kW_refuse E hE h) rfl (Nat.le_of_ble_eq_true rfl) ⟨Nat.le_of_ble_eq_true rfl, Nat.le_of_ble_eq_true rfl⟩ (fun r12 => ?_)
              exact jm_iret F dX8_shelf_97 (fun h => h)
  exact G r h hz
theorem dX7_closestTwo_0 : jm_d cX7_closestTwo 0 (.bipush (-9)) 2 2 := ⟨by decide +kernel, rfl⟩
theorem dX7_closestTwo_2 : jm_d cX7_closestTwo 2 (.istore_n 1) 1 3 := ⟨by decide +kernel, rfl⟩
theorem dX7_closestTwo_3 : jm_d cX7_closestTwo 3 (.iconst 0) 1 4 := ⟨by decide +kernel, rfl⟩
theorem dX7_closestTwo_4 : jm_d cX7_closestTwo 4 (.istore_n 2) 1 5 := ⟨by decide +kernel, rfl⟩
theorem dX7_closestTwo_5 : jm_d cX7_closestTwo 5 (.iconst 0) 1 6 := ⟨by decide +kernel, rfl⟩
theorem dX7_closestTwo_6 : jm_d cX7_closestTwo 6 (.istore_n 3) 1 7 := ⟨by decide +kernel, rfl⟩
theorem dX7_closestTwo_7 : jm_d cX7_closestTwo 7 (.iload_n 3) 1 8 := ⟨by decide +kernel, rfl⟩
theorem dX7_closestTwo_8 : jm_d cX7_closestTwo 8 (.aload_n 0) 1 9 := ⟨by decide +kernel, rfl⟩
theorem dX7_closestTwo_9 : jm_d cX7_closestTwo 9 (.getfield 45) 3 12 := ⟨by decide +kernel, rfl⟩
theorem dX7_closestTwo_12 : jm_b cX7_closestTwo 12 (.if_icmp .ge) 15 76 := ⟨64, by decide +kernel, rfl, by decide⟩
theorem dX7_closestTwo_15 : jm_d cX7_closestTwo 15 (.iload_n 3) 1 16 := ⟨by decide +kernel, rfl⟩
theorem dX7_closestTwo_16 : jm_d cX7_closestTwo 16 (.iconst 1) 1 17 := ⟨by decide +kernel, rfl⟩
theorem dX7_closestTwo_17 : jm_d cX7_closestTwo 17 (.iadd) 1 18 := ⟨by decide +kernel, rfl⟩
theorem dX7_closestTwo_18 : jm_d cX7_closestTwo 18 (.istore 4) 2 20 := ⟨by decide +kernel, rfl⟩
theorem dX7_closestTwo_20 : jm_d cX7_closestTwo 20 (.iload 4) 2 22 := ⟨by decide +kernel, rfl⟩
theorem dX7_closestTwo_22 : jm_d cX7_closestTwo 22 (.aload_n 0) 1 23 := ⟨by decide +kernel, rfl⟩
theorem dX7_closestTwo_23 : jm_d cX7_closestTwo 23 (.getfield 45) 3 26 := ⟨by decide +kernel, rfl⟩
theorem dX7_closestTwo_26 : jm_b cX7_closestTwo 26 (.if_icmp .ge) 29 70 := ⟨44, by decide +kernel, rfl, by decide⟩
theorem dX7_closestTwo_29 : jm_d cX7_closestTwo 29 (.aload_n 0) 1 30 := ⟨by decide +kernel, rfl⟩
theorem dX7_closestTwo_30 : jm_d cX7_closestTwo 30 (.iload_n 3) 1 31 := ⟨by decide +kernel, rfl⟩
theorem dX7_closestTwo_31 : jm_d cX7_closestTwo 31 (.iload 4) 2 33 := ⟨by decide +kernel, rfl⟩
theorem dX7_closestTwo_33 : jm_d cX7_closestTwo 33 (.invokevirtual 105) 3 36 := ⟨by decide +kernel, rfl⟩
theorem dX7_closestTwo_36 : jm_d cX7_closestTwo 36 (.invokestatic 112) 3 39 := ⟨by decide +kernel, rfl⟩
theorem dX7_closestTwo_39 : jm_d cX7_closestTwo 39 (.istore 5) 2 41 := ⟨by decide +kernel, rfl⟩
theorem dX7_closestTwo_41 : jm_d cX7_closestTwo 41 (.iload_n 1) 1 42 := ⟨by decide +kernel, rfl⟩
theorem dX7_closestTwo_42 : jm_d cX7_closestTwo 42 (.bipush (-9)) 2 44 := ⟨by decide +kernel, rfl⟩
theorem dX7_closestTwo_44 : jm_b cX7_closestTwo 44 (.if_icmp .eq) 47 53 := ⟨9, by decide +kernel, rfl, by decide⟩
theorem dX7_closestTwo_53 : jm_d cX7_closestTwo 53 (.bipush 10) 2 55 := ⟨by decide +kernel, rfl⟩
theorem dX7_closestTwo_55 : jm_d cX7_closestTwo 55 (.iload_n 3) 1 56 := ⟨by decide +kernel, rfl⟩
theorem dX7_closestTwo_56 : jm_d cX7_closestTwo 56 (.imul) 1 57 := ⟨by decide +kernel, rfl⟩
theorem dX7_closestTwo_57 : jm_d cX7_closestTwo 57 (.iload 4) 2 59 := ⟨by decide +kernel, rfl⟩
theorem dX7_closestTwo_59 : jm_d cX7_closestTwo 59 (.iadd) 1 60 := ⟨by decide +kernel, rfl⟩
theorem dX7_closestTwo_60 : jm_d cX7_closestTwo 60 (.istore_n 1) 1 61 := ⟨by decide +kernel, rfl⟩
theorem dX7_closestTwo_61 : jm_d cX7_closestTwo 61 (.iload 5) 2 63 := ⟨by decide +kernel, rfl⟩
theorem dX7_closestTwo_63 : jm_d cX7_closestTwo 63 (.istore_n 2) 1 64 := ⟨by decide +kernel, rfl⟩
theorem dX7_closestTwo_64 : jm_d cX7_closestTwo 64 (.iinc 4 1) 3 67 := ⟨by decide +kernel, rfl⟩
theorem dX7_closestTwo_67 : jm_b cX7_closestTwo 67 .goto 70 20 := ⟨(-47), by decide +kernel, rfl, by decide⟩
theorem dX7_closestTwo_47 : jm_d cX7_closestTwo 47 (.iload 5) 2 49 := ⟨by decide +kernel, rfl⟩
theorem dX7_closestTwo_49 : jm_d cX7_closestTwo 49 (.iload_n 2) 1 50 := ⟨by decide +kernel, rfl⟩
theorem dX7_closestTwo_50 : jm_b cX7_closestTwo 50 (.if_icmp .ge) 53 64 := ⟨14, by decide +kernel, rfl, by decide⟩
theorem dX7_closestTwo_70 : jm_d cX7_closestTwo 70 (.iinc 3 1) 3 73 := ⟨by decide +kernel, rfl⟩
theorem dX7_closestTwo_73 : jm_b cX7_closestTwo 73 .goto 76 7 := ⟨(-66), by decide +kernel, rfl, by decide⟩
theorem dX7_closestTwo_76 : jm_d cX7_closestTwo 76 (.iload_n 1) 1 77 := ⟨by decide +kernel, rfl⟩
theorem dX7_closestTwo_77 : jm_d cX7_closestTwo 77 (.ireturn) 1 78 := ⟨by decide +kernel, rfl⟩
set_option maxHeartbeats 4000000 in
set_option maxRecDepth 100000 in
theorem kT_closestTwo (E : jm_Ev) (hE : jm_dj E jm_LC) {M : jm_M} {t : Nat} (ht : jm_isT t) {r : Int32} (h : sT_closestTwo M t = some r) : jm_Ct E jm_LC yX7_closestTwo cX7_closestTwo 6 (some .int) 4 117 [.ref (jm_a E t 0)] M (some (.int r)) M := by
  refine jm_enter (lv := [some (.ref (jm_a E t 0)), none, none, none, none, none]) hE (by decide) (Nat.le_of_ble_eq_true rfl) rfl ?_
  intro z w F hz
  have G : jm_G w 0 [some (.ref (jm_a E t 0)), none, none, none, none, none] [] M (sT_closestTwo M t) (fun e => z (some (.int e)) M) := by
    unfold sT_closestTwo
    refine jm_bipush F dX7_closestTwo_0 kb_m9 ?_
    refine jm_istore_n (i := 1) (lv' := [some (.ref (jm_a E t 0)), some (.int (-9)), none, none, none, none]) F dX7_closestTwo_2 rfl (by decide) rfl rfl ?_
    refine jm_iconst F dX7_closestTwo_3 kc_0 ?_
    refine jm_istore_n (i := 2) (lv' := [some (.ref (jm_a E t 0)), some (.int (-9)), some (.int 0), none, none, none]) F dX7_closestTwo_4 rfl (by decide) rfl rfl ?_
    refine jm_iconst F dX7_closestTwo_5 kc_0 ?_
    refine jm_istore_n (i := 3) (lv' := [some (.ref (jm_a E t 0)), some (.int (-9)), some (.int 0), some (.int 0), none, none]) F dX7_closestTwo_6 rfl (by decide) rfl rfl ?_
    refine jm_bind (pcJ := 76) (lvJ := fun e13 => [none, some (.int e13), none, none, none, none]) (stJ := fun _ => []) (MJ := fun e13 => M) ?_ (fun e13 => ?_)
    · refine jm_weak F (lv' := [some (.ref (jm_a E t 0)), some (.int (-9)), some (.int 0), some (.int 0), none, none]) ⟨rfl, rfl, rfl, rfl, trivial⟩ ?_
      refine jm_loopR (lvH := fun s1 => [some (.ref (jm_a E t 0)), some (.int s1.1), some (.int s1.2.1), some (.int s1.2.2), none, none]) (MH := fun s1 => M) (fun s1 => ?_) jm_N ((-9), 0, 0)
      unfold sT_closestTwo_L7
      refine jm_iload_n (i := 3) F dX7_closestTwo_7 rfl rfl ?_
      refine jm_aload_n (i := 0) F dX7_closestTwo_8 rfl rfl ?_
      refine jm_getI F dX7_closestTwo_9 fl_X7_45 (lo_T ht) rfl ?_
      refine jm_icmp_ge F dX7_closestTwo_12 (fun c2 => ?_) (fun c2 => ?_)
      · exact jm_weakD F (lv' := [none, some (.int s1.1), none, none, none, none]) ⟨rfl, trivial⟩ (fun h => h)
      · refine jm_iload_n (i := 3) F dX7_closestTwo_15 rfl rfl ?_
        refine jm_iconst F dX7_closestTwo_16 kc_1 ?_
        refine jm_iadd F dX7_closestTwo_17 ?_
        refine jm_nameI (f := fun x3 => [.int x3]) (fun x3 => ?_) rfl
        refine jm_istore (i := 4) (lv' := [some (.ref (jm_a E t 0)), some (.int s1.1), some (.int s1.2.1), some (.int s1.2.2), some (.int x3), none]) F dX7_closestTwo_18 (by decide) rfl rfl ?_
        refine jm_bind (pcJ := 70) (lvJ := fun e12 => [some (.ref (jm_a E t 0)), some (.int e12.1), some (.int e12.2), some (.int s1.2.2), none, none]) (stJ := fun _ => []) (MJ := fun e12 => M) ?_ (fun e12 => ?_)
        · refine jm_weak F (lv' := [some (.ref (jm_a E t 0)), some (.int s1.1), some (.int s1.2.1), some (.int s1.2.2), some (.int x3), none]) ⟨rfl, rfl, rfl, rfl, rfl, trivial⟩ ?_
          refine jm_loopR (lvH := fun s4 => [some (.ref (jm_a E t 0)), some (.int s4.1), some (.int s4.2.1), some (.int s1.2.2), some (.int s4.2.2), none]) (MH := fun s4 => M) (fun s4 => ?_) jm_N (s1.1, s1.2.1, x3)
          unfold sT_closestTwo_L20
          refine jm_iload F dX7_closestTwo_20 rfl ?_
          refine jm_aload_n (i := 0) F dX7_closestTwo_22 rfl rfl ?_
          refine jm_getI F dX7_closestTwo_23 fl_X7_45 (lo_T ht) rfl ?_
          refine jm_icmp_ge F dX7_closestTwo_26 (fun c5 => ?_) (fun c5 => ?_)
          · exact jm_weakD F (lv' := [some (.ref (jm_a E t 0)), some (.int s4.1), some (.int s4.2.1), some (.int s1.2.2), none, none]) ⟨rfl, rfl, rfl, rfl, trivial⟩ (fun h => h)
          · refine jm_aload_n (i := 0) F dX7_closestTwo_29 rfl rfl ?_
            refine jm_iload_n (i := 3) F dX7_closestTwo_30 rfl rfl ?_
            refine jm_iload F dX7_closestTwo_31 rfl ?_
            refine jm_callV (As := [.int s1.2.2, .int s4.2.2]) (st := []) (rv := fun r => some (.int r)) (mm := fun _ => M) F dX7_closestTwo_33 qX7_105 rfl (lo_T ht) rfl (fun r h => kT_overOf E hE ht h) rfl (Nat.le_of_ble_eq_true rfl) ⟨Nat.le_of_ble_eq_true rfl, Nat.le_of_ble_eq_true rfl⟩ (fun r6 => ?_)
            refine jm_mabs F dX7_closestTwo_36 tw_890 tw_891 tw_92 tw_892 ⟨Nat.le_of_ble_eq_true rfl, Nat.le_of_ble_eq_true rfl⟩ ?_
            refine jm_nameI (f := fun x7 => [.int x7]) (fun x7 => ?_) rfl
            refine jm_istore (i := 5) (lv' := [some (.ref (jm_a E t 0)), some (.int s4.1), some (.int s4.2.1), some (.int s1.2.2), some (.int s4.2.2), some (.int x7)]) F dX7_closestTwo_39 (by decide) rfl rfl ?_
            refine jm_iload_n (i := 1) F dX7_closestTwo_41 rfl rfl ?_
            refine jm_bipush F dX7_closestTwo_42 kb_m9 ?_
            refine jm_icmp_eq F dX7_closestTwo_44 (fun c8 => ?_) (fun c8 => ?_)
            · refine jm_bipush F dX7_closestTwo_53 kb_10 ?_
              refine jm_iload_n (i := 3) F dX7_closestTwo_55 rfl rfl ?_
              refine jm_imul F dX7_closestTwo_56 ?_
              refine jm_iload F dX7_closestTwo_57 rfl ?_
              refine jm_iadd F dX7_closestTwo_59 ?_
              refine jm_nameI (f := fun x9 => [.int x9]) (fun x9 => ?_) rfl
              refine jm_istore_n (i := 1) (lv' := [some (.ref (jm_a E t 0)), some (.int x9), some (.int s4.2.1), some (.int s1.2.2), some (.int s4.2.2), some (.int x7)]) F dX7_closestTwo_60 rfl (by decide) rfl rfl ?_
              refine jm_iload F dX7_closestTwo_61 rfl ?_
              refine jm_istore_n (i := 2) (lv' := [some (.ref (jm_a E t 0)), some (.int x9), some (.int x7), some (.int s1.2.2), some (.int s4.2.2), some (.int x7)]) F dX7_closestTwo_63 rfl (by decide) rfl rfl ?_
              refine jm_iinc (i := 4) (lv' := [some (.ref (jm_a E t 0)), some (.int x9), some (.int x7), some (.int s1.2.2), some (.int (s4.2.2 + 1)), some (.int x7)]) F dX7_closestTwo_64 kc_1 rfl (by decide) rfl rfl ?_
              refine jm_goto F dX7_closestTwo_67 ?_
              exact jm_weakD F (lv' := [some (.ref (jm_a E t 0)), some (.int x9), some (.int x7), some (.int s1.2.2), some (.int (s4.2.2 + 1)), none]) ⟨rfl, rfl, rfl, rfl, rfl, trivial⟩ (fun h => h)
            · refine jm_iload F dX7_closestTwo_47 rfl ?_
              refine jm_iload_n (i := 2) F dX7_closestTwo_49 rfl rfl ?_
              refine jm_icmp_ge F dX7_closestTwo_50 (fun c10 => ?_) (fun c10 => ?_)
              · refine jm_iinc (i := 4) (lv' := [some (.ref (jm_a E t 0)), some (.int s4.1), some (.int s4.2.1), some (.int s1.2.2), some (.int (s4.2.2 + 1)), some (.int x7)]) F dX7_closestTwo_64 kc_1 rfl (by decide) rfl rfl ?_
                refine jm_goto F dX7_closestTwo_67 ?_
                exact jm_weakD F (lv' := [some (.ref (jm_a E t 0)), some (.int s4.1), some (.int s4.2.1), some (.int s1.2.2), some (.int (s4.2.2 + 1)), none]) ⟨rfl, rfl, rfl, rfl, rfl, trivial⟩ (fun h => h)
              · refine jm_bipush F dX7_closestTwo_53 kb_10 ?_
                refine jm_iload_n (i := 3) F dX7_closestTwo_55 rfl rfl ?_
                refine jm_imul F dX7_closestTwo_56 ?_
                refine jm_iload F dX7_closestTwo_57 rfl ?_
                refine jm_iadd F dX7_closestTwo_59 ?_
                refine jm_nameI (f := fun x11 => [.int x11]) (fun x11 => ?_) rfl
                refine jm_istore_n (i := 1) (lv' := [some (.ref (jm_a E t 0)), some (.int x11), some (.int s4.2.1), some (.int s1.2.2), some (.int s4.2.2), some (.int x7)]) F dX7_closestTwo_60 rfl (by decide) rfl rfl ?_
                refine jm_iload F dX7_closestTwo_61 rfl ?_
                refine jm_istore_n (i := 2) (lv' := [some (.ref (jm_a E t 0)), some (.int x11), some (.int x7), some (.int s1.2.2), some (.int s4.2.2), some (.int x7)]) F dX7_closestTwo_63 rfl (by decide) rfl rfl ?_
                refine jm_iinc (i := 4) (lv' := [some (.ref (jm_a E t 0)), some (.int x11), some (.int x7), some (.int s1.2.2), some (.int (s4.2.2 + 1)), some (.int x7)]) F dX7_closestTwo_64 kc_1 rfl (by decide) rfl rfl ?_
                refine jm_goto F dX7_closestTwo_67 ?_
                exact jm_weakD F (lv' := [some (.ref (jm_a E t 0)), some (.int x11), some (.int x7), some (.int s1.2.2), some (.int (s4.2.2 + 1)), none]) ⟨rfl, rfl, rfl, rfl, rfl, trivial⟩ (fun h => h)
        · refine jm_iinc (i := 3) (lv' := [some (.ref (jm_a E t 0)), some (.int e12.1), some (.int e12.2), some (.int (s1.2.2 + 1)), none, none]) F dX7_closestTwo_70 kc_1 rfl (by decide) rfl rfl ?_
          refine jm_goto F dX7_closestTwo_73 ?_
          exact jm_weakD F (lv' := [some (.ref (jm_a E t 0)), some (.int e12.1), some (.int e12.2), some (.int (s1.2.2 + 1)), none, none]) ⟨rfl, rfl, rfl, rfl, trivial⟩ (fun h => h)
    · refine jm_iload_n (i := 1) F dX7_closestTwo_76 rfl rfl ?_
      exact jm_iret F dX7_closestTwo_77 (fun h => h)
  exact G r h hz
