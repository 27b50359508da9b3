theorem dX7_comesTo_0 : jm_d cX7_comesTo 0 (.aload_n 0) 1 1 := ⟨by decide +kernel, rfl⟩
theorem dX7_comesTo_1 : jm_d cX7_comesTo 1 (.iload_n 1) 1 2 := ⟨by decide +kernel, rfl⟩
theorem dX7_comesTo_2 : jm_d cX7_comesTo 2 (.iload_n 3) 1 3 := ⟨by decide +kernel, rfl⟩
theorem dX7_comesTo_3 : jm_d cX7_comesTo 3 (.invokevirtual 85) 3 6 := ⟨by decide +kernel, rfl⟩
theorem dX7_comesTo_6 : jm_d cX7_comesTo 6 (.aload_n 0) 1 7 := ⟨by decide +kernel, rfl⟩
theorem dX7_comesTo_7 : jm_d cX7_comesTo 7 (.iload_n 2) 1 8 := ⟨by decide +kernel, rfl⟩
theorem dX7_comesTo_8 : jm_d cX7_comesTo 8 (.iload_n 3) 1 9 := ⟨by decide +kernel, rfl⟩
theorem dX7_comesTo_9 : jm_d cX7_comesTo 9 (.invokevirtual 85) 3 12 := ⟨by decide +kernel, rfl⟩
theorem dX7_comesTo_12 : jm_d cX7_comesTo 12 (.iadd) 1 13 := ⟨by decide +kernel, rfl⟩
theorem dX7_comesTo_13 : jm_d cX7_comesTo 13 (.istore 4) 2 15 := ⟨by decide +kernel, rfl⟩
theorem dX7_comesTo_15 : jm_d cX7_comesTo 15 (.aload_n 0) 1 16 := ⟨by decide +kernel, rfl⟩
theorem dX7_comesTo_16 : jm_d cX7_comesTo 16 (.iload_n 3) 1 17 := ⟨by decide +kernel, rfl⟩
theorem dX7_comesTo_17 : jm_d cX7_comesTo 17 (.invokevirtual 88) 3 20 := ⟨by decide +kernel, rfl⟩
theorem dX7_comesTo_20 : jm_d cX7_comesTo 20 (.istore 5) 2 22 := ⟨by decide +kernel, rfl⟩
theorem dX7_comesTo_22 : jm_d cX7_comesTo 22 (.iconst 0) 1 23 := ⟨by decide +kernel, rfl⟩
theorem dX7_comesTo_23 : jm_d cX7_comesTo 23 (.istore 6) 2 25 := ⟨by decide +kernel, rfl⟩
theorem dX7_comesTo_25 : jm_d cX7_comesTo 25 (.iload 6) 2 27 := ⟨by decide +kernel, rfl⟩
theorem dX7_comesTo_27 : jm_d cX7_comesTo 27 (.aload_n 0) 1 28 := ⟨by decide +kernel, rfl⟩
theorem dX7_comesTo_28 : jm_d cX7_comesTo 28 (.getfield 61) 3 31 := ⟨by decide +kernel, rfl⟩
theorem dX7_comesTo_31 : jm_b cX7_comesTo 31 (.if_icmp .ge) 34 52 := ⟨21, by decide +kernel, rfl, by decide⟩
theorem dX7_comesTo_34 : jm_d cX7_comesTo 34 (.aload_n 0) 1 35 := ⟨by decide +kernel, rfl⟩
theorem dX7_comesTo_35 : jm_d cX7_comesTo 35 (.iload 5) 2 37 := ⟨by decide +kernel, rfl⟩
theorem dX7_comesTo_37 : jm_d cX7_comesTo 37 (.iload 6) 2 39 := ⟨by decide +kernel, rfl⟩
theorem dX7_comesTo_39 : jm_d cX7_comesTo 39 (.iload 4) 2 41 := ⟨by decide +kernel, rfl⟩
theorem dX7_comesTo_41 : jm_d cX7_comesTo 41 (.invokevirtual 91) 3 44 := ⟨by decide +kernel, rfl⟩
theorem dX7_comesTo_44 : jm_d cX7_comesTo 44 (.istore 5) 2 46 := ⟨by decide +kernel, rfl⟩
theorem dX7_comesTo_46 : jm_d cX7_comesTo 46 (.iinc 6 1) 3 49 := ⟨by decide +kernel, rfl⟩
theorem dX7_comesTo_49 : jm_b cX7_comesTo 49 .goto 52 25 := ⟨(-24), by decide +kernel, rfl, by decide⟩
theorem dX7_comesTo_52 : jm_d cX7_comesTo 52 (.iload 5) 2 54 := ⟨by decide +kernel, rfl⟩
theorem dX7_comesTo_54 : jm_d cX7_comesTo 54 (.ireturn) 1 55 := ⟨by decide +kernel, rfl⟩
set_option maxHeartbeats 4000000 in
set_option maxRecDepth 100000 in
theorem kT_comesTo (E : jm_Ev) (hE : jm_dj E jm_LC) {M : jm_M} {t : Nat} {p1 : Int32} {p2 : Int32} {p3 : Int32} (ht : jm_isT t) {r : Int32} (h : sT_comesTo M t p1 p2 p3 = some r) : jm_Ct E jm_LC yX7_comesTo cX7_comesTo 7 (some .int) 2 67 [.ref (jm_a E t 0), .int p1, .int p2, .int p3] M (some (.int r)) M := by
  refine jm_enter (lv := [some (.ref (jm_a E t 0)), some (.int p1), some (.int p2), some (.int p3), none, none, none]) hE (by decide) (Nat.le_of_ble_eq_true rfl) rfl ?_
  intro z w F hz
  have G : jm_G w 0 [some (.ref (jm_a E t 0)), some (.int p1), some (.int p2), some (.int p3), none, none, none] [] M (sT_comesTo M t p1 p2 p3) (fun e => z (some (.int e)) M) := by
    unfold sT_comesTo
    refine jm_aload_n (i := 0) F dX7_comesTo_0 rfl rfl ?_
    refine jm_iload_n (i := 1) F dX7_comesTo_1 rfl rfl ?_
    refine jm_iload_n (i := 3) F dX7_comesTo_2 rfl rfl ?_
    refine jm_callV (As := [.int p1, .int p3]) (st := []) (rv := fun r => some (.int r)) (mm := fun _ => M) F dX7_comesTo_3 qX7_85 rfl (lo_T ht) rfl (fun r h => kT_hasRead E hE ht h) rfl (Nat.le_of_ble_eq_true rfl) ⟨Nat.le_of_ble_eq_true rfl, Nat.le_of_ble_eq_true rfl⟩ (fun r1 => ?_)
    refine jm_aload_n (i := 0) F dX7_comesTo_6 rfl rfl ?_
    refine jm_iload_n (i := 2) F dX7_comesTo_7 rfl rfl ?_
    refine jm_iload_n (i := 3) F dX7_comesTo_8 rfl rfl ?_
    refine jm_callV (As := [.int p2, .int p3]) (st := [.int r1]) (rv := fun r => some (.int r)) (mm := fun _ => M) F dX7_comesTo_9 qX7_85 rfl (lo_T ht) rfl (fun r h => kT_hasRead E hE ht h) rfl (Nat.le_of_ble_eq_true rfl) ⟨Nat.le_of_ble_eq_true rfl, Nat.le_of_ble_eq_true rfl⟩ (fun r2 => ?_)
    refine jm_iadd F dX7_comesTo_12 ?_
    refine jm_nameI (f := fun x3 => [.int x3]) (fun x3 => ?_) rfl
    refine jm_istore (i := 4) (lv' := [some (.ref (jm_a E t 0)), some (.int p1), some (.int p2), some (.int p3), some (.int x3), none, none]) F dX7_comesTo_13 (by decide) rfl rfl ?_
    refine jm_aload_n (i := 0) F dX7_comesTo_15 rfl rfl ?_
    refine jm_iload_n (i := 3) F dX7_comesTo_16 rfl rfl ?_
    refine jm_callV (As := [.int p3]) (st := []) (rv := fun r => some (.int r)) (mm := fun _ => M) F dX7_comesTo_17 qX7_88 rfl (lo_T ht) rfl (fun r h => kT_weighs E hE ht h) rfl (Nat.le_of_ble_eq_true rfl) ⟨Nat.le_of_ble_eq_true rfl, Nat.le_of_ble_eq_true rfl⟩ (fun r4 => ?_)
    refine jm_istore (i := 5) (lv' := [some (.ref (jm_a E t 0)), some (.int p1), some (.int p2), some (.int p3), some (.int x3), some (.int r4), none]) F dX7_comesTo_20 (by decide) rfl rfl ?_
    refine jm_iconst F dX7_comesTo_22 kc_0 ?_
    refine jm_istore (i := 6) (lv' := [some (.ref (jm_a E t 0)), some (.int p1), some (.int p2), some (.int p3), some (.int x3), some (.int r4), some (.int 0)]) F dX7_comesTo_23 (by decide) rfl rfl ?_
    refine jm_bind (pcJ := 52) (lvJ := fun e8 => [none, none, none, none, none, some (.int e8), none]) (stJ := fun _ => []) (MJ := fun e8 => M) ?_ (fun e8 => ?_)
    · refine jm_weak F (lv' := [some (.ref (jm_a E t 0)), none, none, none, some (.int x3), some (.int r4), some (.int 0)]) ⟨rfl, rfl, rfl, rfl, trivial⟩ ?_
      refine jm_loopR (lvH := fun s5 => [some (.ref (jm_a E t 0)), none, none, none, some (.int x3), some (.int s5.1), some (.int s5.2)]) (MH := fun s5 => M) (fun s5 => ?_) jm_N (r4, 0)
      unfold sT_comesTo_L25
      refine jm_iload F dX7_comesTo_25 rfl ?_
      refine jm_aload_n (i := 0) F dX7_comesTo_27 rfl rfl ?_
      refine jm_getI F dX7_comesTo_28 fl_X7_61 (lo_T ht) rfl ?_
      refine jm_icmp_ge F dX7_comesTo_31 (fun c6 => ?_) (fun c6 => ?_)
      · exact jm_weakD F (lv' := [none, none, none, none, none, some (.int s5.1), none]) ⟨rfl, trivial⟩ (fun h => h)
      · refine jm_aload_n (i := 0) F dX7_comesTo_34 rfl rfl ?_
        refine jm_iload F dX7_comesTo_35 rfl ?_
        refine jm_iload F dX7_comesTo_37 rfl ?_
        refine jm_iload F dX7_comesTo_39 rfl ?_
        refine jm_callV (As := [.int s5.1, .int s5.2, .int x3]) (st := []) (rv := fun r => some (.int r)) (mm := fun _ => M) F dX7_comesTo_41 qX7_91 rfl (lo_T ht) rfl (fun r h => kT_stepped E hE ht h) rfl (Nat.le_of_ble_eq_true rfl) ⟨Nat.le_of_ble_eq_true rfl, Nat.le_of_ble_eq_true rfl⟩ (fun r7 => ?_)
        refine jm_istore (i := 5) (lv' := [some (.ref (jm_a E t 0)), none, none, none, some (.int x3), some (.int r7), some (.int s5.2)]) F dX7_comesTo_44 (by decide) rfl rfl ?_
        refine jm_iinc (i := 6) (lv' := [some (.ref (jm_a E t 0)), none, none, none, some (.int x3), some (.int r7), some (.int (s5.2 + 1))]) F dX7_comesTo_46 kc_1 rfl (by decide) rfl rfl ?_
        refine jm_goto F dX7_comesTo_49 ?_
        exact jm_weakD F (lv' := [some (.ref (jm_a E t 0)), none, none, none, some (.int x3), some (.int r7), some (.int (s5.2 + 1))]) ⟨rfl, rfl, rfl, rfl, trivial⟩ (fun h => h)
    · refine jm_iload F dX7_comesTo_52 rfl ?_
      exact jm_iret F dX7_comesTo_54 (fun h => h)
  exact G r h hz
theorem dX7_overOf_0 : jm_d cX7_overOf 0 (.aload_n 0) 1 1 := ⟨by decide +kernel, rfl⟩
theorem dX7_overOf_1 : jm_d cX7_overOf 1 (.getfield 9) 3 4 := ⟨by decide +kernel, rfl⟩
theorem dX7_overOf_4 : jm_d cX7_overOf 4 (.iload_n 1) 1 5 := ⟨by decide +kernel, rfl⟩
theorem dX7_overOf_5 : jm_d cX7_overOf 5 (.iaload) 1 6 := ⟨by decide +kernel, rfl⟩
theorem dX7_overOf_6 : jm_d cX7_overOf 6 (.ineg) 1 7 := ⟨by decide +kernel, rfl⟩
theorem dX7_overOf_7 : jm_d cX7_overOf 7 (.aload_n 0) 1 8 := ⟨by decide +kernel, rfl⟩
theorem dX7_overOf_8 : jm_d cX7_overOf 8 (.getfield 9) 3 11 := ⟨by decide +kernel, rfl⟩
theorem dX7_overOf_11 : jm_d cX7_overOf 11 (.iload_n 2) 1 12 := ⟨by decide +kernel, rfl⟩
theorem dX7_overOf_12 : jm_d cX7_overOf 12 (.iaload) 1 13 := ⟨by decide +kernel, rfl⟩
theorem dX7_overOf_13 : jm_d cX7_overOf 13 (.isub) 1 14 := ⟨by decide +kernel, rfl⟩
theorem dX7_overOf_14 : jm_d cX7_overOf 14 (.istore_n 3) 1 15 := ⟨by decide +kernel, rfl⟩
theorem dX7_overOf_15 : jm_d cX7_overOf 15 (.iconst 0) 1 16 := ⟨by decide +kernel, rfl⟩
theorem dX7_overOf_16 : jm_d cX7_overOf 16 (.istore 4) 2 18 := ⟨by decide +kernel, rfl⟩
theorem dX7_overOf_18 : jm_d cX7_overOf 18 (.iload 4) 2 20 := ⟨by decide +kernel, rfl⟩
theorem dX7_overOf_20 : jm_d cX7_overOf 20 (.aload_n 0) 1 21 := ⟨by decide +kernel, rfl⟩
theorem dX7_overOf_21 : jm_d cX7_overOf 21 (.getfield 55) 3 24 := ⟨by decide +kernel, rfl⟩
theorem dX7_overOf_24 : jm_b cX7_overOf 24 (.if_icmp .ge) 27 55 := ⟨31, by decide +kernel, rfl, by decide⟩
theorem dX7_overOf_27 : jm_d cX7_overOf 27 (.aload_n 0) 1 28 := ⟨by decide +kernel, rfl⟩
theorem dX7_overOf_28 : jm_d cX7_overOf 28 (.iload_n 1) 1 29 := ⟨by decide +kernel, rfl⟩
theorem dX7_overOf_29 : jm_d cX7_overOf 29 (.iload_n 2) 1 30 := ⟨by decide +kernel, rfl⟩
theorem dX7_overOf_30 : jm_d cX7_overOf 30 (.iload 4) 2 32 := ⟨by decide +kernel, rfl⟩
theorem dX7_overOf_32 : jm_d cX7_overOf 32 (.invokevirtual 98) 3 35 := ⟨by decide +kernel, rfl⟩
theorem dX7_overOf_35 : jm_b cX7_overOf 35 (.ifCond .eq) 38 49 := ⟨14, by decide +kernel, rfl, by decide⟩
theorem dX7_overOf_49 : jm_d cX7_overOf 49 (.iinc 4 1) 3 52 := ⟨by decide +kernel, rfl⟩
theorem dX7_overOf_52 : jm_b cX7_overOf 52 .goto 55 18 := ⟨(-34), by decide +kernel, rfl, by decide⟩
theorem dX7_overOf_38 : jm_d cX7_overOf 38 (.iload_n 3) 1 39 := ⟨by decide +kernel, rfl⟩
theorem dX7_overOf_39 : jm_d cX7_overOf 39 (.aload_n 0) 1 40 := ⟨by decide +kernel, rfl⟩
theorem dX7_overOf_40 : jm_d cX7_overOf 40 (.iload_n 1) 1 41 := ⟨by decide +kernel, rfl⟩
theorem dX7_overOf_41 : jm_d cX7_overOf 41 (.iload_n 2) 1 42 := ⟨by decide +kernel, rfl⟩
theorem dX7_overOf_42 : jm_d cX7_overOf 42 (.iload 4) 2 44 := ⟨by decide +kernel, rfl⟩
theorem dX7_overOf_44 : jm_d cX7_overOf 44 (.invokevirtual 102) 3 47 := ⟨by decide +kernel, rfl⟩
theorem dX7_overOf_47 : jm_d cX7_overOf 47 (.iadd) 1 48 := ⟨by decide +kernel, rfl⟩
theorem dX7_overOf_48 : jm_d cX7_overOf 48 (.istore_n 3) 1 49 := ⟨by decide +kernel, rfl⟩
theorem dX7_overOf_55 : jm_d cX7_overOf 55 (.iload_n 3) 1 56 := ⟨by decide +kernel, rfl⟩
theorem dX7_overOf_56 : jm_d cX7_overOf 56 (.ireturn) 1 57 := ⟨by decide +kernel, rfl⟩
set_option maxHeartbeats 4000000 in
set_option maxRecDepth 100000 in
theorem kT_overOf (E : jm_Ev) (hE : jm_dj E jm_LC) {M : jm_M} {t : Nat} {p1 : Int32} {p2 : Int32} (ht : jm_isT t) {r : Int32} (h : sT_overOf M t p1 p2 = some r) : jm_Ct E jm_LC yX7_overOf cX7_overOf 5 (some .int) 3 93 [.ref (jm_a E t 0), .int p1, .int p2] M (some (.int r)) M := by
  refine jm_enter (lv := [some (.ref (jm_a E t 0)), some (.int p1), some (.int p2), none, none]) hE (by decide) (Nat.le_of_ble_eq_true rfl) rfl ?_
  intro z w F hz
  have G : jm_G w 0 [some (.ref (jm_a E t 0)), some (.int p1), some (.int p2), none, none] [] M (sT_overOf M t p1 p2) (fun e => z (some (.int e)) M) := by
    unfold sT_overOf
    refine jm_aload_n (i := 0) F dX7_overOf_0 rfl rfl ?_
    refine jm_getR F dX7_overOf_1 fl_X7_9 (lo_T ht) rfl ?_
    refine jm_iload_n (i := 1) F dX7_overOf_4 rfl rfl ?_
    refine jm_iald F dX7_overOf_5 (la_T_2 ht) (fun v1 => ?_)
    refine jm_ineg F dX7_overOf_6 ?_
    refine jm_aload_n (i := 0) F dX7_overOf_7 rfl rfl ?_
    refine jm_getR F dX7_overOf_8 fl_X7_9 (lo_T ht) rfl ?_
    refine jm_iload_n (i := 2) F dX7_overOf_11 rfl rfl ?_
    refine jm_iald F dX7_overOf_12 (la_T_2 ht) (fun v2 => ?_)
    refine jm_isub F dX7_overOf_13 ?_
    refine jm_nameI (f := fun x3 => [.int x3]) (fun x3 => ?_) rfl
    refine jm_istore_n (i := 3) (lv' := [some (.ref (jm_a E t 0)), some (.int p1), some (.int p2), some (.int x3), none]) F dX7_overOf_14 rfl (by decide) rfl rfl ?_
    refine jm_iconst F dX7_overOf_15 kc_0 ?_
    refine jm_istore (i := 4) (lv' := [some (.ref (jm_a E t 0)), some (.int p1), some (.int p2), some (.int x3), some (.int 0)]) F dX7_overOf_16 (by decide) rfl rfl ?_
    refine jm_bind (pcJ := 55) (lvJ := fun e10 => [none, none, none, some (.int e10), none]) (stJ := fun _ => []) (MJ := fun e10 => M) ?_ (fun e10 => ?_)
    · refine jm_weak F (lv' := [some (.ref (jm_a E t 0)), some (.int p1), some (.int p2), some (.int x3), some (.int 0)]) ⟨rfl, rfl, rfl, rfl, rfl, trivial⟩ ?_
      refine jm_loopR (lvH := fun s4 => [some (.ref (jm_a E t 0)), some (.int p1), some (.int p2), some (.int s4.1), some (.int s4.2)]) (MH := fun s4 => M) (fun s4 => ?_) jm_N (x3, 0)
      unfold sT_overOf_L18
      refine jm_iload F dX7_overOf_18 rfl ?_
      refine jm_aload_n (i := 0) F dX7_overOf_20 rfl rfl ?_
      refine jm_getI F dX7_overOf_21 fl_X7_55 (lo_T ht) rfl ?_
      refine jm_icmp_ge F dX7_overOf_24 (fun c5 => ?_) (fun c5 => ?_)
      · exact jm_weakD F (lv' := [none, none, none, some (.int s4.1), none]) ⟨rfl, trivial⟩ (fun h => h)
      · refine jm_aload_n (i := 0) F dX7_overOf_27 rfl rfl ?_
        refine jm_iload_n (i := 1) F dX7_overOf_28 rfl rfl ?_
        refine jm_iload_n (i := 2) F dX7_overOf_29 rfl rfl ?_
        refine jm_iload F dX7_overOf_30 rfl ?_
        refine jm_callV (As := [.int p1, .int p2, .int s4.2]) (st := []) (rv := fun r => some (.int r)) (mm := fun _ => M) F dX7_overOf_32 qX7_98 rfl (lo_T ht) rfl (fun r h => kT_isOnPan E hE ht h) rfl (Nat.le_of_ble_eq_true rfl) ⟨Nat.le_of_ble_eq_true rfl, Nat.le_of_ble_eq_true rfl⟩ (fun r6 => ?_)
        refine jm_if_eq F dX7_overOf_35 (fun c7 => ?_) (fun c7 => ?_)
        · refine jm_iinc (i := 4) (lv' := [some (.ref (jm_a E t 0)), some (.int p1), some (.int p2), some (.int s4.1), some (.int (s4.2 + 1))]) F dX7_overOf_49 kc_1 rfl (by decide) rfl rfl ?_
          refine jm_goto F dX7_overOf_52 ?_
          exact jm_weakD F (lv' := [some (.ref (jm_a E t 0)), some (.int p1), some (.int p2), some (.int s4.1), some (.int (s4.2 + 1))]) ⟨rfl, rfl, rfl, rfl, rfl, trivial⟩ (fun h => h)
        · refine jm_iload_n (i := 3) F dX7_overOf_38 rfl rfl ?_
          refine jm_aload_n (i := 0) F dX7_overOf_39 rfl rfl ?_
          refine jm_iload_n (i := 1) F dX7_overOf_40 rfl rfl ?_
          refine jm_iload_n (i := 2) F dX7_overOf_41 rfl rfl ?_
          refine jm_iload F dX7_overOf_42 rfl ?_
          refine jm_callV (As := [.int p1, .int p2, .int s4.2]) (st := [.int s4.1]) (rv := fun r => some (.int r)) (mm := fun _ => M) F dX7_overOf_44 qX7_102 rfl (lo_T ht) rfl (fun r h => kT_comesTo E hE ht h) rfl (Nat.le_of_ble_eq_true rfl) ⟨Nat.le_of_ble_eq_true rfl, Nat.le_of_ble_eq_true rfl⟩ (fun r8 => ?_)
          refine jm_iadd F dX7_overOf_47 ?_
          refine jm_nameI (f := fun x9 => [.int x9]) (fun x9 => ?_) rfl
          refine jm_istore_n (i := 3) (lv' := [some (.ref (jm_a E t 0)), some (.int p1), some (.int p2), some (.int x9), some (.int s4.2)]) F dX7_overOf_48 rfl (by decide) rfl rfl ?_
          refine jm_iinc (i := 4) (lv' := [some (.ref (jm_a E t 0)), some (.int p1), some (.int p2), some (.int x9), some (.int (s4.2 + 1))]) F dX7_overOf_49 kc_1 rfl (by decide) rfl rfl ?_
          refine jm_goto F dX7_overOf_52 ?_
          exact jm_weakD F (lv' := [some (.ref (jm_a E t 0)), some (.int p1), some (.int p2), some (.int x9), some (.int (s4.2 + 1))]) ⟨rfl, rfl, rfl, rfl, rfl, trivial⟩ (fun h => h)
    · refine jm_iload_n (i := 3) F dX7_overOf_55 rfl rfl ?_
      exact jm_iret F dX7_overOf_56 (fun h => h)
  exact G r h hz
theorem dX8_over_0 : jm_d cX8_over 0 (.aload_n 0) 1 1 := ⟨by decide +kernel, rfl⟩
theorem dX8_over_1 : jm_d cX8_over 1 (.iload_n 1) 1 2 := ⟨by decide +kernel, rfl⟩
theorem dX8_over_2 : jm_d cX8_over 2 (.iload_n 2) 1 3 := ⟨by decide +kernel, rfl⟩
theorem dX8_over_3 : jm_d cX8_over 3 (.invokevirtual 188) 3 6 := ⟨by decide +kernel, rfl⟩
theorem dX8_over_6 : jm_b cX8_over 6 (.ifCond .ne) 9 18 := ⟨12, by decide +kernel, rfl, by decide⟩
theorem dX8_over_9 : jm_d cX8_over 9 (.ldc 192) 2 11 := ⟨by decide +kernel, rfl⟩
theorem dX8_over_11 : jm_d cX8_over 11 (.aload_n 0) 1 12 := ⟨by decide +kernel, rfl⟩
theorem dX8_over_12 : jm_d cX8_over 12 (.iconst (-1)) 1 13 := ⟨by decide +kernel, rfl⟩
theorem dX8_over_13 : jm_d cX8_over 13 (.invokevirtual 64) 3 16 := ⟨by decide +kernel, rfl⟩
theorem dX8_over_16 : jm_d cX8_over 16 (.isub) 1 17 := ⟨by decide +kernel, rfl⟩
theorem dX8_over_17 : jm_d cX8_over 17 (.ireturn) 1 18 := ⟨by decide +kernel, rfl⟩
theorem dX8_over_18 : jm_d cX8_over 18 (.aload_n 0) 1 19 := ⟨by decide +kernel, rfl⟩
theorem dX8_over_19 : jm_d cX8_over 19 (.getfield 10) 3 22 := ⟨by decide +kernel, rfl⟩
theorem dX8_over_22 : jm_d cX8_over 22 (.iload_n 1) 1 23 := ⟨by decide +kernel, rfl⟩
theorem dX8_over_23 : jm_d cX8_over 23 (.iload_n 2) 1 24 := ⟨by decide +kernel, rfl⟩
theorem dX8_over_24 : jm_d cX8_over 24 (.invokevirtual 193) 3 27 := ⟨by decide +kernel, rfl⟩
theorem dX8_over_27 : jm_d cX8_over 27 (.ireturn) 1 28 := ⟨by decide +kernel, rfl⟩
set_option maxHeartbeats 4000000 in
set_option maxRecDepth 100000 in
theorem kW_over (E : jm_Ev) (hE : jm_dj E jm_LC) {M : jm_M} {p1 : Int32} {p2 : Int32}  {r : Int32 × jm_M} (h : sW_over M p1 p2 = some r) : jm_Ct E jm_LC yX8_over cX8_over 3 (some .int) 4 117 [.ref (jm_a E 0 0), .int p1, .int p2] M (some (.int r.1)) r.2 := by
  refine jm_enter (lv := [some (.ref (jm_a E 0 0)), some (.int p1), some (.int p2)]) hE (by decide) (Nat.le_of_ble_eq_true rfl) rfl ?_
  intro z w F hz
  have G : jm_G w 0 [some (.ref (jm_a E 0 0)), some (.int p1), some (.int p2)] [] M (sW_over M p1 p2) (fun e => z (some (.int e.1)) e.2) := by
    unfold sW_over
    refine jm_aload_n (i := 0) F dX8_over_0 rfl rfl ?_
    refine jm_iload_n (i := 1) F dX8_over_1 rfl rfl ?_
    refine jm_iload_n (i := 2) F dX8_over_2 rfl rfl ?_
    refine jm_callV (As := [.int p1, .int p2]) (st := []) (rv := fun r => some (.int r)) (mm := fun _ => M) F dX8_over_3 qX8_188 rfl lo_X8 rfl (fun r h => kW_areTwo E hE h) rfl (Nat.le_of_ble_eq_true rfl) ⟨Nat.le_of_ble_eq_true rfl, Nat.le_of_ble_eq_true rfl⟩ (fun r1 => ?_)
    refine jm_if_ne F dX8_over_6 (fun c2 => ?_) (fun c2 => ?_)
    · refine jm_ldc F dX8_over_9 tw_618 ?_
      refine jm_aload_n (i := 0) F dX8_over_11 rfl rfl ?_
      refine jm_iconst F dX8_over_12 kc_m1 ?_
      refine jm_callV (As := [.int (-1)]) (st := [.int 1000000000]) (rv := fun r => some (.int r.1)) (mm := fun r => r.2) F dX8_over_13 qX8_64 rfl lo_X8 rfl (fun r h => kW_refuse E hE h) rfl (Nat.le_of_ble_eq_true rfl) ⟨Nat.le_of_ble_eq_true rfl, Nat.le_of_ble_eq_true rfl⟩ (fun r3 => ?_)
      refine jm_isub F dX8_over_16 ?_
      exact jm_iret F dX8_over_17 (fun h => h)
    · refine jm_aload_n (i := 0) F dX8_over_18 rfl rfl ?_
      refine jm_getR F dX8_over_19 fl_X8_10 lo_X8 rfl ?_
      refine jm_iload_n (i := 1) F dX8_over_22 rfl rfl ?_
      refine jm_iload_n (i := 2) F dX8_over_23 rfl rfl ?_
      refine jm_callV (As := [.int p1, .int p2]) (st := []) (rv := fun r => some (.int r)) (mm := fun _ => M) F dX8_over_24 qX8_193 rfl (lo_T isT_1) rfl (fun r h => kT_overOf E hE isT_1 h) rfl (Nat.le_of_ble_eq_true rfl) ⟨Nat.le_of_ble_eq_true rfl, Nat.le_of_ble_eq_true rfl⟩ (fun r4 => ?_)
      exact jm_iret F dX8_over_27 (fun h => h)
  exact G r h hz
theorem dX8_pan_0 : jm_d cX8_pan 0 (.aload_n 0) 1 1 := ⟨by decide +kernel, rfl⟩
theorem dX8_pan_1 : jm_d cX8_pan 1 (.iload_n 1) 1 2 := ⟨by decide +kernel, rfl⟩
theorem dX8_pan_2 : jm_d cX8_pan 2 (.iload_n 2) 1 3 := ⟨by decide +kernel, rfl⟩
theorem dX8_pan_3 : jm_d cX8_pan 3 (.invokevirtual 188) 3 6 := ⟨by decide +kernel, rfl⟩
theorem dX8_pan_6 : jm_b cX8_pan 6 (.ifCond .eq) 9 20 := ⟨14, by decide +kernel, rfl, by decide⟩
theorem dX8_pan_20 : jm_d cX8_pan 20 (.aload_n 0) 1 21 := ⟨by decide +kernel, rfl⟩
theorem dX8_pan_21 : jm_d cX8_pan 21 (.iconst (-1)) 1 22 := ⟨by decide +kernel, rfl⟩
theorem dX8_pan_22 : jm_d cX8_pan 22 (.invokevirtual 64) 3 25 := ⟨by decide +kernel, rfl⟩
theorem dX8_pan_25 : jm_d cX8_pan 25 (.ireturn) 1 26 := ⟨by decide +kernel, rfl⟩
theorem dX8_pan_9 : jm_d cX8_pan 9 (.aload_n 0) 1 10 := ⟨by decide +kernel, rfl⟩
theorem dX8_pan_10 : jm_d cX8_pan 10 (.getfield 10) 3 13 := ⟨by decide +kernel, rfl⟩
theorem dX8_pan_13 : jm_d cX8_pan 13 (.iload_n 3) 1 14 := ⟨by decide +kernel, rfl⟩
theorem dX8_pan_14 : jm_d cX8_pan 14 (.invokevirtual 133) 3 17 := ⟨by decide +kernel, rfl⟩
theorem dX8_pan_17 : jm_b cX8_pan 17 (.ifCond .ne) 20 26 := ⟨9, by decide +kernel, rfl, by decide⟩
theorem dX8_pan_26 : jm_d cX8_pan 26 (.aload_n 0) 1 27 := ⟨by decide +kernel, rfl⟩
theorem dX8_pan_27 : jm_d cX8_pan 27 (.getfield 10) 3 30 := ⟨by decide +kernel, rfl⟩
theorem dX8_pan_30 : jm_d cX8_pan 30 (.iload_n 1) 1 31 := ⟨by decide +kernel, rfl⟩
theorem dX8_pan_31 : jm_d cX8_pan 31 (.iload_n 2) 1 32 := ⟨by decide +kernel, rfl⟩
theorem dX8_pan_32 : jm_d cX8_pan 32 (.iload_n 3) 1 33 := ⟨by decide +kernel, rfl⟩
theorem dX8_pan_33 : jm_d cX8_pan 33 (.invokevirtual 196) 3 36 := ⟨by decide +kernel, rfl⟩
theorem dX8_pan_36 : jm_d cX8_pan 36 (.ireturn) 1 37 := ⟨by decide +kernel, rfl⟩
set_option maxHeartbeats 4000000 in
set_option maxRecDepth 100000 in
theorem kW_pan (E : jm_Ev) (hE : jm_dj E jm_LC) {M : jm_M} {p1 : Int32} {p2 : Int32} {p3 : Int32}  {r : Int32 × jm_M} (h : sW_pan M p1 p2 p3 = some r) : jm_Ct E jm_LC yX8_pan cX8_pan 4 (some .int) 3 93 [.ref (jm_a E 0 0), .int p1, .int p2, .int p3] M (some (.int r.1)) r.2 := by
  refine jm_enter (lv := [some (.ref (jm_a E 0 0)), some (.int p1), some (.int p2), some (.int p3)]) hE (by decide) (Nat.le_of_ble_eq_true rfl) rfl ?_
  intro z w F hz
  have G : jm_G w 0 [some (.ref (jm_a E 0 0)), some (.int p1), some (.int p2), some (.int p3)] [] M (sW_pan M p1 p2 p3) (fun e => z (some (.int e.1)) e.2) := by
    unfold sW_pan
    refine jm_aload_n (i := 0) F dX8_pan_0 rfl rfl ?_
    refine jm_iload_n (i := 1) F dX8_pan_1 rfl rfl ?_
    refine jm_iload_n (i := 2) F dX8_pan_2 rfl rfl ?_
    refine jm_callV (As := [.int p1, .int p2]) (st := []) (rv := fun r => some (.int r)) (mm := fun _ => M) F dX8_pan_3 qX8_188 rfl lo_X8 rfl (fun r h => kW_areTwo E hE h) rfl (Nat.le_of_ble_eq_true rfl) ⟨Nat.le_of_ble_eq_true rfl, Nat.le_of_ble_eq_true rfl⟩ (fun r1 => ?_)
    refine jm_if_eq F dX8_pan_6 (fun c2 => ?_) (fun c2 => ?_)
    · refine jm_aload_n (i := 0) F dX8_pan_20 rfl rfl ?_
      refine jm_iconst F dX8_pan_21 kc_m1 ?_
      refine jm_callV (As := [.int (-1)]) (st := []) (rv := fun r => some (.int r.1)) (mm := fun r => r.2) F dX8_pan_22 qX8_64 rfl lo_X8 rfl (fun r h => kW_refuse E hE h) rfl (Nat.le_of_ble_eq_true rfl) ⟨Nat.le_of_ble_eq_true rfl, Nat.le_of_ble_eq_true rfl⟩ (fun r3 => ?_)
      exact jm_iret F dX8_pan_25 (fun h => h)
    · refine jm_aload_n (i := 0) F dX8_pan_9 rfl rfl ?_
      refine jm_getR F dX8_pan_10 fl_X8_10 lo_X8 rfl ?_
      refine jm_iload_n (i := 3) F dX8_pan_13 rfl rfl ?_
      refine jm_callV (As := [.int p3]) (st := []) (rv := fun r => some (.int r)) (mm := fun _ => M) F dX8_pan_14 qX8_133 rfl (lo_T isT_1) rfl (fun r h => kT_hasBook E hE isT_1 h) rfl (Nat.le_of_ble_eq_true rfl) ⟨Nat.le_of_ble_eq_true rfl, Nat.le_of_ble_eq_true rfl⟩ (fun r4 => ?_)
      refine jm_if_ne F dX8_pan_17 (fun c5 => ?_) (fun c5 => ?_)
      · refine jm_aload_n (i := 0) F dX8_pan_20 rfl rfl ?_
        refine jm_iconst F dX8_pan_21 kc_m1 ?_
        refine jm_callV (As := [.int (-1)]) (st := []) (rv := fun r => some (.int r.1)) (mm := fun r => r.2) F dX8_pan_22 qX8_64 rfl lo_X8 rfl (fun r h => kW_refuse E hE h) rfl (Nat.le_of_ble_eq_true rfl) ⟨Nat.le_of_ble_eq_true rfl, Nat.le_of_ble_eq_true rfl⟩ (fun r6 => ?_)
        exact jm_iret F dX8_pan_25 (fun h => h)
      · refine jm_aload_n (i := 0) F dX8_pan_26 rfl rfl ?_
        refine jm_getR F dX8_pan_27 fl_X8_10 lo_X8 rfl ?_
        refine jm_iload_n (i := 1) F dX8_pan_30 rfl rfl ?_
        refine jm_iload_n (i := 2) F dX8_pan_31 rfl rfl ?_
        refine jm_iload_n (i := 3) F dX8_pan_32 rfl rfl ?_
        refine jm_callV (As := [.int p1, .int p2, .int p3]) (st := []) (rv := fun r => some (.int r)) (mm := fun _ => M) F dX8_pan_33 qX8_196 rfl (lo_T isT_1) rfl (fun r h => kT_comesTo E hE isT_1 h) rfl (Nat.le_of_ble_eq_true rfl) ⟨Nat.le_of_ble_eq_true rfl, Nat.le_of_ble_eq_true rfl⟩ (fun r7 => ?_)
        exact jm_iret F dX8_pan_36 (fun h => h)
  exact G r h hz
theorem dX8_isNeither_0 : jm_d cX8_isNeither 0 (.iload_n 1) 1 1 := ⟨by decide +kernel, rfl⟩
theorem dX8_isNeither_1 : jm_b cX8_isNeither 1 (.ifCond .eq) 4 13 := ⟨12, by decide +kernel, rfl, by decide⟩
theorem dX8_isNeither_13 : jm_d cX8_isNeither 13 (.iconst 0) 1 14 := ⟨by decide +kernel, rfl⟩
theorem dX8_isNeither_14 : jm_d cX8_isNeither 14 (.ireturn) 1 15 := ⟨by decide +kernel, rfl⟩
theorem dX8_isNeither_4 : jm_d cX8_isNeither 4 (.iload_n 1) 1 5 := ⟨by decide +kernel, rfl⟩
theorem dX8_isNeither_5 : jm_d cX8_isNeither 5 (.iconst 1) 1 6 := ⟨by decide +kernel, rfl⟩
theorem dX8_isNeither_6 : jm_b cX8_isNeither 6 (.if_icmp .eq) 9 13 := ⟨7, by decide +kernel, rfl, by decide⟩
theorem dX8_isNeither_9 : jm_d cX8_isNeither 9 (.iconst 1) 1 10 := ⟨by decide +kernel, rfl⟩
theorem dX8_isNeither_10 : jm_b cX8_isNeither 10 .goto 13 14 := ⟨4, by decide +kernel, rfl, by decide⟩
set_option maxHeartbeats 4000000 in
set_option maxRecDepth 100000 in
theorem kW_isNeither (E : jm_Ev) (hE : jm_dj E jm_LC) {p1 : Int32} {M : jm_M}  {r : Int32} (h : sW_isNeither p1 = some r) : jm_Ct E jm_LC yX8_isNeither cX8_isNeither 2 (some .boolean) 0 0 [.ref (jm_a E 0 0), .int p1] M (some (.int r)) M := by
  refine jm_enter (lv := [some (.ref (jm_a E 0 0)), some (.int p1)]) hE (by decide) (Nat.le_of_ble_eq_true rfl) rfl ?_
  intro z w F hz
  have G : jm_G w 0 [some (.ref (jm_a E 0 0)), some (.int p1)] [] M (sW_isNeither p1) (fun e => z (some (.int e)) M) := by
    unfold sW_isNeither
    refine jm_iload_n (i := 1) F dX8_isNeither_0 rfl rfl ?_
    refine jm_if_eq F dX8_isNeither_1 (fun c1 => ?_) (fun c1 => ?_)
    · refine jm_iconst F dX8_isNeither_13 kc_0 ?_
      exact jm_zret F dX8_isNeither_14 (Or.inl rfl) (fun h => h)
    · refine jm_iload_n (i := 1) F dX8_isNeither_4 rfl rfl ?_
      refine jm_iconst F dX8_isNeither_5 kc_1 ?_
      refine jm_icmp_eq F dX8_isNeither_6 (fun c2 => ?_) (fun c2 => ?_)
      · refine jm_iconst F dX8_isNeither_13 kc_0 ?_
        exact jm_zret F dX8_isNeither_14 (Or.inl rfl) (fun h => h)
      · refine jm_iconst F dX8_isNeither_9 kc_1 ?_
        refine jm_goto F dX8_isNeither_10 ?_
        exact jm_zret F dX8_isNeither_14 (Or.inr rfl) (fun h => h)
  exact G r h hz
theorem dX0_offer_0 : jm_d cX0_offer 0 (.iconst 0) 1 1 := ⟨by decide +kernel, rfl⟩
theorem dX0_offer_1 : jm_d cX0_offer 1 (.istore 4) 2 3 := ⟨by decide +kernel, rfl⟩
theorem dX0_offer_3 : jm_d cX0_offer 3 (.iconst 0) 1 4 := ⟨by decide +kernel, rfl⟩
theorem dX0_offer_4 : jm_d cX0_offer 4 (.istore 5) 2 6 := ⟨by decide +kernel, rfl⟩
theorem dX0_offer_6 : jm_d cX0_offer 6 (.iload 5) 2 8 := ⟨by decide +kernel, rfl⟩
theorem dX0_offer_8 : jm_d cX0_offer 8 (.aload_n 1) 1 9 := ⟨by decide +kernel, rfl⟩
theorem dX0_offer_9 : jm_d cX0_offer 9 (.getfield 35) 3 12 := ⟨by decide +kernel, rfl⟩
theorem dX0_offer_12 : jm_b cX0_offer 12 (.if_icmp .ge) 15 81 := ⟨69, by decide +kernel, rfl, by decide⟩
theorem dX0_offer_15 : jm_d cX0_offer 15 (.aload_n 0) 1 16 := ⟨by decide +kernel, rfl⟩
theorem dX0_offer_16 : jm_d cX0_offer 16 (.getfield 9) 3 19 := ⟨by decide +kernel, rfl⟩
theorem dX0_offer_19 : jm_d cX0_offer 19 (.iload 5) 2 21 := ⟨by decide +kernel, rfl⟩
theorem dX0_offer_21 : jm_d cX0_offer 21 (.aload_n 1) 1 22 := ⟨by decide +kernel, rfl⟩
theorem dX0_offer_22 : jm_d cX0_offer 22 (.iload 5) 2 24 := ⟨by decide +kernel, rfl⟩
theorem dX0_offer_24 : jm_d cX0_offer 24 (.invokevirtual 46) 3 27 := ⟨by decide +kernel, rfl⟩
theorem dX0_offer_27 : jm_d cX0_offer 27 (.iastore) 1 28 := ⟨by decide +kernel, rfl⟩
theorem dX0_offer_28 : jm_d cX0_offer 28 (.aload_n 0) 1 29 := ⟨by decide +kernel, rfl⟩
theorem dX0_offer_29 : jm_d cX0_offer 29 (.getfield 15) 3 32 := ⟨by decide +kernel, rfl⟩
theorem dX0_offer_32 : jm_d cX0_offer 32 (.iload 5) 2 34 := ⟨by decide +kernel, rfl⟩
theorem dX0_offer_34 : jm_d cX0_offer 34 (.aload_n 1) 1 35 := ⟨by decide +kernel, rfl⟩
theorem dX0_offer_35 : jm_d cX0_offer 35 (.iload_n 2) 1 36 := ⟨by decide +kernel, rfl⟩
theorem dX0_offer_36 : jm_d cX0_offer 36 (.iload_n 3) 1 37 := ⟨by decide +kernel, rfl⟩
theorem dX0_offer_37 : jm_d cX0_offer 37 (.iload 5) 2 39 := ⟨by decide +kernel, rfl⟩
theorem dX0_offer_39 : jm_d cX0_offer 39 (.invokevirtual 50) 3 42 := ⟨by decide +kernel, rfl⟩
theorem dX0_offer_42 : jm_d cX0_offer 42 (.iastore) 1 43 := ⟨by decide +kernel, rfl⟩
theorem dX0_offer_43 : jm_d cX0_offer 43 (.aload_n 1) 1 44 := ⟨by decide +kernel, rfl⟩
theorem dX0_offer_44 : jm_d cX0_offer 44 (.getfield 54) 3 47 := ⟨by decide +kernel, rfl⟩
theorem dX0_offer_47 : jm_d cX0_offer 47 (.iload 5) 2 49 := ⟨by decide +kernel, rfl⟩
theorem dX0_offer_49 : jm_d cX0_offer 49 (.iaload) 1 50 := ⟨by decide +kernel, rfl⟩
theorem dX0_offer_50 : jm_d cX0_offer 50 (.bipush 9) 2 52 := ⟨by decide +kernel, rfl⟩
theorem dX0_offer_52 : jm_b cX0_offer 52 (.if_icmp .ne) 55 75 := ⟨23, by decide +kernel, rfl, by decide⟩
theorem dX0_offer_55 : jm_d cX0_offer 55 (.aload_n 1) 1 56 := ⟨by decide +kernel, rfl⟩
theorem dX0_offer_56 : jm_d cX0_offer 56 (.iload_n 2) 1 57 := ⟨by decide +kernel, rfl⟩
theorem dX0_offer_57 : jm_d cX0_offer 57 (.iload_n 3) 1 58 := ⟨by decide +kernel, rfl⟩
theorem dX0_offer_58 : jm_d cX0_offer 58 (.iload 5) 2 60 := ⟨by decide +kernel, rfl⟩
theorem dX0_offer_60 : jm_d cX0_offer 60 (.invokevirtual 57) 3 63 := ⟨by decide +kernel, rfl⟩
theorem dX0_offer_63 : jm_b cX0_offer 63 (.ifCond .ne) 66 75 := ⟨12, by decide +kernel, rfl, by decide⟩
theorem dX0_offer_66 : jm_d cX0_offer 66 (.iload 4) 2 68 := ⟨by decide +kernel, rfl⟩
theorem dX0_offer_68 : jm_d cX0_offer 68 (.iconst 1) 1 69 := ⟨by decide +kernel, rfl⟩
theorem dX0_offer_69 : jm_d cX0_offer 69 (.iload 5) 2 71 := ⟨by decide +kernel, rfl⟩
theorem dX0_offer_71 : jm_d cX0_offer 71 (.ishl) 1 72 := ⟨by decide +kernel, rfl⟩
theorem dX0_offer_72 : jm_d cX0_offer 72 (.ior) 1 73 := ⟨by decide +kernel, rfl⟩
theorem dX0_offer_73 : jm_d cX0_offer 73 (.istore 4) 2 75 := ⟨by decide +kernel, rfl⟩
theorem dX0_offer_75 : jm_d cX0_offer 75 (.iinc 5 1) 3 78 := ⟨by decide +kernel, rfl⟩
theorem dX0_offer_78 : jm_b cX0_offer 78 .goto 81 6 := ⟨(-72), by decide +kernel, rfl, by decide⟩
theorem dX0_offer_81 : jm_d cX0_offer 81 (.iload 4) 2 83 := ⟨by decide +kernel, rfl⟩
theorem dX0_offer_83 : jm_d cX0_offer 83 (.ireturn) 1 84 := ⟨by decide +kernel, rfl⟩
set_option maxHeartbeats 4000000 in
set_option maxRecDepth 100000 in
theorem kB_offer (E : jm_Ev) (hE : jm_dj E jm_LC) {M : jm_M} {p1 : Nat} {p2 : Int32} {p3 : Int32} (hp1 : jm_isT p1) {r : Int32 × jm_M} (h : sB_offer M p1 p2 p3 = some r) : jm_Ct E jm_LC yX0_offer cX0_offer 6 (some .int) 3 93 [.ref (jm_a E 16 0), .ref (jm_a E p1 0), .int p2, .int p3] M (some (.int r.1)) r.2 := by
  refine jm_enter (lv := [some (.ref (jm_a E 16 0)), some (.ref (jm_a E p1 0)), some (.int p2), some (.int p3), none, none]) hE (by decide) (Nat.le_of_ble_eq_true rfl) rfl ?_
  intro z w F hz
  have G : jm_G w 0 [some (.ref (jm_a E 16 0)), some (.ref (jm_a E p1 0)), some (.int p2), some (.int p3), none, none] [] M (sB_offer M p1 p2 p3) (fun e => z (some (.int e.1)) e.2) := by
    unfold sB_offer
    refine jm_iconst F dX0_offer_0 kc_0 ?_
    refine jm_istore (i := 4) (lv' := [some (.ref (jm_a E 16 0)), some (.ref (jm_a E p1 0)), some (.int p2), some (.int p3), some (.int 0), none]) F dX0_offer_1 (by decide) rfl rfl ?_
    refine jm_iconst F dX0_offer_3 kc_0 ?_
    refine jm_istore (i := 5) (lv' := [some (.ref (jm_a E 16 0)), some (.ref (jm_a E p1 0)), some (.int p2), some (.int p3), some (.int 0), some (.int 0)]) F dX0_offer_4 (by decide) rfl rfl ?_
    refine jm_bind (pcJ := 81) (lvJ := fun e12 => [none, none, none, none, some (.int e12.1), none]) (stJ := fun _ => []) (MJ := fun e12 => e12.2) ?_ (fun e12 => ?_)
    · refine jm_weak F (lv' := [some (.ref (jm_a E 16 0)), some (.ref (jm_a E p1 0)), some (.int p2), some (.int p3), some (.int 0), some (.int 0)]) ⟨rfl, rfl, rfl, rfl, rfl, rfl, trivial⟩ ?_
      refine jm_loopR (lvH := fun s1 => [some (.ref (jm_a E 16 0)), some (.ref (jm_a E p1 0)), some (.int p2), some (.int p3), some (.int s1.1), some (.int s1.2.1)]) (MH := fun s1 => s1.2.2) (fun s1 => ?_) jm_N (0, 0, M)
      unfold sB_offer_L6
      refine jm_iload F dX0_offer_6 rfl ?_
      refine jm_aload_n (i := 1) F dX0_offer_8 rfl rfl ?_
      refine jm_getI F dX0_offer_9 fl_X0_35 (lo_T hp1) rfl ?_
      refine jm_icmp_ge F dX0_offer_12 (fun c2 => ?_) (fun c2 => ?_)
      · exact jm_weakD F (lv' := [none, none, none, none, some (.int s1.1), none]) ⟨rfl, trivial⟩ (fun h => h)
      · refine jm_aload_n (i := 0) F dX0_offer_15 rfl rfl ?_
        refine jm_getR F dX0_offer_16 fl_X0_9 lo_X0 rfl ?_
        refine jm_iload F dX0_offer_19 rfl ?_
        refine jm_aload_n (i := 1) F dX0_offer_21 rfl rfl ?_
        refine jm_iload F dX0_offer_22 rfl ?_
        refine jm_callV (As := [.int s1.2.1]) (st := [.int s1.2.1, .ref (jm_a E 16 1)]) (rv := fun r => some (.int r)) (mm := fun _ => s1.2.2) F dX0_offer_24 qX0_46 rfl (lo_T hp1) rfl (fun r h => kT_priceOf E hE hp1 h) rfl (Nat.le_of_ble_eq_true rfl) ⟨Nat.le_of_ble_eq_true rfl, Nat.le_of_ble_eq_true rfl⟩ (fun r3 => ?_)
        refine jm_iast F dX0_offer_27 la_X0_1 (fun M4 => ?_)
        refine jm_aload_n (i := 0) F dX0_offer_28 rfl rfl ?_
        refine jm_getR F dX0_offer_29 fl_X0_15 lo_X0 rfl ?_
        refine jm_iload F dX0_offer_32 rfl ?_
        refine jm_aload_n (i := 1) F dX0_offer_34 rfl rfl ?_
        refine jm_iload_n (i := 2) F dX0_offer_35 rfl rfl ?_
        refine jm_iload_n (i := 3) F dX0_offer_36 rfl rfl ?_
        refine jm_iload F dX0_offer_37 rfl ?_
        refine jm_callV (As := [.int p2, .int p3, .int s1.2.1]) (st := [.int s1.2.1, .ref (jm_a E 16 2)]) (rv := fun r => some (.int r)) (mm := fun _ => M4) F dX0_offer_39 qX0_50 rfl (lo_T hp1) rfl (fun r h => kT_comesTo E hE hp1 h) rfl (Nat.le_of_ble_eq_true rfl) ⟨Nat.le_of_ble_eq_true rfl, Nat.le_of_ble_eq_true rfl⟩ (fun r5 => ?_)
        refine jm_iast F dX0_offer_42 la_X0_2 (fun M6 => ?_)
        refine jm_aload_n (i := 1) F dX0_offer_43 rfl rfl ?_
        refine jm_getR F dX0_offer_44 fl_X0_54 (lo_T hp1) rfl ?_
        refine jm_iload F dX0_offer_47 rfl ?_
        refine jm_iald F dX0_offer_49 (la_T_8 hp1) (fun v7 => ?_)
        refine jm_bipush F dX0_offer_50 kb_9 ?_
        refine jm_icmp_ne F dX0_offer_52 (fun c8 => ?_) (fun c8 => ?_)
        · refine jm_aload_n (i := 1) F dX0_offer_55 rfl rfl ?_
          refine jm_iload_n (i := 2) F dX0_offer_56 rfl rfl ?_
          refine jm_iload_n (i := 3) F dX0_offer_57 rfl rfl ?_
          refine jm_iload F dX0_offer_58 rfl ?_
          refine jm_callV (As := [.int p2, .int p3, .int s1.2.1]) (st := []) (rv := fun r => some (.int r)) (mm := fun _ => M6) F dX0_offer_60 qX0_57 rfl (lo_T hp1) rfl (fun r h => kT_isOnPan E hE hp1 h) rfl (Nat.le_of_ble_eq_true rfl) ⟨Nat.le_of_ble_eq_true rfl, Nat.le_of_ble_eq_true rfl⟩ (fun r9 => ?_)
          refine jm_if_ne F dX0_offer_63 (fun c10 => ?_) (fun c10 => ?_)
          · refine jm_iload F dX0_offer_66 rfl ?_
            refine jm_iconst F dX0_offer_68 kc_1 ?_
            refine jm_iload F dX0_offer_69 rfl ?_
            refine jm_ishl F dX0_offer_71 ?_
            refine jm_ior F dX0_offer_72 ?_
            refine jm_nameI (f := fun x11 => [.int x11]) (fun x11 => ?_) rfl
            refine jm_istore (i := 4) (lv' := [some (.ref (jm_a E 16 0)), some (.ref (jm_a E p1 0)), some (.int p2), some (.int p3), some (.int x11), some (.int s1.2.1)]) F dX0_offer_73 (by decide) rfl rfl ?_
            refine jm_iinc (i := 5) (lv' := [some (.ref (jm_a E 16 0)), some (.ref (jm_a E p1 0)), some (.int p2), some (.int p3), some (.int x11), some (.int (s1.2.1 + 1))]) F dX0_offer_75 kc_1 rfl (by decide) rfl rfl ?_
            refine jm_goto F dX0_offer_78 ?_
            exact jm_weakD F (lv' := [some (.ref (jm_a E 16 0)), some (.ref (jm_a E p1 0)), some (.int p2), some (.int p3), some (.int x11), some (.int (s1.2.1 + 1))]) ⟨rfl, rfl, rfl, rfl, rfl, rfl, trivial⟩ (fun h => h)
          · refine jm_iinc (i := 5) (lv' := [some (.ref (jm_a E 16 0)), some (.ref (jm_a E p1 0)), some (.int p2), some (.int p3), some (.int s1.1), some (.int (s1.2.1 + 1))]) F dX0_offer_75 kc_1 rfl (by decide) rfl rfl ?_
            refine jm_goto F dX0_offer_78 ?_
            exact jm_weakD F (lv' := [some (.ref (jm_a E 16 0)), some (.ref (jm_a E p1 0)), some (.int p2), some (.int p3), some (.int s1.1), some (.int (s1.2.1 + 1))]) ⟨rfl, rfl, rfl, rfl, rfl, rfl, trivial⟩ (fun h => h)
        · refine jm_iinc (i := 5) (lv' := [some (.ref (jm_a E 16 0)), some (.ref (jm_a E p1 0)), some (.int p2), some (.int p3), some (.int s1.1), some (.int (s1.2.1 + 1))]) F dX0_offer_75 kc_1 rfl (by decide) rfl rfl ?_
          refine jm_goto F dX0_offer_78 ?_
          exact jm_weakD F (lv' := [some (.ref (jm_a E 16 0)), some (.ref (jm_a E p1 0)), some (.int p2), some (.int p3), some (.int s1.1), some (.int (s1.2.1 + 1))]) ⟨rfl, rfl, rfl, rfl, rfl, rfl, trivial⟩ (fun h => h)
    · refine jm_iload F dX0_offer_81 rfl ?_
      exact jm_iret F dX0_offer_83 (fun h => h)
  exact G r h hz
theorem dX0_sumOf_0 : jm_d cX0_sumOf 0 (.iconst 0) 1 1 := ⟨by decide +kernel, rfl⟩
theorem dX0_sumOf_1 : jm_d cX0_sumOf 1 (.istore 4) 2 3 := ⟨by decide +kernel, rfl⟩
theorem dX0_sumOf_3 : jm_d cX0_sumOf 3 (.iconst 0) 1 4 := ⟨by decide +kernel, rfl⟩
theorem dX0_sumOf_4 : jm_d cX0_sumOf 4 (.istore 5) 2 6 := ⟨by decide +kernel, rfl⟩
theorem dX0_sumOf_6 : jm_d cX0_sumOf 6 (.iload 5) 2 8 := ⟨by decide +kernel, rfl⟩
theorem dX0_sumOf_8 : jm_d cX0_sumOf 8 (.iload_n 3) 1 9 := ⟨by decide +kernel, rfl⟩
theorem dX0_sumOf_9 : jm_b cX0_sumOf 9 (.if_icmp .ge) 12 44 := ⟨35, by decide +kernel, rfl, by decide⟩
theorem dX0_sumOf_12 : jm_d cX0_sumOf 12 (.iload 5) 2 14 := ⟨by decide +kernel, rfl⟩
theorem dX0_sumOf_14 : jm_d cX0_sumOf 14 (.aload_n 1) 1 15 := ⟨by decide +kernel, rfl⟩
theorem dX0_sumOf_15 : jm_d cX0_sumOf 15 (.arraylength) 1 16 := ⟨by decide +kernel, rfl⟩
theorem dX0_sumOf_16 : jm_b cX0_sumOf 16 (.if_icmp .ge) 19 44 := ⟨28, by decide +kernel, rfl, by decide⟩
theorem dX0_sumOf_19 : jm_d cX0_sumOf 19 (.iload_n 2) 1 20 := ⟨by decide +kernel, rfl⟩
theorem dX0_sumOf_20 : jm_d cX0_sumOf 20 (.iload 5) 2 22 := ⟨by decide +kernel, rfl⟩
theorem dX0_sumOf_22 : jm_d cX0_sumOf 22 (.ishr) 1 23 := ⟨by decide +kernel, rfl⟩
theorem dX0_sumOf_23 : jm_d cX0_sumOf 23 (.iconst 1) 1 24 := ⟨by decide +kernel, rfl⟩
theorem dX0_sumOf_24 : jm_d cX0_sumOf 24 (.iand) 1 25 := ⟨by decide +kernel, rfl⟩
theorem dX0_sumOf_25 : jm_d cX0_sumOf 25 (.iconst 1) 1 26 := ⟨by decide +kernel, rfl⟩
theorem dX0_sumOf_26 : jm_b cX0_sumOf 26 (.if_icmp .ne) 29 38 := ⟨12, by decide +kernel, rfl, by decide⟩
theorem dX0_sumOf_29 : jm_d cX0_sumOf 29 (.iload 4) 2 31 := ⟨by decide +kernel, rfl⟩
theorem dX0_sumOf_31 : jm_d cX0_sumOf 31 (.aload_n 1) 1 32 := ⟨by decide +kernel, rfl⟩
theorem dX0_sumOf_32 : jm_d cX0_sumOf 32 (.iload 5) 2 34 := ⟨by decide +kernel, rfl⟩
theorem dX0_sumOf_34 : jm_d cX0_sumOf 34 (.iaload) 1 35 := ⟨by decide +kernel, rfl⟩
theorem dX0_sumOf_35 : jm_d cX0_sumOf 35 (.iadd) 1 36 := ⟨by decide +kernel, rfl⟩
theorem dX0_sumOf_36 : jm_d cX0_sumOf 36 (.istore 4) 2 38 := ⟨by decide +kernel, rfl⟩
theorem dX0_sumOf_38 : jm_d cX0_sumOf 38 (.iinc 5 1) 3 41 := ⟨by decide +kernel, rfl⟩
theorem dX0_sumOf_41 : jm_b cX0_sumOf 41 .goto 44 6 := ⟨(-35), by decide +kernel, rfl, by decide⟩
theorem dX0_sumOf_44 : jm_d cX0_sumOf 44 (.iload 4) 2 46 := ⟨by decide +kernel, rfl⟩
theorem dX0_sumOf_46 : jm_d cX0_sumOf 46 (.ireturn) 1 47 := ⟨by decide +kernel, rfl⟩
set_option maxHeartbeats 4000000 in
set_option maxRecDepth 100000 in
theorem kB_sumOf (E : jm_Ev) (hE : jm_dj E jm_LC) {M : jm_M} {p1 : Nat × Nat} {p2 : Int32} {p3 : Int32}  {r : Int32} (h : sB_sumOf M p1 p2 p3 = some r) : jm_Ct E jm_LC yX0_sumOf cX0_sumOf 6 (some .int) 0 0 [.ref (jm_a E 16 0), .ref (jm_a E p1.1 p1.2), .int p2, .int p3] M (some (.int r)) M := by
  refine jm_enter (lv := [some (.ref (jm_a E 16 0)), some (.ref (jm_a E p1.1 p1.2)), some (.int p2), some (.int p3), none, none]) hE (by decide) (Nat.le_of_ble_eq_true rfl) rfl ?_
  intro z w F hz
  have G : jm_G w 0 [some (.ref (jm_a E 16 0)), some (.ref (jm_a E p1.1 p1.2)), some (.int p2), some (.int p3), none, none] [] M (sB_sumOf M p1 p2 p3) (fun e => z (some (.int e)) M) := by
    unfold sB_sumOf
    refine jm_iconst F dX0_sumOf_0 kc_0 ?_
    refine jm_istore (i := 4) (lv' := [some (.ref (jm_a E 16 0)), some (.ref (jm_a E p1.1 p1.2)), some (.int p2), some (.int p3), some (.int 0), none]) F dX0_sumOf_1 (by decide) rfl rfl ?_
    refine jm_iconst F dX0_sumOf_3 kc_0 ?_
    refine jm_istore (i := 5) (lv' := [some (.ref (jm_a E 16 0)), some (.ref (jm_a E p1.1 p1.2)), some (.int p2), some (.int p3), some (.int 0), some (.int 0)]) F dX0_sumOf_4 (by decide) rfl rfl ?_
    refine jm_bind (pcJ := 44) (lvJ := fun e9 => [none, none, none, none, some (.int e9), none]) (stJ := fun _ => []) (MJ := fun e9 => M) ?_ (fun e9 => ?_)
    · refine jm_weak F (lv' := [none, some (.ref (jm_a E p1.1 p1.2)), some (.int p2), some (.int p3), some (.int 0), some (.int 0)]) ⟨rfl, rfl, rfl, rfl, rfl, trivial⟩ ?_
      refine jm_loopR (lvH := fun s1 => [none, some (.ref (jm_a E p1.1 p1.2)), some (.int p2), some (.int p3), some (.int s1.1), some (.int s1.2)]) (MH := fun s1 => M) (fun s1 => ?_) jm_N (0, 0)
      unfold sB_sumOf_L6
      refine jm_iload F dX0_sumOf_6 rfl ?_
      refine jm_iload_n (i := 3) F dX0_sumOf_8 rfl rfl ?_
      refine jm_icmp_ge F dX0_sumOf_9 (fun c2 => ?_) (fun c2 => ?_)
      · exact jm_weakD F (lv' := [none, none, none, none, some (.int s1.1), none]) ⟨rfl, trivial⟩ (fun h => h)
      · refine jm_iload F dX0_sumOf_12 rfl ?_
        refine jm_aload_n (i := 1) F dX0_sumOf_14 rfl rfl ?_
        refine jm_lenB (r := p1) (fun N3 hN3 => ?_)
        refine jm_alen F dX0_sumOf_15 hN3 ?_
        refine jm_icmp_ge F dX0_sumOf_16 (fun c4 => ?_) (fun c4 => ?_)
        · exact jm_weakD F (lv' := [none, none, none, none, some (.int s1.1), none]) ⟨rfl, trivial⟩ (fun h => h)
        · refine jm_iload_n (i := 2) F dX0_sumOf_19 rfl rfl ?_
          refine jm_iload F dX0_sumOf_20 rfl ?_
          refine jm_ishr F dX0_sumOf_22 ?_
          refine jm_iconst F dX0_sumOf_23 kc_1 ?_
          refine jm_iand F dX0_sumOf_24 ?_
          refine jm_iconst F dX0_sumOf_25 kc_1 ?_
          refine jm_icmp_ne F dX0_sumOf_26 (fun c5 => ?_) (fun c5 => ?_)
          · refine jm_iload F dX0_sumOf_29 rfl ?_
            refine jm_aload_n (i := 1) F dX0_sumOf_31 rfl rfl ?_
            refine jm_iload F dX0_sumOf_32 rfl ?_
            refine jm_lenB (r := p1) (fun N6 hN6 => ?_)
            refine jm_iald F dX0_sumOf_34 hN6 (fun v7 => ?_)
            refine jm_iadd F dX0_sumOf_35 ?_
            refine jm_nameI (f := fun x8 => [.int x8]) (fun x8 => ?_) rfl
            refine jm_istore (i := 4) (lv' := [none, some (.ref (jm_a E p1.1 p1.2)), some (.int p2), some (.int p3), some (.int x8), some (.int s1.2)]) F dX0_sumOf_36 (by decide) rfl rfl ?_
            refine jm_iinc (i := 5) (lv' := [none, some (.ref (jm_a E p1.1 p1.2)), some (.int p2), some (.int p3), some (.int x8), some (.int (s1.2 + 1))]) F dX0_sumOf_38 kc_1 rfl (by decide) rfl rfl ?_
            refine jm_goto F dX0_sumOf_41 ?_
            exact jm_weakD F (lv' := [none, some (.ref (jm_a E p1.1 p1.2)), some (.int p2), some (.int p3), some (.int x8), some (.int (s1.2 + 1))]) ⟨rfl, rfl, rfl, rfl, rfl, trivial⟩ (fun h => h)
          · refine jm_iinc (i := 5) (lv' := [none, some (.ref (jm_a E p1.1 p1.2)), some (.int p2), some (.int p3), some (.int s1.1), some (.int (s1.2 + 1))]) F dX0_sumOf_38 kc_1 rfl (by decide) rfl rfl ?_
            refine jm_goto F dX0_sumOf_41 ?_
            exact jm_weakD F (lv' := [none, some (.ref (jm_a E p1.1 p1.2)), some (.int p2), some (.int p3), some (.int s1.1), some (.int (s1.2 + 1))]) ⟨rfl, rfl, rfl, rfl, rfl, trivial⟩ (fun h => h)
    · refine jm_iload F dX0_sumOf_44 rfl ?_
      exact jm_iret F dX0_sumOf_46 (fun h => h)
  exact G r h hz
theorem dX0_takeIfBetter_0 : jm_d cX0_takeIfBetter 0 (.aload_n 0) 1 1 := ⟨by decide +kernel, rfl⟩
theorem dX0_takeIfBetter_1 : jm_d cX0_takeIfBetter 1 (.getfield 28) 3 4 := ⟨by decide +kernel, rfl⟩
theorem dX0_takeIfBetter_4 : jm_d cX0_takeIfBetter 4 (.bipush (-9)) 2 6 := ⟨by decide +kernel, rfl⟩
theorem dX0_takeIfBetter_6 : jm_b cX0_takeIfBetter 6 (.if_icmp .eq) 9 39 := ⟨33, by decide +kernel, rfl, by decide⟩
theorem dX0_takeIfBetter_39 : jm_d cX0_takeIfBetter 39 (.aload_n 0) 1 40 := ⟨by decide +kernel, rfl⟩
theorem dX0_takeIfBetter_40 : jm_d cX0_takeIfBetter 40 (.iload_n 1) 1 41 := ⟨by decide +kernel, rfl⟩
theorem dX0_takeIfBetter_41 : jm_d cX0_takeIfBetter 41 (.putfield 28) 3 44 := ⟨by decide +kernel, rfl⟩
theorem dX0_takeIfBetter_44 : jm_d cX0_takeIfBetter 44 (.aload_n 0) 1 45 := ⟨by decide +kernel, rfl⟩
theorem dX0_takeIfBetter_45 : jm_d cX0_takeIfBetter 45 (.iload_n 2) 1 46 := ⟨by decide +kernel, rfl⟩
theorem dX0_takeIfBetter_46 : jm_d cX0_takeIfBetter 46 (.putfield 32) 3 49 := ⟨by decide +kernel, rfl⟩
theorem dX0_takeIfBetter_49 : jm_d cX0_takeIfBetter 49 (.return_) 1 50 := ⟨by decide +kernel, rfl⟩
theorem dX0_takeIfBetter_9 : jm_d cX0_takeIfBetter 9 (.iload_n 2) 1 10 := ⟨by decide +kernel, rfl⟩
theorem dX0_takeIfBetter_10 : jm_d cX0_takeIfBetter 10 (.aload_n 0) 1 11 := ⟨by decide +kernel, rfl⟩
theorem dX0_takeIfBetter_11 : jm_d cX0_takeIfBetter 11 (.getfield 32) 3 14 := ⟨by decide +kernel, rfl⟩
theorem dX0_takeIfBetter_14 : jm_b cX0_takeIfBetter 14 (.if_icmp .lt) 17 39 := ⟨25, by decide +kernel, rfl, by decide⟩
theorem dX0_takeIfBetter_17 : jm_d cX0_takeIfBetter 17 (.iload_n 2) 1 18 := ⟨by decide +kernel, rfl⟩
theorem dX0_takeIfBetter_18 : jm_d cX0_takeIfBetter 18 (.aload_n 0) 1 19 := ⟨by decide +kernel, rfl⟩
theorem dX0_takeIfBetter_19 : jm_d cX0_takeIfBetter 19 (.getfield 32) 3 22 := ⟨by decide +kernel, rfl⟩
theorem dX0_takeIfBetter_22 : jm_b cX0_takeIfBetter 22 (.if_icmp .ne) 25 49 := ⟨27, by decide +kernel, rfl, by decide⟩
theorem dX0_takeIfBetter_25 : jm_d cX0_takeIfBetter 25 (.iload_n 1) 1 26 := ⟨by decide +kernel, rfl⟩
theorem dX0_takeIfBetter_26 : jm_d cX0_takeIfBetter 26 (.invokestatic 61) 3 29 := ⟨by decide +kernel, rfl⟩
theorem dX0_takeIfBetter_29 : jm_d cX0_takeIfBetter 29 (.aload_n 0) 1 30 := ⟨by decide +kernel, rfl⟩
theorem dX0_takeIfBetter_30 : jm_d cX0_takeIfBetter 30 (.getfield 28) 3 33 := ⟨by decide +kernel, rfl⟩
theorem dX0_takeIfBetter_33 : jm_d cX0_takeIfBetter 33 (.invokestatic 61) 3 36 := ⟨by decide +kernel, rfl⟩
theorem dX0_takeIfBetter_36 : jm_b cX0_takeIfBetter 36 (.if_icmp .ge) 39 49 := ⟨13, by decide +kernel, rfl, by decide⟩
set_option maxHeartbeats 4000000 in
set_option maxRecDepth 100000 in
theorem kB_takeIfBetter (E : jm_Ev) (hE : jm_dj E jm_LC) {M : jm_M} {p1 : Int32} {p2 : Int32}  {r : jm_M} (h : sB_takeIfBetter M p1 p2 = some r) : jm_Ct E jm_LC yX0_takeIfBetter cX0_takeIfBetter 3 none 1 20 [.ref (jm_a E 16 0), .int p1, .int p2] M none r := by
  refine jm_enter (lv := [some (.ref (jm_a E 16 0)), some (.int p1), some (.int p2)]) hE (by decide) (Nat.le_of_ble_eq_true rfl) rfl ?_
  intro z w F hz
  have G : jm_G w 0 [some (.ref (jm_a E 16 0)), some (.int p1), some (.int p2)] [] M (sB_takeIfBetter M p1 p2) (fun e => z none e) := by
    unfold sB_takeIfBetter
    refine jm_aload_n (i := 0) F dX0_takeIfBetter_0 rfl rfl ?_
    refine jm_getI F dX0_takeIfBetter_1 fl_X0_28 lo_X0 rfl ?_
    refine jm_bipush F dX0_takeIfBetter_4 kb_m9 ?_
    refine jm_icmp_eq F dX0_takeIfBetter_6 (fun c1 => ?_) (fun c1 => ?_)
    · refine jm_aload_n (i := 0) F dX0_takeIfBetter_39 rfl rfl ?_
      refine jm_iload_n (i := 1) F dX0_takeIfBetter_40 rfl rfl ?_
      refine jm_putI F dX0_takeIfBetter_41 fp_X0_28 lo_X0 rfl (fun M2 => ?_)
      refine jm_aload_n (i := 0) F dX0_takeIfBetter_44 rfl rfl ?_
      refine jm_iload_n (i := 2) F dX0_takeIfBetter_45 rfl rfl ?_
      refine jm_putI F dX0_takeIfBetter_46 fp_X0_32 lo_X0 rfl (fun M3 => ?_)
      exact jm_vret F dX0_takeIfBetter_49 (fun h => h)
    · refine jm_iload_n (i := 2) F dX0_takeIfBetter_9 rfl rfl ?_
      refine jm_aload_n (i := 0) F dX0_takeIfBetter_10 rfl rfl ?_
      refine jm_getI F dX0_takeIfBetter_11 fl_X0_32 lo_X0 rfl ?_
      refine jm_icmp_lt F dX0_takeIfBetter_14 (fun c4 => ?_) (fun c4 => ?_)
      · refine jm_aload_n (i := 0) F dX0_takeIfBetter_39 rfl rfl ?_
        refine jm_iload_n (i := 1) F dX0_takeIfBetter_40 rfl rfl ?_
        refine jm_putI F dX0_takeIfBetter_41 fp_X0_28 lo_X0 rfl (fun M5 => ?_)
        refine jm_aload_n (i := 0) F dX0_takeIfBetter_44 rfl rfl ?_
        refine jm_iload_n (i := 2) F dX0_takeIfBetter_45 rfl rfl ?_
        refine jm_putI F dX0_takeIfBetter_46 fp_X0_32 lo_X0 rfl (fun M6 => ?_)
        exact jm_vret F dX0_takeIfBetter_49 (fun h => h)
      · refine jm_iload_n (i := 2) F dX0_takeIfBetter_17 rfl rfl ?_
        refine jm_aload_n (i := 0) F dX0_takeIfBetter_18 rfl rfl ?_
        refine jm_getI F dX0_takeIfBetter_19 fl_X0_32 lo_X0 rfl ?_
        refine jm_icmp_ne F dX0_takeIfBetter_22 (fun c7 => ?_) (fun c7 => ?_)
        · refine jm_iload_n (i := 1) F dX0_takeIfBetter_25 rfl rfl ?_
          refine jm_callS (As := [.int p1]) (st := []) (rv := fun r => some (.int r)) (mm := fun _ => M) F dX0_takeIfBetter_26 qX0_61 rfl (fun r h => kJ_bitCount E hE h) rfl (Nat.le_of_ble_eq_true rfl) ⟨Nat.le_of_ble_eq_true rfl, Nat.le_of_ble_eq_true rfl⟩ (fun r8 => ?_)
          refine jm_aload_n (i := 0) F dX0_takeIfBetter_29 rfl rfl ?_
          refine jm_getI F dX0_takeIfBetter_30 fl_X0_28 lo_X0 rfl ?_
          refine jm_callS (As := [.int (M 16 0 2)]) (st := [.int r8]) (rv := fun r => some (.int r)) (mm := fun _ => M) F dX0_takeIfBetter_33 qX0_61 rfl (fun r h => kJ_bitCount E hE h) rfl (Nat.le_of_ble_eq_true rfl) ⟨Nat.le_of_ble_eq_true rfl, Nat.le_of_ble_eq_true rfl⟩ (fun r9 => ?_)
          refine jm_icmp_ge F dX0_takeIfBetter_36 (fun c10 => ?_) (fun c10 => ?_)
          · exact jm_vret F dX0_takeIfBetter_49 (fun h => h)
          · refine jm_aload_n (i := 0) F dX0_takeIfBetter_39 rfl rfl ?_
            refine jm_iload_n (i := 1) F dX0_takeIfBetter_40 rfl rfl ?_
            refine jm_putI F dX0_takeIfBetter_41 fp_X0_28 lo_X0 rfl (fun M11 => ?_)
            refine jm_aload_n (i := 0) F dX0_takeIfBetter_44 rfl rfl ?_
            refine jm_iload_n (i := 2) F dX0_takeIfBetter_45 rfl rfl ?_
            refine jm_putI F dX0_takeIfBetter_46 fp_X0_32 lo_X0 rfl (fun M12 => ?_)
            exact jm_vret F dX0_takeIfBetter_49 (fun h => h)
        · exact jm_vret F dX0_takeIfBetter_49 (fun h => h)
  exact G r h hz
theorem dX0_seek_0 : jm_d cX0_seek 0 (.aload_n 1) 1 1 := ⟨by decide +kernel, rfl⟩
theorem dX0_seek_1 : jm_d cX0_seek 1 (.iload_n 2) 1 2 := ⟨by decide +kernel, rfl⟩
theorem dX0_seek_2 : jm_d cX0_seek 2 (.iload_n 3) 1 3 := ⟨by decide +kernel, rfl⟩
theorem dX0_seek_3 : jm_d cX0_seek 3 (.invokevirtual 18) 3 6 := ⟨by decide +kernel, rfl⟩
theorem dX0_seek_6 : jm_d cX0_seek 6 (.ineg) 1 7 := ⟨by decide +kernel, rfl⟩
theorem dX0_seek_7 : jm_d cX0_seek 7 (.istore 4) 2 9 := ⟨by decide +kernel, rfl⟩
theorem dX0_seek_9 : jm_d cX0_seek 9 (.aload_n 0) 1 10 := ⟨by decide +kernel, rfl⟩
theorem dX0_seek_10 : jm_d cX0_seek 10 (.aload_n 1) 1 11 := ⟨by decide +kernel, rfl⟩
theorem dX0_seek_11 : jm_d cX0_seek 11 (.iload_n 2) 1 12 := ⟨by decide +kernel, rfl⟩
theorem dX0_seek_12 : jm_d cX0_seek 12 (.iload_n 3) 1 13 := ⟨by decide +kernel, rfl⟩
theorem dX0_seek_13 : jm_d cX0_seek 13 (.invokevirtual 24) 3 16 := ⟨by decide +kernel, rfl⟩
theorem dX0_seek_16 : jm_d cX0_seek 16 (.istore 5) 2 18 := ⟨by decide +kernel, rfl⟩
theorem dX0_seek_18 : jm_d cX0_seek 18 (.aload_n 0) 1 19 := ⟨by decide +kernel, rfl⟩
theorem dX0_seek_19 : jm_d cX0_seek 19 (.bipush (-9)) 2 21 := ⟨by decide +kernel, rfl⟩
theorem dX0_seek_21 : jm_d cX0_seek 21 (.putfield 28) 3 24 := ⟨by decide +kernel, rfl⟩
theorem dX0_seek_24 : jm_d cX0_seek 24 (.aload_n 0) 1 25 := ⟨by decide +kernel, rfl⟩
theorem dX0_seek_25 : jm_d cX0_seek 25 (.bipush (-9)) 2 27 := ⟨by decide +kernel, rfl⟩
theorem dX0_seek_27 : jm_d cX0_seek 27 (.putfield 32) 3 30 := ⟨by decide +kernel, rfl⟩
theorem dX0_seek_30 : jm_d cX0_seek 30 (.iconst 0) 1 31 := ⟨by decide +kernel, rfl⟩
theorem dX0_seek_31 : jm_d cX0_seek 31 (.istore 6) 2 33 := ⟨by decide +kernel, rfl⟩
theorem dX0_seek_33 : jm_d cX0_seek 33 (.iload 6) 2 35 := ⟨by decide +kernel, rfl⟩
theorem dX0_seek_35 : jm_d cX0_seek 35 (.iconst 1) 1 36 := ⟨by decide +kernel, rfl⟩
theorem dX0_seek_36 : jm_d cX0_seek 36 (.aload_n 1) 1 37 := ⟨by decide +kernel, rfl⟩
theorem dX0_seek_37 : jm_d cX0_seek 37 (.getfield 35) 3 40 := ⟨by decide +kernel, rfl⟩
theorem dX0_seek_40 : jm_d cX0_seek 40 (.ishl) 1 41 := ⟨by decide +kernel, rfl⟩
theorem dX0_seek_41 : jm_b cX0_seek 41 (.if_icmp .ge) 44 99 := ⟨58, by decide +kernel, rfl, by decide⟩
theorem dX0_seek_44 : jm_d cX0_seek 44 (.iload 6) 2 46 := ⟨by decide +kernel, rfl⟩
theorem dX0_seek_46 : jm_d cX0_seek 46 (.iload 5) 2 48 := ⟨by decide +kernel, rfl⟩
theorem dX0_seek_48 : jm_d cX0_seek 48 (.iconst (-1)) 1 49 := ⟨by decide +kernel, rfl⟩
theorem dX0_seek_49 : jm_d cX0_seek 49 (.ixor) 1 50 := ⟨by decide +kernel, rfl⟩
theorem dX0_seek_50 : jm_d cX0_seek 50 (.iand) 1 51 := ⟨by decide +kernel, rfl⟩
theorem dX0_seek_51 : jm_b cX0_seek 51 (.ifCond .ne) 54 93 := ⟨42, by decide +kernel, rfl, by decide⟩
theorem dX0_seek_54 : jm_d cX0_seek 54 (.aload_n 0) 1 55 := ⟨by decide +kernel, rfl⟩
theorem dX0_seek_55 : jm_d cX0_seek 55 (.aload_n 0) 1 56 := ⟨by decide +kernel, rfl⟩
theorem dX0_seek_56 : jm_d cX0_seek 56 (.getfield 15) 3 59 := ⟨by decide +kernel, rfl⟩
theorem dX0_seek_59 : jm_d cX0_seek 59 (.iload 6) 2 61 := ⟨by decide +kernel, rfl⟩
theorem dX0_seek_61 : jm_d cX0_seek 61 (.aload_n 1) 1 62 := ⟨by decide +kernel, rfl⟩
theorem dX0_seek_62 : jm_d cX0_seek 62 (.getfield 35) 3 65 := ⟨by decide +kernel, rfl⟩
theorem dX0_seek_65 : jm_d cX0_seek 65 (.invokevirtual 38) 3 68 := ⟨by decide +kernel, rfl⟩
theorem dX0_seek_68 : jm_d cX0_seek 68 (.iload 4) 2 70 := ⟨by decide +kernel, rfl⟩
theorem dX0_seek_70 : jm_b cX0_seek 70 (.if_icmp .lt) 73 93 := ⟨23, by decide +kernel, rfl, by decide⟩
theorem dX0_seek_93 : jm_d cX0_seek 93 (.iinc 6 1) 3 96 := ⟨by decide +kernel, rfl⟩
theorem dX0_seek_96 : jm_b cX0_seek 96 .goto 99 33 := ⟨(-63), by decide +kernel, rfl, by decide⟩
theorem dX0_seek_73 : jm_d cX0_seek 73 (.aload_n 0) 1 74 := ⟨by decide +kernel, rfl⟩
theorem dX0_seek_74 : jm_d cX0_seek 74 (.iload 6) 2 76 := ⟨by decide +kernel, rfl⟩
theorem dX0_seek_76 : jm_d cX0_seek 76 (.aload_n 0) 1 77 := ⟨by decide +kernel, rfl⟩
theorem dX0_seek_77 : jm_d cX0_seek 77 (.aload_n 0) 1 78 := ⟨by decide +kernel, rfl⟩
theorem dX0_seek_78 : jm_d cX0_seek 78 (.getfield 9) 3 81 := ⟨by decide +kernel, rfl⟩
theorem dX0_seek_81 : jm_d cX0_seek 81 (.iload 6) 2 83 := ⟨by decide +kernel, rfl⟩
theorem dX0_seek_83 : jm_d cX0_seek 83 (.aload_n 1) 1 84 := ⟨by decide +kernel, rfl⟩
theorem dX0_seek_84 : jm_d cX0_seek 84 (.getfield 35) 3 87 := ⟨by decide +kernel, rfl⟩
theorem dX0_seek_87 : jm_d cX0_seek 87 (.invokevirtual 38) 3 90 := ⟨by decide +kernel, rfl⟩
theorem dX0_seek_90 : jm_d cX0_seek 90 (.invokevirtual 42) 3 93 := ⟨by decide +kernel, rfl⟩
theorem dX0_seek_99 : jm_d cX0_seek 99 (.return_) 1 100 := ⟨by decide +kernel, rfl⟩
set_option maxHeartbeats 4000000 in
set_option maxRecDepth 100000 in
theorem kB_seek (E : jm_Ev) (hE : jm_dj E jm_LC) {M : jm_M} {p1 : Nat} {p2 : Int32} {p3 : Int32} (hp1 : jm_isT p1) {r : jm_M} (h : sB_seek M p1 p2 p3 = some r) : jm_Ct E jm_LC yX0_seek cX0_seek 7 none 4 118 [.ref (jm_a E 16 0), .ref (jm_a E p1 0), .int p2, .int p3] M none r := by
  refine jm_enter (lv := [some (.ref (jm_a E 16 0)), some (.ref (jm_a E p1 0)), some (.int p2), some (.int p3), none, none, none]) hE (by decide) (Nat.le_of_ble_eq_true rfl) rfl ?_
  intro z w F hz
  have G : jm_G w 0 [some (.ref (jm_a E 16 0)), some (.ref (jm_a E p1 0)), some (.int p2), some (.int p3), none, none, none] [] M (sB_seek M p1 p2 p3) (fun e => z none e) := by
    unfold sB_seek
    refine jm_aload_n (i := 1) F dX0_seek_0 rfl rfl ?_
    refine jm_iload_n (i := 2) F dX0_seek_1 rfl rfl ?_
    refine jm_iload_n (i := 3) F dX0_seek_2 rfl rfl ?_
    refine jm_callV (As := [.int p2, .int p3]) (st := []) (rv := fun r => some (.int r)) (mm := fun _ => M) F dX0_seek_3 qX0_18 rfl (lo_T hp1) rfl (fun r h => kT_overOf E hE hp1 h) rfl (Nat.le_of_ble_eq_true rfl) ⟨Nat.le_of_ble_eq_true rfl, Nat.le_of_ble_eq_true rfl⟩ (fun r1 => ?_)
    refine jm_ineg F dX0_seek_6 ?_
    refine jm_nameI (f := fun x2 => [.int x2]) (fun x2 => ?_) rfl
    refine jm_istore (i := 4) (lv' := [some (.ref (jm_a E 16 0)), some (.ref (jm_a E p1 0)), some (.int p2), some (.int p3), some (.int x2), none, none]) F dX0_seek_7 (by decide) rfl rfl ?_
    refine jm_aload_n (i := 0) F dX0_seek_9 rfl rfl ?_
    refine jm_aload_n (i := 1) F dX0_seek_10 rfl rfl ?_
    refine jm_iload_n (i := 2) F dX0_seek_11 rfl rfl ?_
    refine jm_iload_n (i := 3) F dX0_seek_12 rfl rfl ?_
    refine jm_callV (As := [.ref (jm_a E p1 0), .int p2, .int p3]) (st := []) (rv := fun r => some (.int r.1)) (mm := fun r => r.2) F dX0_seek_13 qX0_24 rfl lo_X0 rfl (fun r h => kB_offer E hE hp1 h) rfl (Nat.le_of_ble_eq_true rfl) ⟨Nat.le_of_ble_eq_true rfl, Nat.le_of_ble_eq_true rfl⟩ (fun r3 => ?_)
    refine jm_istore (i := 5) (lv' := [some (.ref (jm_a E 16 0)), some (.ref (jm_a E p1 0)), some (.int p2), some (.int p3), some (.int x2), some (.int r3.1), none]) F dX0_seek_16 (by decide) rfl rfl ?_
    refine jm_aload_n (i := 0) F dX0_seek_18 rfl rfl ?_
    refine jm_bipush F dX0_seek_19 kb_m9 ?_
    refine jm_putI F dX0_seek_21 fp_X0_28 lo_X0 rfl (fun M4 => ?_)
    refine jm_aload_n (i := 0) F dX0_seek_24 rfl rfl ?_
    refine jm_bipush F dX0_seek_25 kb_m9 ?_
    refine jm_putI F dX0_seek_27 fp_X0_32 lo_X0 rfl (fun M5 => ?_)
    refine jm_iconst F dX0_seek_30 kc_0 ?_
    refine jm_istore (i := 6) (lv' := [some (.ref (jm_a E 16 0)), some (.ref (jm_a E p1 0)), some (.int p2), some (.int p3), some (.int x2), some (.int r3.1), some (.int 0)]) F dX0_seek_31 (by decide) rfl rfl ?_
    refine jm_bind (pcJ := 99) (lvJ := fun e13 => [none, none, none, none, none, none, none]) (stJ := fun _ => []) (MJ := fun e13 => e13) ?_ (fun e13 => ?_)
    · refine jm_weak F (lv' := [some (.ref (jm_a E 16 0)), some (.ref (jm_a E p1 0)), none, none, some (.int x2), some (.int r3.1), some (.int 0)]) ⟨rfl, rfl, rfl, rfl, rfl, trivial⟩ ?_
      refine jm_loopR (lvH := fun s6 => [some (.ref (jm_a E 16 0)), some (.ref (jm_a E p1 0)), none, none, some (.int x2), some (.int r3.1), some (.int s6.1)]) (MH := fun s6 => s6.2) (fun s6 => ?_) jm_N (0, M5)
      unfold sB_seek_L33
      refine jm_iload F dX0_seek_33 rfl ?_
      refine jm_iconst F dX0_seek_35 kc_1 ?_
      refine jm_aload_n (i := 1) F dX0_seek_36 rfl rfl ?_
      refine jm_getI F dX0_seek_37 fl_X0_35 (lo_T hp1) rfl ?_
      refine jm_ishl F dX0_seek_40 ?_
      refine jm_icmp_ge F dX0_seek_41 (fun c7 => ?_) (fun c7 => ?_)
      · exact jm_weakD F (lv' := [none, none, none, none, none, none, none]) trivial (fun h => h)
      · refine jm_iload F dX0_seek_44 rfl ?_
        refine jm_iload F dX0_seek_46 rfl ?_
        refine jm_iconst F dX0_seek_48 kc_m1 ?_
        refine jm_ixor F dX0_seek_49 ?_
        refine jm_iand F dX0_seek_50 ?_
        refine jm_if_ne F dX0_seek_51 (fun c8 => ?_) (fun c8 => ?_)
        · refine jm_aload_n (i := 0) F dX0_seek_54 rfl rfl ?_
          refine jm_aload_n (i := 0) F dX0_seek_55 rfl rfl ?_
          refine jm_getR F dX0_seek_56 fl_X0_15 lo_X0 rfl ?_
          refine jm_iload F dX0_seek_59 rfl ?_
          refine jm_aload_n (i := 1) F dX0_seek_61 rfl rfl ?_
          refine jm_getI F dX0_seek_62 fl_X0_35 (lo_T hp1) rfl ?_
          refine jm_callV (As := [.ref (jm_a E 16 2), .int s6.1, .int (s6.2 p1 0 4)]) (st := []) (rv := fun r => some (.int r)) (mm := fun _ => s6.2) F dX0_seek_65 qX0_38 rfl lo_X0 rfl (fun r h => kB_sumOf E hE h) rfl (Nat.le_of_ble_eq_true rfl) ⟨Nat.le_of_ble_eq_true rfl, Nat.le_of_ble_eq_true rfl⟩ (fun r9 => ?_)
          refine jm_iload F dX0_seek_68 rfl ?_
          refine jm_icmp_lt F dX0_seek_70 (fun c10 => ?_) (fun c10 => ?_)
          · refine jm_iinc (i := 6) (lv' := [some (.ref (jm_a E 16 0)), some (.ref (jm_a E p1 0)), none, none, some (.int x2), some (.int r3.1), some (.int (s6.1 + 1))]) F dX0_seek_93 kc_1 rfl (by decide) rfl rfl ?_
            refine jm_goto F dX0_seek_96 ?_
            exact jm_weakD F (lv' := [some (.ref (jm_a E 16 0)), some (.ref (jm_a E p1 0)), none, none, some (.int x2), some (.int r3.1), some (.int (s6.1 + 1))]) ⟨rfl, rfl, rfl, rfl, rfl, trivial⟩ (fun h => h)
          · refine jm_aload_n (i := 0) F dX0_seek_73 rfl rfl ?_
            refine jm_iload F dX0_seek_74 rfl ?_
            refine jm_aload_n (i := 0) F dX0_seek_76 rfl rfl ?_
            refine jm_aload_n (i := 0) F dX0_seek_77 rfl rfl ?_
            refine jm_getR F dX0_seek_78 fl_X0_9 lo_X0 rfl ?_
            refine jm_iload F dX0_seek_81 rfl ?_
            refine jm_aload_n (i := 1) F dX0_seek_83 rfl rfl ?_
            refine jm_getI F dX0_seek_84 fl_X0_35 (lo_T hp1) rfl ?_
            refine jm_callV (As := [.ref (jm_a E 16 1), .int s6.1, .int (s6.2 p1 0 4)]) (st := [.int s6.1, .ref (jm_a E 16 0)]) (rv := fun r => some (.int r)) (mm := fun _ => s6.2) F dX0_seek_87 qX0_38 rfl lo_X0 rfl (fun r h => kB_sumOf E hE h) rfl (Nat.le_of_ble_eq_true rfl) ⟨Nat.le_of_ble_eq_true rfl, Nat.le_of_ble_eq_true rfl⟩ (fun r11 => ?_)
            refine jm_callV (As := [.int s6.1, .int r11]) (st := []) (rv := fun _ => none) (mm := fun r => r) F dX0_seek_90 qX0_42 rfl lo_X0 rfl (fun r h => kB_takeIfBetter E hE h) rfl (Nat.le_of_ble_eq_true rfl) ⟨Nat.le_of_ble_eq_true rfl, Nat.le_of_ble_eq_true rfl⟩ (fun r12 => ?_)
            refine jm_iinc (i := 6) (lv' := [some (.ref (jm_a E 16 0)), some (.ref (jm_a E p1 0)), none, none, some (.int x2), some (.int r3.1), some (.int (s6.1 + 1))]) F dX0_seek_93 kc_1 rfl (by decide) rfl rfl ?_
            refine jm_goto F dX0_seek_96 ?_
            exact jm_weakD F (lv' := [some (.ref (jm_a E 16 0)), some (.ref (jm_a E p1 0)), none, none, some (.int x2), some (.int r3.1), some (.int (s6.1 + 1))]) ⟨rfl, rfl, rfl, rfl, rfl, trivial⟩ (fun h => h)
        · refine jm_iinc (i := 6) (lv' := [some (.ref (jm_a E 16 0)), some (.ref (jm_a E p1 0)), none, none, some (.int x2), some (.int r3.1), some (.int (s6.1 + 1))]) F dX0_seek_93 kc_1 rfl (by decide) rfl rfl ?_
          refine jm_goto F dX0_seek_96 ?_
          exact jm_weakD F (lv' := [some (.ref (jm_a E 16 0)), some (.ref (jm_a E p1 0)), none, none, some (.int x2), some (.int r3.1), some (.int (s6.1 + 1))]) ⟨rfl, rfl, rfl, rfl, rfl, trivial⟩ (fun h => h)
    · exact jm_vret F dX0_seek_99 (fun h => h)
  exact G r h hz
theorem dX8_buy_0 : jm_d cX8_buy 0 (.aload_n 0) 1 1 := ⟨by decide +kernel, rfl⟩
theorem dX8_buy_1 : jm_d cX8_buy 1 (.iload_n 1) 1 2 := ⟨by decide +kernel, rfl⟩
theorem dX8_buy_2 : jm_d cX8_buy 2 (.iload_n 2) 1 3 := ⟨by decide +kernel, rfl⟩
theorem dX8_buy_3 : jm_d cX8_buy 3 (.invokevirtual 188) 3 6 := ⟨by decide +kernel, rfl⟩
theorem dX8_buy_6 : jm_b cX8_buy 6 (.ifCond .ne) 9 15 := ⟨9, by decide +kernel, rfl, by decide⟩
theorem dX8_buy_9 : jm_d cX8_buy 9 (.aload_n 0) 1 10 := ⟨by decide +kernel, rfl⟩
theorem dX8_buy_10 : jm_d cX8_buy 10 (.iconst (-1)) 1 11 := ⟨by decide +kernel, rfl⟩
theorem dX8_buy_11 : jm_d cX8_buy 11 (.invokevirtual 64) 3 14 := ⟨by decide +kernel, rfl⟩
theorem dX8_buy_14 : jm_d cX8_buy 14 (.ireturn) 1 15 := ⟨by decide +kernel, rfl⟩
theorem dX8_buy_15 : jm_d cX8_buy 15 (.aload_n 0) 1 16 := ⟨by decide +kernel, rfl⟩
theorem dX8_buy_16 : jm_d cX8_buy 16 (.iload_n 3) 1 17 := ⟨by decide +kernel, rfl⟩
theorem dX8_buy_17 : jm_d cX8_buy 17 (.invokevirtual 199) 3 20 := ⟨by decide +kernel, rfl⟩
theorem dX8_buy_20 : jm_b cX8_buy 20 (.ifCond .eq) 23 30 := ⟨10, by decide +kernel, rfl, by decide⟩
theorem dX8_buy_30 : jm_d cX8_buy 30 (.aload_n 0) 1 31 := ⟨by decide +kernel, rfl⟩
theorem dX8_buy_31 : jm_d cX8_buy 31 (.getfield 43) 3 34 := ⟨by decide +kernel, rfl⟩
theorem dX8_buy_34 : jm_d cX8_buy 34 (.aload_n 0) 1 35 := ⟨by decide +kernel, rfl⟩
theorem dX8_buy_35 : jm_d cX8_buy 35 (.getfield 10) 3 38 := ⟨by decide +kernel, rfl⟩
theorem dX8_buy_38 : jm_d cX8_buy 38 (.iload_n 1) 1 39 := ⟨by decide +kernel, rfl⟩
theorem dX8_buy_39 : jm_d cX8_buy 39 (.iload_n 2) 1 40 := ⟨by decide +kernel, rfl⟩
theorem dX8_buy_40 : jm_d cX8_buy 40 (.invokevirtual 202) 3 43 := ⟨by decide +kernel, rfl⟩
theorem dX8_buy_43 : jm_d cX8_buy 43 (.iload_n 3) 1 44 := ⟨by decide +kernel, rfl⟩
theorem dX8_buy_44 : jm_b cX8_buy 44 (.ifCond .ne) 47 57 := ⟨13, by decide +kernel, rfl, by decide⟩
theorem dX8_buy_47 : jm_d cX8_buy 47 (.aload_n 0) 1 48 := ⟨by decide +kernel, rfl⟩
theorem dX8_buy_48 : jm_d cX8_buy 48 (.getfield 43) 3 51 := ⟨by decide +kernel, rfl⟩
theorem dX8_buy_51 : jm_d cX8_buy 51 (.getfield 206) 3 54 := ⟨by decide +kernel, rfl⟩
theorem dX8_buy_54 : jm_b cX8_buy 54 .goto 57 64 := ⟨10, by decide +kernel, rfl, by decide⟩
theorem dX8_buy_64 : jm_d cX8_buy 64 (.ireturn) 1 65 := ⟨by decide +kernel, rfl⟩
theorem dX8_buy_57 : jm_d cX8_buy 57 (.aload_n 0) 1 58 := ⟨by decide +kernel, rfl⟩
theorem dX8_buy_58 : jm_d cX8_buy 58 (.getfield 43) 3 61 := ⟨by decide +kernel, rfl⟩
theorem dX8_buy_61 : jm_d cX8_buy 61 (.getfield 209) 3 64 := ⟨by decide +kernel, rfl⟩
theorem dX8_buy_23 : jm_d cX8_buy 23 (.aload_n 0) 1 24 := ⟨by decide +kernel, rfl⟩
theorem dX8_buy_24 : jm_d cX8_buy 24 (.bipush (-2)) 2 26 := ⟨by decide +kernel, rfl⟩
theorem dX8_buy_26 : jm_d cX8_buy 26 (.invokevirtual 64) 3 29 := ⟨by decide +kernel, rfl⟩
theorem dX8_buy_29 : jm_d cX8_buy 29 (.ireturn) 1 30 := ⟨by decide +kernel, rfl⟩
set_option maxHeartbeats 4000000 in
set_option maxRecDepth 100000 in
theorem kW_buy (E : jm_Ev) (hE : jm_dj E jm_LC) {M : jm_M} {p1 : Int32} {p2 : Int32} {p3 : Int32}  {r : Int32 × jm_M} (h : sW_buy M p1 p2 p3 = some r) : jm_Ct E jm_LC yX8_buy cX8_buy 4 (some .int) 5 144 [.ref (jm_a E 0 0), .int p1, .int p2, .int p3] M (some (.int r.1)) r.2 := by
  refine jm_enter (lv := [some (.ref (jm_a E 0 0)), some (.int p1), some (.int p2), some (.int p3)]) hE (by decide) (Nat.le_of_ble_eq_true rfl) rfl ?_
  intro z w F hz
  have G : jm_G w 0 [some (.ref (jm_a E 0 0)), some (.int p1), some (.int p2), some (.int p3)] [] M (sW_buy M p1 p2 p3) (fun e => z (some (.int e.1)) e.2) := by
    unfold sW_buy
    refine jm_aload_n (i := 0) F dX8_buy_0 rfl rfl ?_
    refine jm_iload_n (i := 1) F dX8_buy_1 rfl rfl ?_
    refine jm_iload_n (i := 2) F dX8_buy_2 rfl rfl ?_
    refine jm_callV (As := [.int p1, .int p2]) (st := []) (rv := fun r => some (.int r)) (mm := fun _ => M) F dX8_buy_3 qX8_188 rfl lo_X8 rfl (fun r h => kW_areTwo E hE h) rfl (Nat.le_of_ble_eq_true rfl) ⟨Nat.le_of_ble_eq_true rfl, Nat.le_of_ble_eq_true rfl⟩ (fun r1 => ?_)
    refine jm_if_ne F dX8_buy_6 (fun c2 => ?_) (fun c2 => ?_)
    · refine jm_aload_n (i := 0) F dX8_buy_9 rfl rfl ?_
      refine jm_iconst F dX8_buy_10 kc_m1 ?_
      refine jm_callV (As := [.int (-1)]) (st := []) (rv := fun r => some (.int r.1)) (mm := fun r => r.2) F dX8_buy_11 qX8_64 rfl lo_X8 rfl (fun r h => kW_refuse E hE h) rfl (Nat.le_of_ble_eq_true rfl) ⟨Nat.le_of_ble_eq_true rfl, Nat.le_of_ble_eq_true rfl⟩ (fun r3 => ?_)
      exact jm_iret F dX8_buy_14 (fun h => h)
    · refine jm_aload_n (i := 0) F dX8_buy_15 rfl rfl ?_
      refine jm_iload_n (i := 3) F dX8_buy_16 rfl rfl ?_
      refine jm_callV (As := [.int p3]) (st := []) (rv := fun r => some (.int r)) (mm := fun _ => M) F dX8_buy_17 qX8_199 rfl lo_X8 rfl (fun r h => kW_isNeither E hE h) rfl (Nat.le_of_ble_eq_true rfl) ⟨Nat.le_of_ble_eq_true rfl, Nat.le_of_ble_eq_true rfl⟩ (fun r4 => ?_)
      refine jm_if_eq F dX8_buy_20 (fun c5 => ?_) (fun c5 => ?_)
      · refine jm_aload_n (i := 0) F dX8_buy_30 rfl rfl ?_
        refine jm_getR F dX8_buy_31 fl_X8_43 lo_X8 rfl ?_
        refine jm_aload_n (i := 0) F dX8_buy_34 rfl rfl ?_
        refine jm_getR F dX8_buy_35 fl_X8_10 lo_X8 rfl ?_
        refine jm_iload_n (i := 1) F dX8_buy_38 rfl rfl ?_
        refine jm_iload_n (i := 2) F dX8_buy_39 rfl rfl ?_
        refine jm_callV (As := [.ref (jm_a E 1 0), .int p1, .int p2]) (st := []) (rv := fun _ => none) (mm := fun r => r) F dX8_buy_40 qX8_202 rfl lo_X0 rfl (fun r h => kB_seek E hE isT_1 h) rfl (Nat.le_of_ble_eq_true rfl) ⟨Nat.le_of_ble_eq_true rfl, Nat.le_of_ble_eq_true rfl⟩ (fun r6 => ?_)
        refine jm_iload_n (i := 3) F dX8_buy_43 rfl rfl ?_
        refine jm_if_ne F dX8_buy_44 (fun c7 => ?_) (fun c7 => ?_)
        · refine jm_aload_n (i := 0) F dX8_buy_47 rfl rfl ?_
          refine jm_getR F dX8_buy_48 fl_X8_43 lo_X8 rfl ?_
          refine jm_getI F dX8_buy_51 fl_X8_206 lo_X0 rfl ?_
          refine jm_goto F dX8_buy_54 ?_
          exact jm_iret F dX8_buy_64 (fun h => h)
        · refine jm_aload_n (i := 0) F dX8_buy_57 rfl rfl ?_
          refine jm_getR F dX8_buy_58 fl_X8_43 lo_X8 rfl ?_
          refine jm_getI F dX8_buy_61 fl_X8_209 lo_X0 rfl ?_
          exact jm_iret F dX8_buy_64 (fun h => h)
      · refine jm_aload_n (i := 0) F dX8_buy_23 rfl rfl ?_
        refine jm_bipush F dX8_buy_24 kb_m2 ?_
        refine jm_callV (As := [.int (-2)]) (st := []) (rv := fun r => some (.int r.1)) (mm := fun r => r.2) F dX8_buy_26 qX8_64 rfl lo_X8 rfl (fun r h => kW_refuse E hE h) rfl (Nat.le_of_ble_eq_true rfl) ⟨Nat.le_of_ble_eq_true rfl, Nat.le_of_ble_eq_true rfl⟩ (fun r8 => ?_)
        exact jm_iret F dX8_buy_29 (fun h => h)
  exact G r h hz
theorem dX7_comesDown_0 : jm_d cX7_comesDown 0 (.aload_n 0) 1 1 := ⟨by decide +kernel, rfl⟩
theorem dX7_comesDown_1 : jm_d cX7_comesDown 1 (.iload_n 1) 1 2 := ⟨by decide +kernel, rfl⟩
theorem dX7_comesDown_2 : jm_d cX7_comesDown 2 (.iload_n 2) 1 3 := ⟨by decide +kernel, rfl⟩
theorem dX7_comesDown_3 : jm_d cX7_comesDown 3 (.invokevirtual 105) 3 6 := ⟨by decide +kernel, rfl⟩
theorem dX7_comesDown_6 : jm_b cX7_comesDown 6 (.ifCond .lt) 9 13 := ⟨7, by decide +kernel, rfl, by decide⟩
theorem dX7_comesDown_13 : jm_d cX7_comesDown 13 (.iconst 0) 1 14 := ⟨by decide +kernel, rfl⟩
theorem dX7_comesDown_14 : jm_d cX7_comesDown 14 (.ireturn) 1 15 := ⟨by decide +kernel, rfl⟩
theorem dX7_comesDown_9 : jm_d cX7_comesDown 9 (.iconst 1) 1 10 := ⟨by decide +kernel, rfl⟩
theorem dX7_comesDown_10 : jm_b cX7_comesDown 10 .goto 13 14 := ⟨4, by decide +kernel, rfl, by decide⟩
set_option maxHeartbeats 4000000 in
set_option maxRecDepth 100000 in
theorem kT_comesDown (E : jm_Ev) (hE : jm_dj E jm_LC) {M : jm_M} {t : Nat} {p1 : Int32} {p2 : Int32} (ht : jm_isT t) {r : Int32} (h : sT_comesDown M t p1 p2 = some r) : jm_Ct E jm_LC yX7_comesDown cX7_comesDown 3 (some .boolean) 4 117 [.ref (jm_a E t 0), .int p1, .int p2] M (some (.int r)) M := by
  refine jm_enter (lv := [some (.ref (jm_a E t 0)), some (.int p1), some (.int p2)]) hE (by decide) (Nat.le_of_ble_eq_true rfl) rfl ?_
  intro z w F hz
  have G : jm_G w 0 [some (.ref (jm_a E t 0)), some (.int p1), some (.int p2)] [] M (sT_comesDown M t p1 p2) (fun e => z (some (.int e)) M) := by
    unfold sT_comesDown
    refine jm_aload_n (i := 0) F dX7_comesDown_0 rfl rfl ?_
    refine jm_iload_n (i := 1) F dX7_comesDown_1 rfl rfl ?_
    refine jm_iload_n (i := 2) F dX7_comesDown_2 rfl rfl ?_
    refine jm_callV (As := [.int p1, .int p2]) (st := []) (rv := fun r => some (.int r)) (mm := fun _ => M) F dX7_comesDown_3 qX7_105 rfl (lo_T ht) rfl (fun r h => kT_overOf E hE ht h) rfl (Nat.le_of_ble_eq_true rfl) ⟨Nat.le_of_ble_eq_true rfl, Nat.le_of_ble_eq_true rfl⟩ (fun r1 => ?_)
    refine jm_if_lt F dX7_comesDown_6 (fun c2 => ?_) (fun c2 => ?_)
    · refine jm_iconst F dX7_comesDown_13 kc_0 ?_
      exact jm_zret F dX7_comesDown_14 (Or.inl rfl) (fun h => h)
    · refine jm_iconst F dX7_comesDown_9 kc_1 ?_
      refine jm_goto F dX7_comesDown_10 ?_
      exact jm_zret F dX7_comesDown_14 (Or.inr rfl) (fun h => h)
  exact G r h hz
theorem dX1_weighAll_0 : jm_d cX1_weighAll 0 (.iconst 0) 1 1 := ⟨by decide +kernel, rfl⟩
theorem dX1_weighAll_1 : jm_d cX1_weighAll 1 (.istore_n 2) 1 2 := ⟨by decide +kernel, rfl⟩
theorem dX1_weighAll_2 : jm_d cX1_weighAll 2 (.iload_n 2) 1 3 := ⟨by decide +kernel, rfl⟩
theorem dX1_weighAll_3 : jm_d cX1_weighAll 3 (.aload_n 1) 1 4 := ⟨by decide +kernel, rfl⟩
theorem dX1_weighAll_4 : jm_d cX1_weighAll 4 (.getfield 25) 3 7 := ⟨by decide +kernel, rfl⟩
theorem dX1_weighAll_7 : jm_b cX1_weighAll 7 (.if_icmp .ge) 10 62 := ⟨55, by decide +kernel, rfl, by decide⟩
theorem dX1_weighAll_10 : jm_d cX1_weighAll 10 (.aload_n 0) 1 11 := ⟨by decide +kernel, rfl⟩
theorem dX1_weighAll_11 : jm_d cX1_weighAll 11 (.getfield 9) 3 14 := ⟨by decide +kernel, rfl⟩
theorem dX1_weighAll_14 : jm_d cX1_weighAll 14 (.iload_n 2) 1 15 := ⟨by decide +kernel, rfl⟩
theorem dX1_weighAll_15 : jm_d cX1_weighAll 15 (.iconst 0) 1 16 := ⟨by decide +kernel, rfl⟩
theorem dX1_weighAll_16 : jm_d cX1_weighAll 16 (.iastore) 1 17 := ⟨by decide +kernel, rfl⟩
theorem dX1_weighAll_17 : jm_d cX1_weighAll 17 (.iload_n 2) 1 18 := ⟨by decide +kernel, rfl⟩
theorem dX1_weighAll_18 : jm_d cX1_weighAll 18 (.iconst 1) 1 19 := ⟨by decide +kernel, rfl⟩
theorem dX1_weighAll_19 : jm_d cX1_weighAll 19 (.iadd) 1 20 := ⟨by decide +kernel, rfl⟩
theorem dX1_weighAll_20 : jm_d cX1_weighAll 20 (.istore_n 3) 1 21 := ⟨by decide +kernel, rfl⟩
theorem dX1_weighAll_21 : jm_d cX1_weighAll 21 (.iload_n 3) 1 22 := ⟨by decide +kernel, rfl⟩
theorem dX1_weighAll_22 : jm_d cX1_weighAll 22 (.aload_n 1) 1 23 := ⟨by decide +kernel, rfl⟩
theorem dX1_weighAll_23 : jm_d cX1_weighAll 23 (.getfield 25) 3 26 := ⟨by decide +kernel, rfl⟩
theorem dX1_weighAll_26 : jm_b cX1_weighAll 26 (.if_icmp .ge) 29 56 := ⟨30, by decide +kernel, rfl, by decide⟩
theorem dX1_weighAll_29 : jm_d cX1_weighAll 29 (.aload_n 1) 1 30 := ⟨by decide +kernel, rfl⟩
theorem dX1_weighAll_30 : jm_d cX1_weighAll 30 (.iload_n 2) 1 31 := ⟨by decide +kernel, rfl⟩
theorem dX1_weighAll_31 : jm_d cX1_weighAll 31 (.iload_n 3) 1 32 := ⟨by decide +kernel, rfl⟩
theorem dX1_weighAll_32 : jm_d cX1_weighAll 32 (.invokevirtual 42) 3 35 := ⟨by decide +kernel, rfl⟩
theorem dX1_weighAll_35 : jm_b cX1_weighAll 35 (.ifCond .eq) 38 50 := ⟨15, by decide +kernel, rfl, by decide⟩
theorem dX1_weighAll_50 : jm_d cX1_weighAll 50 (.iinc 3 1) 3 53 := ⟨by decide +kernel, rfl⟩
theorem dX1_weighAll_53 : jm_b cX1_weighAll 53 .goto 56 21 := ⟨(-32), by decide +kernel, rfl, by decide⟩
theorem dX1_weighAll_38 : jm_d cX1_weighAll 38 (.aload_n 0) 1 39 := ⟨by decide +kernel, rfl⟩
theorem dX1_weighAll_39 : jm_d cX1_weighAll 39 (.getfield 9) 3 42 := ⟨by decide +kernel, rfl⟩
theorem dX1_weighAll_42 : jm_d cX1_weighAll 42 (.iload_n 2) 1 43 := ⟨by decide +kernel, rfl⟩
theorem dX1_weighAll_43 : jm_d cX1_weighAll 43 (.dup2) 1 44 := ⟨by decide +kernel, rfl⟩
theorem dX1_weighAll_44 : jm_d cX1_weighAll 44 (.iaload) 1 45 := ⟨by decide +kernel, rfl⟩
theorem dX1_weighAll_45 : jm_d cX1_weighAll 45 (.iconst 1) 1 46 := ⟨by decide +kernel, rfl⟩
theorem dX1_weighAll_46 : jm_d cX1_weighAll 46 (.iload_n 3) 1 47 := ⟨by decide +kernel, rfl⟩
theorem dX1_weighAll_47 : jm_d cX1_weighAll 47 (.ishl) 1 48 := ⟨by decide +kernel, rfl⟩
theorem dX1_weighAll_48 : jm_d cX1_weighAll 48 (.ior) 1 49 := ⟨by decide +kernel, rfl⟩
theorem dX1_weighAll_49 : jm_d cX1_weighAll 49 (.iastore) 1 50 := ⟨by decide +kernel, rfl⟩
theorem dX1_weighAll_56 : jm_d cX1_weighAll 56 (.iinc 2 1) 3 59 := ⟨by decide +kernel, rfl⟩
theorem dX1_weighAll_59 : jm_b cX1_weighAll 59 .goto 62 2 := ⟨(-57), by decide +kernel, rfl, by decide⟩
theorem dX1_weighAll_62 : jm_d cX1_weighAll 62 (.return_) 1 63 := ⟨by decide +kernel, rfl⟩
set_option maxHeartbeats 4000000 in
set_option maxRecDepth 100000 in
theorem kC_weighAll (E : jm_Ev) (hE : jm_dj E jm_LC) {M : jm_M} {p1 : Nat} (hp1 : jm_isT p1) {r : jm_M} (h : sC_weighAll M p1 = some r) : jm_Ct E jm_LC yX1_weighAll cX1_weighAll 4 none 5 139 [.ref (jm_a E 17 0), .ref (jm_a E p1 0)] M none r := by
  refine jm_enter (lv := [some (.ref (jm_a E 17 0)), some (.ref (jm_a E p1 0)), none, none]) hE (by decide) (Nat.le_of_ble_eq_true rfl) rfl ?_
  intro z w F hz
  have G : jm_G w 0 [some (.ref (jm_a E 17 0)), some (.ref (jm_a E p1 0)), none, none] [] M (sC_weighAll M p1) (fun e => z none e) := by
    unfold sC_weighAll
    refine jm_iconst F dX1_weighAll_0 kc_0 ?_
    refine jm_istore_n (i := 2) (lv' := [some (.ref (jm_a E 17 0)), some (.ref (jm_a E p1 0)), some (.int 0), none]) F dX1_weighAll_1 rfl (by decide) rfl rfl ?_
    refine jm_bind (pcJ := 62) (lvJ := fun e12 => [none, none, none, none]) (stJ := fun _ => []) (MJ := fun e12 => e12) ?_ (fun e12 => ?_)
    · refine jm_weak F (lv' := [some (.ref (jm_a E 17 0)), some (.ref (jm_a E p1 0)), some (.int 0), none]) ⟨rfl, rfl, rfl, trivial⟩ ?_
      refine jm_loopR (lvH := fun s1 => [some (.ref (jm_a E 17 0)), some (.ref (jm_a E p1 0)), some (.int s1.1), none]) (MH := fun s1 => s1.2) (fun s1 => ?_) jm_N (0, M)
      unfold sC_weighAll_L2
      refine jm_iload_n (i := 2) F dX1_weighAll_2 rfl rfl ?_
      refine jm_aload_n (i := 1) F dX1_weighAll_3 rfl rfl ?_
      refine jm_getI F dX1_weighAll_4 fl_X1_25 (lo_T hp1) rfl ?_
      refine jm_icmp_ge F dX1_weighAll_7 (fun c2 => ?_) (fun c2 => ?_)
      · exact jm_weakD F (lv' := [none, none, none, none]) trivial (fun h => h)
      · refine jm_aload_n (i := 0) F dX1_weighAll_10 rfl rfl ?_
        refine jm_getR F dX1_weighAll_11 fl_X1_9 lo_X1 rfl ?_
        refine jm_iload_n (i := 2) F dX1_weighAll_14 rfl rfl ?_
        refine jm_iconst F dX1_weighAll_15 kc_0 ?_
        refine jm_iast F dX1_weighAll_16 la_X1_1 (fun M3 => ?_)
        refine jm_iload_n (i := 2) F dX1_weighAll_17 rfl rfl ?_
        refine jm_iconst F dX1_weighAll_18 kc_1 ?_
        refine jm_iadd F dX1_weighAll_19 ?_
        refine jm_nameI (f := fun x4 => [.int x4]) (fun x4 => ?_) rfl
        refine jm_istore_n (i := 3) (lv' := [some (.ref (jm_a E 17 0)), some (.ref (jm_a E p1 0)), some (.int s1.1), some (.int x4)]) F dX1_weighAll_20 rfl (by decide) rfl rfl ?_
        refine jm_bind (pcJ := 56) (lvJ := fun e11 => [some (.ref (jm_a E 17 0)), some (.ref (jm_a E p1 0)), some (.int s1.1), none]) (stJ := fun _ => []) (MJ := fun e11 => e11) ?_ (fun e11 => ?_)
        · refine jm_weak F (lv' := [some (.ref (jm_a E 17 0)), some (.ref (jm_a E p1 0)), some (.int s1.1), some (.int x4)]) ⟨rfl, rfl, rfl, rfl, trivial⟩ ?_
          refine jm_loopR (lvH := fun s5 => [some (.ref (jm_a E 17 0)), some (.ref (jm_a E p1 0)), some (.int s1.1), some (.int s5.1)]) (MH := fun s5 => s5.2) (fun s5 => ?_) jm_N (x4, M3)
          unfold sC_weighAll_L21
          refine jm_iload_n (i := 3) F dX1_weighAll_21 rfl rfl ?_
          refine jm_aload_n (i := 1) F dX1_weighAll_22 rfl rfl ?_
          refine jm_getI F dX1_weighAll_23 fl_X1_25 (lo_T hp1) rfl ?_
          refine jm_icmp_ge F dX1_weighAll_26 (fun c6 => ?_) (fun c6 => ?_)
          · exact jm_weakD F (lv' := [some (.ref (jm_a E 17 0)), some (.ref (jm_a E p1 0)), some (.int s1.1), none]) ⟨rfl, rfl, rfl, trivial⟩ (fun h => h)
          · refine jm_aload_n (i := 1) F dX1_weighAll_29 rfl rfl ?_
            refine jm_iload_n (i := 2) F dX1_weighAll_30 rfl rfl ?_
            refine jm_iload_n (i := 3) F dX1_weighAll_31 rfl rfl ?_
            refine jm_callV (As := [.int s1.1, .int s5.1]) (st := []) (rv := fun r => some (.int r)) (mm := fun _ => s5.2) F dX1_weighAll_32 qX1_42 rfl (lo_T hp1) rfl (fun r h => kT_comesDown E hE hp1 h) rfl (Nat.le_of_ble_eq_true rfl) ⟨Nat.le_of_ble_eq_true rfl, Nat.le_of_ble_eq_true rfl⟩ (fun r7 => ?_)
            refine jm_if_eq F dX1_weighAll_35 (fun c8 => ?_) (fun c8 => ?_)
            · refine jm_iinc (i := 3) (lv' := [some (.ref (jm_a E 17 0)), some (.ref (jm_a E p1 0)), some (.int s1.1), some (.int (s5.1 + 1))]) F dX1_weighAll_50 kc_1 rfl (by decide) rfl rfl ?_
              refine jm_goto F dX1_weighAll_53 ?_
              exact jm_weakD F (lv' := [some (.ref (jm_a E 17 0)), some (.ref (jm_a E p1 0)), some (.int s1.1), some (.int (s5.1 + 1))]) ⟨rfl, rfl, rfl, rfl, trivial⟩ (fun h => h)
            · refine jm_aload_n (i := 0) F dX1_weighAll_38 rfl rfl ?_
              refine jm_getR F dX1_weighAll_39 fl_X1_9 lo_X1 rfl ?_
              refine jm_iload_n (i := 2) F dX1_weighAll_42 rfl rfl ?_
              refine jm_dup2 F dX1_weighAll_43 rfl rfl ?_
              refine jm_iald F dX1_weighAll_44 la_X1_1 (fun v9 => ?_)
              refine jm_iconst F dX1_weighAll_45 kc_1 ?_
              refine jm_iload_n (i := 3) F dX1_weighAll_46 rfl rfl ?_
              refine jm_ishl F dX1_weighAll_47 ?_
              refine jm_ior F dX1_weighAll_48 ?_
              refine jm_iast F dX1_weighAll_49 la_X1_1 (fun M10 => ?_)
              refine jm_iinc (i := 3) (lv' := [some (.ref (jm_a E 17 0)), some (.ref (jm_a E p1 0)), some (.int s1.1), some (.int (s5.1 + 1))]) F dX1_weighAll_50 kc_1 rfl (by decide) rfl rfl ?_
              refine jm_goto F dX1_weighAll_53 ?_
              exact jm_weakD F (lv' := [some (.ref (jm_a E 17 0)), some (.ref (jm_a E p1 0)), some (.int s1.1), some (.int (s5.1 + 1))]) ⟨rfl, rfl, rfl, rfl, trivial⟩ (fun h => h)
        · refine jm_iinc (i := 2) (lv' := [some (.ref (jm_a E 17 0)), some (.ref (jm_a E p1 0)), some (.int (s1.1 + 1)), none]) F dX1_weighAll_56 kc_1 rfl (by decide) rfl rfl ?_
          refine jm_goto F dX1_weighAll_59 ?_
          exact jm_weakD F (lv' := [some (.ref (jm_a E 17 0)), some (.ref (jm_a E p1 0)), some (.int (s1.1 + 1)), none]) ⟨rfl, rfl, rfl, trivial⟩ (fun h => h)
    · exact jm_vret F dX1_weighAll_62 (fun h => h)
  exact G r h hz
theorem dX1_firstOf_0 : jm_d cX1_firstOf 0 (.iconst 0) 1 1 := ⟨by decide +kernel, rfl⟩
theorem dX1_firstOf_1 : jm_d cX1_firstOf 1 (.istore_n 3) 1 2 := ⟨by decide +kernel, rfl⟩
theorem dX1_firstOf_2 : jm_d cX1_firstOf 2 (.iload_n 3) 1 3 := ⟨by decide +kernel, rfl⟩
theorem dX1_firstOf_3 : jm_d cX1_firstOf 3 (.iload_n 2) 1 4 := ⟨by decide +kernel, rfl⟩
theorem dX1_firstOf_4 : jm_b cX1_firstOf 4 (.if_icmp .ge) 7 23 := ⟨19, by decide +kernel, rfl, by decide⟩
theorem dX1_firstOf_7 : jm_d cX1_firstOf 7 (.iload_n 1) 1 8 := ⟨by decide +kernel, rfl⟩
theorem dX1_firstOf_8 : jm_d cX1_firstOf 8 (.iconst 1) 1 9 := ⟨by decide +kernel, rfl⟩
theorem dX1_firstOf_9 : jm_d cX1_firstOf 9 (.iload_n 3) 1 10 := ⟨by decide +kernel, rfl⟩
theorem dX1_firstOf_10 : jm_d cX1_firstOf 10 (.ishl) 1 11 := ⟨by decide +kernel, rfl⟩
theorem dX1_firstOf_11 : jm_d cX1_firstOf 11 (.iand) 1 12 := ⟨by decide +kernel, rfl⟩
theorem dX1_firstOf_12 : jm_b cX1_firstOf 12 (.ifCond .eq) 15 17 := ⟨5, by decide +kernel, rfl, by decide⟩
theorem dX1_firstOf_17 : jm_d cX1_firstOf 17 (.iinc 3 1) 3 20 := ⟨by decide +kernel, rfl⟩
theorem dX1_firstOf_20 : jm_b cX1_firstOf 20 .goto 23 2 := ⟨(-18), by decide +kernel, rfl, by decide⟩
theorem dX1_firstOf_15 : jm_d cX1_firstOf 15 (.iload_n 3) 1 16 := ⟨by decide +kernel, rfl⟩
theorem dX1_firstOf_16 : jm_d cX1_firstOf 16 (.ireturn) 1 17 := ⟨by decide +kernel, rfl⟩
theorem dX1_firstOf_23 : jm_d cX1_firstOf 23 (.iconst 0) 1 24 := ⟨by decide +kernel, rfl⟩
theorem dX1_firstOf_24 : jm_d cX1_firstOf 24 (.ireturn) 1 25 := ⟨by decide +kernel, rfl⟩
set_option maxHeartbeats 4000000 in
set_option maxRecDepth 100000 in
theorem kC_firstOf (E : jm_Ev) (hE : jm_dj E jm_LC) {p1 : Int32} {p2 : Int32} {M : jm_M}  {r : Int32} (h : sC_firstOf p1 p2 = some r) : jm_Ct E jm_LC yX1_firstOf cX1_firstOf 4 (some .int) 0 0 [.ref (jm_a E 17 0), .int p1, .int p2] M (some (.int r)) M := by
  refine jm_enter (lv := [some (.ref (jm_a E 17 0)), some (.int p1), some (.int p2), none]) hE (by decide) (Nat.le_of_ble_eq_true rfl) rfl ?_
  intro z w F hz
  have G : jm_G w 0 [some (.ref (jm_a E 17 0)), some (.int p1), some (.int p2), none] [] M (sC_firstOf p1 p2) (fun e => z (some (.int e)) M) := by
    unfold sC_firstOf
    refine jm_iconst F dX1_firstOf_0 kc_0 ?_
    refine jm_istore_n (i := 3) (lv' := [some (.ref (jm_a E 17 0)), some (.int p1), some (.int p2), some (.int 0)]) F dX1_firstOf_1 rfl (by decide) rfl rfl ?_
    refine jm_bindS (pcJ := 23) (lvJ := fun e4 => [none, none, none, none]) (stJ := fun _ => []) (MJ := fun e4 => M) ?_ (fun e4 => ?_)
    · refine jm_weak F (lv' := [none, some (.int p1), some (.int p2), some (.int 0)]) ⟨rfl, rfl, rfl, trivial⟩ ?_
      refine jm_loopR (lvH := fun s1 => [none, some (.int p1), some (.int p2), some (.int s1)]) (MH := fun s1 => M) (fun s1 => ?_) jm_N 0
      unfold sC_firstOf_L2
      refine jm_iload_n (i := 3) F dX1_firstOf_2 rfl rfl ?_
      refine jm_iload_n (i := 2) F dX1_firstOf_3 rfl rfl ?_
      refine jm_icmp_ge F dX1_firstOf_4 (fun c2 => ?_) (fun c2 => ?_)
      · exact jm_weakD F (lv' := [none, none, none, none]) trivial (fun h => h)
      · refine jm_iload_n (i := 1) F dX1_firstOf_7 rfl rfl ?_
        refine jm_iconst F dX1_firstOf_8 kc_1 ?_
        refine jm_iload_n (i := 3) F dX1_firstOf_9 rfl rfl ?_
        refine jm_ishl F dX1_firstOf_10 ?_
        refine jm_iand F dX1_firstOf_11 ?_
        refine jm_if_eq F dX1_firstOf_12 (fun c3 => ?_) (fun c3 => ?_)
        · refine jm_iinc (i := 3) (lv' := [none, some (.int p1), some (.int p2), some (.int (s1 + 1))]) F dX1_firstOf_17 kc_1 rfl (by decide) rfl rfl ?_
          refine jm_goto F dX1_firstOf_20 ?_
          exact jm_weakD F (lv' := [none, some (.int p1), some (.int p2), some (.int (s1 + 1))]) ⟨rfl, rfl, rfl, trivial⟩ (fun h => h)
        · refine jm_iload_n (i := 3) F dX1_firstOf_15 rfl rfl ?_
          exact jm_iret F dX1_firstOf_16 (fun h => h)
    · refine jm_iconst F dX1_firstOf_23 kc_0 ?_
      exact jm_iret F dX1_firstOf_24 (fun h => h)
  exact G r h hz
theorem dX1_mostAmong_0 : jm_d cX1_mostAmong 0 (.aload_n 0) 1 1 := ⟨by decide +kernel, rfl⟩
theorem dX1_mostAmong_1 : jm_d cX1_mostAmong 1 (.iload_n 1) 1 2 := ⟨by decide +kernel, rfl⟩
theorem dX1_mostAmong_2 : jm_d cX1_mostAmong 2 (.iload_n 2) 1 3 := ⟨by decide +kernel, rfl⟩
theorem dX1_mostAmong_3 : jm_d cX1_mostAmong 3 (.invokevirtual 46) 3 6 := ⟨by decide +kernel, rfl⟩
theorem dX1_mostAmong_6 : jm_d cX1_mostAmong 6 (.istore_n 3) 1 7 := ⟨by decide +kernel, rfl⟩
theorem dX1_mostAmong_7 : jm_d cX1_mostAmong 7 (.iload_n 1) 1 8 := ⟨by decide +kernel, rfl⟩
theorem dX1_mostAmong_8 : jm_d cX1_mostAmong 8 (.iconst 1) 1 9 := ⟨by decide +kernel, rfl⟩
theorem dX1_mostAmong_9 : jm_d cX1_mostAmong 9 (.iload_n 3) 1 10 := ⟨by decide +kernel, rfl⟩
theorem dX1_mostAmong_10 : jm_d cX1_mostAmong 10 (.ishl) 1 11 := ⟨by decide +kernel, rfl⟩
theorem dX1_mostAmong_11 : jm_d cX1_mostAmong 11 (.iconst (-1)) 1 12 := ⟨by decide +kernel, rfl⟩
theorem dX1_mostAmong_12 : jm_d cX1_mostAmong 12 (.ixor) 1 13 := ⟨by decide +kernel, rfl⟩
theorem dX1_mostAmong_13 : jm_d cX1_mostAmong 13 (.iand) 1 14 := ⟨by decide +kernel, rfl⟩
theorem dX1_mostAmong_14 : jm_d cX1_mostAmong 14 (.istore 4) 2 16 := ⟨by decide +kernel, rfl⟩
theorem dX1_mostAmong_16 : jm_d cX1_mostAmong 16 (.aload_n 0) 1 17 := ⟨by decide +kernel, rfl⟩
theorem dX1_mostAmong_17 : jm_d cX1_mostAmong 17 (.getfield 15) 3 20 := ⟨by decide +kernel, rfl⟩
theorem dX1_mostAmong_20 : jm_d cX1_mostAmong 20 (.iload 4) 2 22 := ⟨by decide +kernel, rfl⟩
theorem dX1_mostAmong_22 : jm_d cX1_mostAmong 22 (.iaload) 1 23 := ⟨by decide +kernel, rfl⟩
theorem dX1_mostAmong_23 : jm_d cX1_mostAmong 23 (.istore 5) 2 25 := ⟨by decide +kernel, rfl⟩
theorem dX1_mostAmong_25 : jm_d cX1_mostAmong 25 (.iload_n 3) 1 26 := ⟨by decide +kernel, rfl⟩
theorem dX1_mostAmong_26 : jm_d cX1_mostAmong 26 (.iconst 1) 1 27 := ⟨by decide +kernel, rfl⟩
theorem dX1_mostAmong_27 : jm_d cX1_mostAmong 27 (.iadd) 1 28 := ⟨by decide +kernel, rfl⟩
theorem dX1_mostAmong_28 : jm_d cX1_mostAmong 28 (.istore 6) 2 30 := ⟨by decide +kernel, rfl⟩
theorem dX1_mostAmong_30 : jm_d cX1_mostAmong 30 (.iload 6) 2 32 := ⟨by decide +kernel, rfl⟩
theorem dX1_mostAmong_32 : jm_d cX1_mostAmong 32 (.iload_n 2) 1 33 := ⟨by decide +kernel, rfl⟩
theorem dX1_mostAmong_33 : jm_b cX1_mostAmong 33 (.if_icmp .ge) 36 82 := ⟨49, by decide +kernel, rfl, by decide⟩
theorem dX1_mostAmong_36 : jm_d cX1_mostAmong 36 (.iload 4) 2 38 := ⟨by decide +kernel, rfl⟩
theorem dX1_mostAmong_38 : jm_d cX1_mostAmong 38 (.aload_n 0) 1 39 := ⟨by decide +kernel, rfl⟩
theorem dX1_mostAmong_39 : jm_d cX1_mostAmong 39 (.getfield 9) 3 42 := ⟨by decide +kernel, rfl⟩
theorem dX1_mostAmong_42 : jm_d cX1_mostAmong 42 (.iload_n 3) 1 43 := ⟨by decide +kernel, rfl⟩
theorem dX1_mostAmong_43 : jm_d cX1_mostAmong 43 (.iaload) 1 44 := ⟨by decide +kernel, rfl⟩
theorem dX1_mostAmong_44 : jm_d cX1_mostAmong 44 (.iand) 1 45 := ⟨by decide +kernel, rfl⟩
theorem dX1_mostAmong_45 : jm_d cX1_mostAmong 45 (.iconst 1) 1 46 := ⟨by decide +kernel, rfl⟩
theorem dX1_mostAmong_46 : jm_d cX1_mostAmong 46 (.iload 6) 2 48 := ⟨by decide +kernel, rfl⟩
theorem dX1_mostAmong_48 : jm_d cX1_mostAmong 48 (.ishl) 1 49 := ⟨by decide +kernel, rfl⟩
theorem dX1_mostAmong_49 : jm_d cX1_mostAmong 49 (.iand) 1 50 := ⟨by decide +kernel, rfl⟩
theorem dX1_mostAmong_50 : jm_b cX1_mostAmong 50 (.ifCond .eq) 53 76 := ⟨26, by decide +kernel, rfl, by decide⟩
theorem dX1_mostAmong_76 : jm_d cX1_mostAmong 76 (.iinc 6 1) 3 79 := ⟨by decide +kernel, rfl⟩
theorem dX1_mostAmong_79 : jm_b cX1_mostAmong 79 .goto 82 30 := ⟨(-49), by decide +kernel, rfl, by decide⟩
theorem dX1_mostAmong_53 : jm_d cX1_mostAmong 53 (.iload 5) 2 55 := ⟨by decide +kernel, rfl⟩
theorem dX1_mostAmong_55 : jm_d cX1_mostAmong 55 (.iconst 1) 1 56 := ⟨by decide +kernel, rfl⟩
theorem dX1_mostAmong_56 : jm_d cX1_mostAmong 56 (.aload_n 0) 1 57 := ⟨by decide +kernel, rfl⟩
theorem dX1_mostAmong_57 : jm_d cX1_mostAmong 57 (.getfield 15) 3 60 := ⟨by decide +kernel, rfl⟩
theorem dX1_mostAmong_60 : jm_d cX1_mostAmong 60 (.iload 4) 2 62 := ⟨by decide +kernel, rfl⟩
theorem dX1_mostAmong_62 : jm_d cX1_mostAmong 62 (.iconst 1) 1 63 := ⟨by decide +kernel, rfl⟩
theorem dX1_mostAmong_63 : jm_d cX1_mostAmong 63 (.iload 6) 2 65 := ⟨by decide +kernel, rfl⟩
theorem dX1_mostAmong_65 : jm_d cX1_mostAmong 65 (.ishl) 1 66 := ⟨by decide +kernel, rfl⟩
theorem dX1_mostAmong_66 : jm_d cX1_mostAmong 66 (.iconst (-1)) 1 67 := ⟨by decide +kernel, rfl⟩
theorem dX1_mostAmong_67 : jm_d cX1_mostAmong 67 (.ixor) 1 68 := ⟨by decide +kernel, rfl⟩
theorem dX1_mostAmong_68 : jm_d cX1_mostAmong 68 (.iand) 1 69 := ⟨by decide +kernel, rfl⟩
theorem dX1_mostAmong_69 : jm_d cX1_mostAmong 69 (.iaload) 1 70 := ⟨by decide +kernel, rfl⟩
theorem dX1_mostAmong_70 : jm_d cX1_mostAmong 70 (.iadd) 1 71 := ⟨by decide +kernel, rfl⟩
theorem dX1_mostAmong_71 : jm_d cX1_mostAmong 71 (.invokestatic 49) 3 74 := ⟨by decide +kernel, rfl⟩
theorem dX1_mostAmong_74 : jm_d cX1_mostAmong 74 (.istore 5) 2 76 := ⟨by decide +kernel, rfl⟩
theorem dX1_mostAmong_82 : jm_d cX1_mostAmong 82 (.iload 5) 2 84 := ⟨by decide +kernel, rfl⟩
theorem dX1_mostAmong_84 : jm_d cX1_mostAmong 84 (.ireturn) 1 85 := ⟨by decide +kernel, rfl⟩
set_option maxHeartbeats 4000000 in
set_option maxRecDepth 100000 in
theorem kC_mostAmong (E : jm_Ev) (hE : jm_dj E jm_LC) {M : jm_M} {p1 : Int32} {p2 : Int32}  {r : Int32} (h : sC_mostAmong M p1 p2 = some r) : jm_Ct E jm_LC yX1_mostAmong cX1_mostAmong 7 (some .int) 1 40 [.ref (jm_a E 17 0), .int p1, .int p2] M (some (.int r)) M := by
  refine jm_enter (lv := [some (.ref (jm_a E 17 0)), some (.int p1), some (.int p2), none, none, none, none]) hE (by decide) (Nat.le_of_ble_eq_true rfl) rfl ?_
  intro z w F hz
  have G : jm_G w 0 [some (.ref (jm_a E 17 0)), some (.int p1), some (.int p2), none, none, none, none] [] M (sC_mostAmong M p1 p2) (fun e => z (some (.int e)) M) := by
    unfold sC_mostAmong
    refine jm_aload_n (i := 0) F dX1_mostAmong_0 rfl rfl ?_
    refine jm_iload_n (i := 1) F dX1_mostAmong_1 rfl rfl ?_
    refine jm_iload_n (i := 2) F dX1_mostAmong_2 rfl rfl ?_
    refine jm_callV (As := [.int p1, .int p2]) (st := []) (rv := fun r => some (.int r)) (mm := fun _ => M) F dX1_mostAmong_3 qX1_46 rfl lo_X1 rfl (fun r h => kC_firstOf E hE h) rfl (Nat.le_of_ble_eq_true rfl) ⟨Nat.le_of_ble_eq_true rfl, Nat.le_of_ble_eq_true rfl⟩ (fun r1 => ?_)
    refine jm_istore_n (i := 3) (lv' := [some (.ref (jm_a E 17 0)), some (.int p1), some (.int p2), some (.int r1), none, none, none]) F dX1_mostAmong_6 rfl (by decide) rfl rfl ?_
    refine jm_iload_n (i := 1) F dX1_mostAmong_7 rfl rfl ?_
    refine jm_iconst F dX1_mostAmong_8 kc_1 ?_
    refine jm_iload_n (i := 3) F dX1_mostAmong_9 rfl rfl ?_
    refine jm_ishl F dX1_mostAmong_10 ?_
    refine jm_iconst F dX1_mostAmong_11 kc_m1 ?_
    refine jm_ixor F dX1_mostAmong_12 ?_
    refine jm_iand F dX1_mostAmong_13 ?_
    refine jm_nameI (f := fun x2 => [.int x2]) (fun x2 => ?_) rfl
    refine jm_istore (i := 4) (lv' := [some (.ref (jm_a E 17 0)), some (.int p1), some (.int p2), some (.int r1), some (.int x2), none, none]) F dX1_mostAmong_14 (by decide) rfl rfl ?_
    refine jm_aload_n (i := 0) F dX1_mostAmong_16 rfl rfl ?_
    refine jm_getR F dX1_mostAmong_17 fl_X1_15 lo_X1 rfl ?_
    refine jm_iload F dX1_mostAmong_20 rfl ?_
    refine jm_iald F dX1_mostAmong_22 la_X1_2 (fun v3 => ?_)
    refine jm_istore (i := 5) (lv' := [some (.ref (jm_a E 17 0)), some (.int p1), some (.int p2), some (.int r1), some (.int x2), some (.int v3), none]) F dX1_mostAmong_23 (by decide) rfl rfl ?_
    refine jm_iload_n (i := 3) F dX1_mostAmong_25 rfl rfl ?_
    refine jm_iconst F dX1_mostAmong_26 kc_1 ?_
    refine jm_iadd F dX1_mostAmong_27 ?_
    refine jm_nameI (f := fun x4 => [.int x4]) (fun x4 => ?_) rfl
    refine jm_istore (i := 6) (lv' := [some (.ref (jm_a E 17 0)), some (.int p1), some (.int p2), some (.int r1), some (.int x2), some (.int v3), some (.int x4)]) F dX1_mostAmong_28 (by decide) rfl rfl ?_
    refine jm_bind (pcJ := 82) (lvJ := fun e11 => [none, none, none, none, none, some (.int e11), none]) (stJ := fun _ => []) (MJ := fun e11 => M) ?_ (fun e11 => ?_)
    · refine jm_weak F (lv' := [some (.ref (jm_a E 17 0)), none, some (.int p2), some (.int r1), some (.int x2), some (.int v3), some (.int x4)]) ⟨rfl, rfl, rfl, rfl, rfl, rfl, trivial⟩ ?_
      refine jm_loopR (lvH := fun s5 => [some (.ref (jm_a E 17 0)), none, some (.int p2), some (.int r1), some (.int x2), some (.int s5.1), some (.int s5.2)]) (MH := fun s5 => M) (fun s5 => ?_) jm_N (v3, x4)
      unfold sC_mostAmong_L30
      refine jm_iload F dX1_mostAmong_30 rfl ?_
      refine jm_iload_n (i := 2) F dX1_mostAmong_32 rfl rfl ?_
      refine jm_icmp_ge F dX1_mostAmong_33 (fun c6 => ?_) (fun c6 => ?_)
      · exact jm_weakD F (lv' := [none, none, none, none, none, some (.int s5.1), none]) ⟨rfl, trivial⟩ (fun h => h)
      · refine jm_iload F dX1_mostAmong_36 rfl ?_
        refine jm_aload_n (i := 0) F dX1_mostAmong_38 rfl rfl ?_
        refine jm_getR F dX1_mostAmong_39 fl_X1_9 lo_X1 rfl ?_
        refine jm_iload_n (i := 3) F dX1_mostAmong_42 rfl rfl ?_
        refine jm_iald F dX1_mostAmong_43 la_X1_1 (fun v7 => ?_)
        refine jm_iand F dX1_mostAmong_44 ?_
        refine jm_iconst F dX1_mostAmong_45 kc_1 ?_
        refine jm_iload F dX1_mostAmong_46 rfl ?_
        refine jm_ishl F dX1_mostAmong_48 ?_
        refine jm_iand F dX1_mostAmong_49 ?_
        refine jm_if_eq F dX1_mostAmong_50 (fun c8 => ?_) (fun c8 => ?_)
        · refine jm_iinc (i := 6) (lv' := [some (.ref (jm_a E 17 0)), none, some (.int p2), some (.int r1), some (.int x2), some (.int s5.1), some (.int (s5.2 + 1))]) F dX1_mostAmong_76 kc_1 rfl (by decide) rfl rfl ?_
          refine jm_goto F dX1_mostAmong_79 ?_
          exact jm_weakD F (lv' := [some (.ref (jm_a E 17 0)), none, some (.int p2), some (.int r1), some (.int x2), some (.int s5.1), some (.int (s5.2 + 1))]) ⟨rfl, rfl, rfl, rfl, rfl, rfl, trivial⟩ (fun h => h)
        · refine jm_iload F dX1_mostAmong_53 rfl ?_
          refine jm_iconst F dX1_mostAmong_55 kc_1 ?_
          refine jm_aload_n (i := 0) F dX1_mostAmong_56 rfl rfl ?_
          refine jm_getR F dX1_mostAmong_57 fl_X1_15 lo_X1 rfl ?_
          refine jm_iload F dX1_mostAmong_60 rfl ?_
          refine jm_iconst F dX1_mostAmong_62 kc_1 ?_
          refine jm_iload F dX1_mostAmong_63 rfl ?_
          refine jm_ishl F dX1_mostAmong_65 ?_
          refine jm_iconst F dX1_mostAmong_66 kc_m1 ?_
          refine jm_ixor F dX1_mostAmong_67 ?_
          refine jm_iand F dX1_mostAmong_68 ?_
          refine jm_iald F dX1_mostAmong_69 la_X1_2 (fun v9 => ?_)
          refine jm_iadd F dX1_mostAmong_70 ?_
          refine jm_mmax F dX1_mostAmong_71 tw_695 tw_551 tw_92 tw_552 ⟨Nat.le_of_ble_eq_true rfl, Nat.le_of_ble_eq_true rfl⟩ ?_
          refine jm_nameI (f := fun x10 => [.int x10]) (fun x10 => ?_) rfl
          refine jm_istore (i := 5) (lv' := [some (.ref (jm_a E 17 0)), none, some (.int p2), some (.int r1), some (.int x2), some (.int x10), some (.int s5.2)]) F dX1_mostAmong_74 (by decide) rfl rfl ?_
          refine jm_iinc (i := 6) (lv' := [some (.ref (jm_a E 17 0)), none, some (.int p2), some (.int r1), some (.int x2), some (.int x10), some (.int (s5.2 + 1))]) F dX1_mostAmong_76 kc_1 rfl (by decide) rfl rfl ?_
          refine jm_goto F dX1_mostAmong_79 ?_
          exact jm_weakD F (lv' := [some (.ref (jm_a E 17 0)), none, some (.int p2), some (.int r1), some (.int x2), some (.int x10), some (.int (s5.2 + 1))]) ⟨rfl, rfl, rfl, rfl, rfl, rfl, trivial⟩ (fun h => h)
    · refine jm_iload F dX1_mostAmong_82 rfl ?_
      exact jm_iret F dX1_mostAmong_84 (fun h => h)
  exact G r h hz
theorem dX1_firstPartner_0 : jm_d cX1_firstPartner 0 (.iload_n 2) 1 1 := ⟨by decide +kernel, rfl⟩
theorem dX1_firstPartner_1 : jm_d cX1_firstPartner 1 (.iconst 1) 1 2 := ⟨by decide +kernel, rfl⟩
theorem dX1_firstPartner_2 : jm_d cX1_firstPartner 2 (.iload_n 1) 1 3 := ⟨by decide +kernel, rfl⟩
theorem dX1_firstPartner_3 : jm_d cX1_firstPartner 3 (.ishl) 1 4 := ⟨by decide +kernel, rfl⟩
theorem dX1_firstPartner_4 : jm_d cX1_firstPartner 4 (.iconst (-1)) 1 5 := ⟨by decide +kernel, rfl⟩
theorem dX1_firstPartner_5 : jm_d cX1_firstPartner 5 (.ixor) 1 6 := ⟨by decide +kernel, rfl⟩
theorem dX1_firstPartner_6 : jm_d cX1_firstPartner 6 (.iand) 1 7 := ⟨by decide +kernel, rfl⟩
theorem dX1_firstPartner_7 : jm_d cX1_firstPartner 7 (.istore 4) 2 9 := ⟨by decide +kernel, rfl⟩
theorem dX1_firstPartner_9 : jm_d cX1_firstPartner 9 (.iload_n 1) 1 10 := ⟨by decide +kernel, rfl⟩
theorem dX1_firstPartner_10 : jm_d cX1_firstPartner 10 (.iconst 1) 1 11 := ⟨by decide +kernel, rfl⟩
theorem dX1_firstPartner_11 : jm_d cX1_firstPartner 11 (.iadd) 1 12 := ⟨by decide +kernel, rfl⟩
theorem dX1_firstPartner_12 : jm_d cX1_firstPartner 12 (.istore 5) 2 14 := ⟨by decide +kernel, rfl⟩
theorem dX1_firstPartner_14 : jm_d cX1_firstPartner 14 (.iload 5) 2 16 := ⟨by decide +kernel, rfl⟩
theorem dX1_firstPartner_16 : jm_d cX1_firstPartner 16 (.iload_n 3) 1 17 := ⟨by decide +kernel, rfl⟩
theorem dX1_firstPartner_17 : jm_b cX1_firstPartner 17 (.if_icmp .ge) 20 71 := ⟨54, by decide +kernel, rfl, by decide⟩
theorem dX1_firstPartner_20 : jm_d cX1_firstPartner 20 (.iload 4) 2 22 := ⟨by decide +kernel, rfl⟩
theorem dX1_firstPartner_22 : jm_d cX1_firstPartner 22 (.aload_n 0) 1 23 := ⟨by decide +kernel, rfl⟩
theorem dX1_firstPartner_23 : jm_d cX1_firstPartner 23 (.getfield 9) 3 26 := ⟨by decide +kernel, rfl⟩
theorem dX1_firstPartner_26 : jm_d cX1_firstPartner 26 (.iload_n 1) 1 27 := ⟨by decide +kernel, rfl⟩
theorem dX1_firstPartner_27 : jm_d cX1_firstPartner 27 (.iaload) 1 28 := ⟨by decide +kernel, rfl⟩
theorem dX1_firstPartner_28 : jm_d cX1_firstPartner 28 (.iand) 1 29 := ⟨by decide +kernel, rfl⟩
theorem dX1_firstPartner_29 : jm_d cX1_firstPartner 29 (.iconst 1) 1 30 := ⟨by decide +kernel, rfl⟩
theorem dX1_firstPartner_30 : jm_d cX1_firstPartner 30 (.iload 5) 2 32 := ⟨by decide +kernel, rfl⟩
theorem dX1_firstPartner_32 : jm_d cX1_firstPartner 32 (.ishl) 1 33 := ⟨by decide +kernel, rfl⟩
theorem dX1_firstPartner_33 : jm_d cX1_firstPartner 33 (.iand) 1 34 := ⟨by decide +kernel, rfl⟩
theorem dX1_firstPartner_34 : jm_b cX1_firstPartner 34 (.ifCond .eq) 37 65 := ⟨31, by decide +kernel, rfl, by decide⟩
theorem dX1_firstPartner_65 : jm_d cX1_firstPartner 65 (.iinc 5 1) 3 68 := ⟨by decide +kernel, rfl⟩
theorem dX1_firstPartner_68 : jm_b cX1_firstPartner 68 .goto 71 14 := ⟨(-54), by decide +kernel, rfl, by decide⟩
theorem dX1_firstPartner_37 : jm_d cX1_firstPartner 37 (.iconst 1) 1 38 := ⟨by decide +kernel, rfl⟩
theorem dX1_firstPartner_38 : jm_d cX1_firstPartner 38 (.aload_n 0) 1 39 := ⟨by decide +kernel, rfl⟩
theorem dX1_firstPartner_39 : jm_d cX1_firstPartner 39 (.getfield 15) 3 42 := ⟨by decide +kernel, rfl⟩
theorem dX1_firstPartner_42 : jm_d cX1_firstPartner 42 (.iload 4) 2 44 := ⟨by decide +kernel, rfl⟩
theorem dX1_firstPartner_44 : jm_d cX1_firstPartner 44 (.iconst 1) 1 45 := ⟨by decide +kernel, rfl⟩
theorem dX1_firstPartner_45 : jm_d cX1_firstPartner 45 (.iload 5) 2 47 := ⟨by decide +kernel, rfl⟩
theorem dX1_firstPartner_47 : jm_d cX1_firstPartner 47 (.ishl) 1 48 := ⟨by decide +kernel, rfl⟩
theorem dX1_firstPartner_48 : jm_d cX1_firstPartner 48 (.iconst (-1)) 1 49 := ⟨by decide +kernel, rfl⟩
theorem dX1_firstPartner_49 : jm_d cX1_firstPartner 49 (.ixor) 1 50 := ⟨by decide +kernel, rfl⟩
theorem dX1_firstPartner_50 : jm_d cX1_firstPartner 50 (.iand) 1 51 := ⟨by decide +kernel, rfl⟩
theorem dX1_firstPartner_51 : jm_d cX1_firstPartner 51 (.iaload) 1 52 := ⟨by decide +kernel, rfl⟩
theorem dX1_firstPartner_52 : jm_d cX1_firstPartner 52 (.iadd) 1 53 := ⟨by decide +kernel, rfl⟩
theorem dX1_firstPartner_53 : jm_d cX1_firstPartner 53 (.aload_n 0) 1 54 := ⟨by decide +kernel, rfl⟩
theorem dX1_firstPartner_54 : jm_d cX1_firstPartner 54 (.getfield 15) 3 57 := ⟨by decide +kernel, rfl⟩
theorem dX1_firstPartner_57 : jm_d cX1_firstPartner 57 (.iload_n 2) 1 58 := ⟨by decide +kernel, rfl⟩
theorem dX1_firstPartner_58 : jm_d cX1_firstPartner 58 (.iaload) 1 59 := ⟨by decide +kernel, rfl⟩
theorem dX1_firstPartner_59 : jm_b cX1_firstPartner 59 (.if_icmp .ne) 62 65 := ⟨6, by decide +kernel, rfl, by decide⟩
theorem dX1_firstPartner_62 : jm_d cX1_firstPartner 62 (.iload 5) 2 64 := ⟨by decide +kernel, rfl⟩
theorem dX1_firstPartner_64 : jm_d cX1_firstPartner 64 (.ireturn) 1 65 := ⟨by decide +kernel, rfl⟩
theorem dX1_firstPartner_71 : jm_d cX1_firstPartner 71 (.bipush (-9)) 2 73 := ⟨by decide +kernel, rfl⟩
theorem dX1_firstPartner_73 : jm_d cX1_firstPartner 73 (.ireturn) 1 74 := ⟨by decide +kernel, rfl⟩
set_option maxHeartbeats 4000000 in
set_option maxRecDepth 100000 in
theorem kC_firstPartner (E : jm_Ev) (hE : jm_dj E jm_LC) {M : jm_M} {p1 : Int32} {p2 : Int32} {p3 : Int32}  {r : Int32} (h : sC_firstPartner M p1 p2 p3 = some r) : jm_Ct E jm_LC yX1_firstPartner cX1_firstPartner 6 (some .int) 0 0 [.ref (jm_a E 17 0), .int p1, .int p2, .int p3] M (some (.int r)) M := by
  refine jm_enter (lv := [some (.ref (jm_a E 17 0)), some (.int p1), some (.int p2), some (.int p3), none, none]) hE (by decide) (Nat.le_of_ble_eq_true rfl) rfl ?_
  intro z w F hz
  have G : jm_G w 0 [some (.ref (jm_a E 17 0)), some (.int p1), some (.int p2), some (.int p3), none, none] [] M (sC_firstPartner M p1 p2 p3) (fun e => z (some (.int e)) M) := by
    unfold sC_firstPartner
    refine jm_iload_n (i := 2) F dX1_firstPartner_0 rfl rfl ?_
    refine jm_iconst F dX1_firstPartner_1 kc_1 ?_
    refine jm_iload_n (i := 1) F dX1_firstPartner_2 rfl rfl ?_
    refine jm_ishl F dX1_firstPartner_3 ?_
    refine jm_iconst F dX1_firstPartner_4 kc_m1 ?_
    refine jm_ixor F dX1_firstPartner_5 ?_
    refine jm_iand F dX1_firstPartner_6 ?_
    refine jm_nameI (f := fun x1 => [.int x1]) (fun x1 => ?_) rfl
    refine jm_istore (i := 4) (lv' := [some (.ref (jm_a E 17 0)), some (.int p1), some (.int p2), some (.int p3), some (.int x1), none]) F dX1_firstPartner_7 (by decide) rfl rfl ?_
    refine jm_iload_n (i := 1) F dX1_firstPartner_9 rfl rfl ?_
    refine jm_iconst F dX1_firstPartner_10 kc_1 ?_
    refine jm_iadd F dX1_firstPartner_11 ?_
    refine jm_nameI (f := fun x2 => [.int x2]) (fun x2 => ?_) rfl
    refine jm_istore (i := 5) (lv' := [some (.ref (jm_a E 17 0)), some (.int p1), some (.int p2), some (.int p3), some (.int x1), some (.int x2)]) F dX1_firstPartner_12 (by decide) rfl rfl ?_
    refine jm_bindS (pcJ := 71) (lvJ := fun e10 => [none, none, none, none, none, none]) (stJ := fun _ => []) (MJ := fun e10 => M) ?_ (fun e10 => ?_)
    · refine jm_weak F (lv' := [some (.ref (jm_a E 17 0)), some (.int p1), some (.int p2), some (.int p3), some (.int x1), some (.int x2)]) ⟨rfl, rfl, rfl, rfl, rfl, rfl, trivial⟩ ?_
      refine jm_loopR (lvH := fun s3 => [some (.ref (jm_a E 17 0)), some (.int p1), some (.int p2), some (.int p3), some (.int x1), some (.int s3)]) (MH := fun s3 => M) (fun s3 => ?_) jm_N x2
      unfold sC_firstPartner_L14
      refine jm_iload F dX1_firstPartner_14 rfl ?_
      refine jm_iload_n (i := 3) F dX1_firstPartner_16 rfl rfl ?_
      refine jm_icmp_ge F dX1_firstPartner_17 (fun c4 => ?_) (fun c4 => ?_)
      · exact jm_weakD F (lv' := [none, none, none, none, none, none]) trivial (fun h => h)
      · refine jm_iload F dX1_firstPartner_20 rfl ?_
        refine jm_aload_n (i := 0) F dX1_firstPartner_22 rfl rfl ?_
        refine jm_getR F dX1_firstPartner_23 fl_X1_9 lo_X1 rfl ?_
        refine jm_iload_n (i := 1) F dX1_firstPartner_26 rfl rfl ?_
        refine jm_iald F dX1_firstPartner_27 la_X1_1 (fun v5 => ?_)
        refine jm_iand F dX1_firstPartner_28 ?_
        refine jm_iconst F dX1_firstPartner_29 kc_1 ?_
        refine jm_iload F dX1_firstPartner_30 rfl ?_
        refine jm_ishl F dX1_firstPartner_32 ?_
        refine jm_iand F dX1_firstPartner_33 ?_
        refine jm_if_eq F dX1_firstPartner_34 (fun c6 => ?_) (fun c6 => ?_)
        · refine jm_iinc (i := 5) (lv' := [some (.ref (jm_a E 17 0)), some (.int p1), some (.int p2), some (.int p3), some (.int x1), some (.int (s3 + 1))]) F dX1_firstPartner_65 kc_1 rfl (by decide) rfl rfl ?_
          refine jm_goto F dX1_firstPartner_68 ?_
          exact jm_weakD F (lv' := [some (.ref (jm_a E 17 0)), some (.int p1), some (.int p2), some (.int p3), some (.int x1), some (.int (s3 + 1))]) ⟨rfl, rfl, rfl, rfl, rfl, rfl, trivial⟩ (fun h => h)
        · refine jm_iconst F dX1_firstPartner_37 kc_1 ?_
          refine jm_aload_n (i := 0) F dX1_firstPartner_38 rfl rfl ?_
          refine jm_getR F dX1_firstPartner_39 fl_X1_15 lo_X1 rfl ?_
          refine jm_iload F dX1_firstPartner_42 rfl ?_
          refine jm_iconst F dX1_firstPartner_44 kc_1 ?_
          refine jm_iload F dX1_firstPartner_45 rfl ?_
          refine jm_ishl F dX1_firstPartner_47 ?_
          refine jm_iconst F dX1_firstPartner_48 kc_m1 ?_
          refine jm_ixor F dX1_firstPartner_49 ?_
          refine jm_iand F dX1_firstPartner_50 ?_
          refine jm_iald F dX1_firstPartner_51 la_X1_2 (fun v7 => ?_)
          refine jm_iadd F dX1_firstPartner_52 ?_
          refine jm_aload_n (i := 0) F dX1_firstPartner_53 rfl rfl ?_
          refine jm_getR F dX1_firstPartner_54 fl_X1_15 lo_X1 rfl ?_
          refine jm_iload_n (i := 2) F dX1_firstPartner_57 rfl rfl ?_
          refine jm_iald F dX1_firstPartner_58 la_X1_2 (fun v8 => ?_)
          refine jm_icmp_ne F dX1_firstPartner_59 (fun c9 => ?_) (fun c9 => ?_)
          · refine jm_iload F dX1_firstPartner_62 rfl ?_
            exact jm_iret F dX1_firstPartner_64 (fun h => h)
          · refine jm_iinc (i := 5) (lv' := [some (.ref (jm_a E 17 0)), some (.int p1), some (.int p2), some (.int p3), some (.int x1), some (.int (s3 + 1))]) F dX1_firstPartner_65 kc_1 rfl (by decide) rfl rfl ?_
            refine jm_goto F dX1_firstPartner_68 ?_
            exact jm_weakD F (lv' := [some (.ref (jm_a E 17 0)), some (.int p1), some (.int p2), some (.int p3), some (.int x1), some (.int (s3 + 1))]) ⟨rfl, rfl, rfl, rfl, rfl, rfl, trivial⟩ (fun h => h)
    · refine jm_bipush F dX1_firstPartner_71 kb_m9 ?_
      exact jm_iret F dX1_firstPartner_73 (fun h => h)
  exact G r h hz
theorem dX1_pair_0 : jm_d cX1_pair 0 (.iload_n 1) 1 1 := ⟨by decide +kernel, rfl⟩
theorem dX1_pair_1 : jm_d cX1_pair 1 (.istore_n 3) 1 2 := ⟨by decide +kernel, rfl⟩
theorem dX1_pair_2 : jm_d cX1_pair 2 (.iconst 0) 1 3 := ⟨by decide +kernel, rfl⟩
theorem dX1_pair_3 : jm_d cX1_pair 3 (.istore 4) 2 5 := ⟨by decide +kernel, rfl⟩
theorem dX1_pair_5 : jm_d cX1_pair 5 (.iload 4) 2 7 := ⟨by decide +kernel, rfl⟩
theorem dX1_pair_7 : jm_d cX1_pair 7 (.iload_n 2) 1 8 := ⟨by decide +kernel, rfl⟩
theorem dX1_pair_8 : jm_b cX1_pair 8 (.if_icmp .ge) 11 26 := ⟨18, by decide +kernel, rfl, by decide⟩
theorem dX1_pair_11 : jm_d cX1_pair 11 (.aload_n 0) 1 12 := ⟨by decide +kernel, rfl⟩
theorem dX1_pair_12 : jm_d cX1_pair 12 (.getfield 18) 3 15 := ⟨by decide +kernel, rfl⟩
theorem dX1_pair_15 : jm_d cX1_pair 15 (.iload 4) 2 17 := ⟨by decide +kernel, rfl⟩
theorem dX1_pair_17 : jm_d cX1_pair 17 (.bipush (-9)) 2 19 := ⟨by decide +kernel, rfl⟩
theorem dX1_pair_19 : jm_d cX1_pair 19 (.iastore) 1 20 := ⟨by decide +kernel, rfl⟩
theorem dX1_pair_20 : jm_d cX1_pair 20 (.iinc 4 1) 3 23 := ⟨by decide +kernel, rfl⟩
theorem dX1_pair_23 : jm_b cX1_pair 23 .goto 26 5 := ⟨(-18), by decide +kernel, rfl, by decide⟩
theorem dX1_pair_26 : jm_d cX1_pair 26 (.iconst 0) 1 27 := ⟨by decide +kernel, rfl⟩
theorem dX1_pair_27 : jm_d cX1_pair 27 (.istore 4) 2 29 := ⟨by decide +kernel, rfl⟩
theorem dX1_pair_29 : jm_d cX1_pair 29 (.iload 4) 2 31 := ⟨by decide +kernel, rfl⟩
theorem dX1_pair_31 : jm_d cX1_pair 31 (.iload_n 2) 1 32 := ⟨by decide +kernel, rfl⟩
theorem dX1_pair_32 : jm_b cX1_pair 32 (.if_icmp .ge) 35 103 := ⟨71, by decide +kernel, rfl, by decide⟩
theorem dX1_pair_35 : jm_d cX1_pair 35 (.iload_n 3) 1 36 := ⟨by decide +kernel, rfl⟩
theorem dX1_pair_36 : jm_d cX1_pair 36 (.iconst 1) 1 37 := ⟨by decide +kernel, rfl⟩
theorem dX1_pair_37 : jm_d cX1_pair 37 (.iload 4) 2 39 := ⟨by decide +kernel, rfl⟩
theorem dX1_pair_39 : jm_d cX1_pair 39 (.ishl) 1 40 := ⟨by decide +kernel, rfl⟩
theorem dX1_pair_40 : jm_d cX1_pair 40 (.iand) 1 41 := ⟨by decide +kernel, rfl⟩
theorem dX1_pair_41 : jm_b cX1_pair 41 (.ifCond .eq) 44 97 := ⟨56, by decide +kernel, rfl, by decide⟩
theorem dX1_pair_97 : jm_d cX1_pair 97 (.iinc 4 1) 3 100 := ⟨by decide +kernel, rfl⟩
theorem dX1_pair_100 : jm_b cX1_pair 100 .goto 103 29 := ⟨(-71), by decide +kernel, rfl, by decide⟩
theorem dX1_pair_44 : jm_d cX1_pair 44 (.aload_n 0) 1 45 := ⟨by decide +kernel, rfl⟩
theorem dX1_pair_45 : jm_d cX1_pair 45 (.iload 4) 2 47 := ⟨by decide +kernel, rfl⟩
theorem dX1_pair_47 : jm_d cX1_pair 47 (.iload_n 3) 1 48 := ⟨by decide +kernel, rfl⟩
theorem dX1_pair_48 : jm_d cX1_pair 48 (.iload_n 2) 1 49 := ⟨by decide +kernel, rfl⟩
theorem dX1_pair_49 : jm_d cX1_pair 49 (.invokevirtual 54) 3 52 := ⟨by decide +kernel, rfl⟩
theorem dX1_pair_52 : jm_d cX1_pair 52 (.istore 5) 2 54 := ⟨by decide +kernel, rfl⟩
theorem dX1_pair_54 : jm_d cX1_pair 54 (.iload_n 3) 1 55 := ⟨by decide +kernel, rfl⟩
theorem dX1_pair_55 : jm_d cX1_pair 55 (.iconst 1) 1 56 := ⟨by decide +kernel, rfl⟩
theorem dX1_pair_56 : jm_d cX1_pair 56 (.iload 4) 2 58 := ⟨by decide +kernel, rfl⟩
theorem dX1_pair_58 : jm_d cX1_pair 58 (.ishl) 1 59 := ⟨by decide +kernel, rfl⟩
theorem dX1_pair_59 : jm_d cX1_pair 59 (.iconst (-1)) 1 60 := ⟨by decide +kernel, rfl⟩
theorem dX1_pair_60 : jm_d cX1_pair 60 (.ixor) 1 61 := ⟨by decide +kernel, rfl⟩
theorem dX1_pair_61 : jm_d cX1_pair 61 (.iand) 1 62 := ⟨by decide +kernel, rfl⟩
theorem dX1_pair_62 : jm_d cX1_pair 62 (.istore_n 3) 1 63 := ⟨by decide +kernel, rfl⟩
theorem dX1_pair_63 : jm_d cX1_pair 63 (.iload 5) 2 65 := ⟨by decide +kernel, rfl⟩
theorem dX1_pair_65 : jm_d cX1_pair 65 (.bipush (-9)) 2 67 := ⟨by decide +kernel, rfl⟩
theorem dX1_pair_67 : jm_b cX1_pair 67 (.if_icmp .eq) 70 97 := ⟨30, by decide +kernel, rfl, by decide⟩
theorem dX1_pair_70 : jm_d cX1_pair 70 (.aload_n 0) 1 71 := ⟨by decide +kernel, rfl⟩
theorem dX1_pair_71 : jm_d cX1_pair 71 (.getfield 18) 3 74 := ⟨by decide +kernel, rfl⟩
theorem dX1_pair_74 : jm_d cX1_pair 74 (.iload 4) 2 76 := ⟨by decide +kernel, rfl⟩
theorem dX1_pair_76 : jm_d cX1_pair 76 (.iload 5) 2 78 := ⟨by decide +kernel, rfl⟩
theorem dX1_pair_78 : jm_d cX1_pair 78 (.iastore) 1 79 := ⟨by decide +kernel, rfl⟩
theorem dX1_pair_79 : jm_d cX1_pair 79 (.aload_n 0) 1 80 := ⟨by decide +kernel, rfl⟩
theorem dX1_pair_80 : jm_d cX1_pair 80 (.getfield 18) 3 83 := ⟨by decide +kernel, rfl⟩
theorem dX1_pair_83 : jm_d cX1_pair 83 (.iload 5) 2 85 := ⟨by decide +kernel, rfl⟩
theorem dX1_pair_85 : jm_d cX1_pair 85 (.iload 4) 2 87 := ⟨by decide +kernel, rfl⟩
theorem dX1_pair_87 : jm_d cX1_pair 87 (.iastore) 1 88 := ⟨by decide +kernel, rfl⟩
theorem dX1_pair_88 : jm_d cX1_pair 88 (.iload_n 3) 1 89 := ⟨by decide +kernel, rfl⟩
theorem dX1_pair_89 : jm_d cX1_pair 89 (.iconst 1) 1 90 := ⟨by decide +kernel, rfl⟩
theorem dX1_pair_90 : jm_d cX1_pair 90 (.iload 5) 2 92 := ⟨by decide +kernel, rfl⟩
theorem dX1_pair_92 : jm_d cX1_pair 92 (.ishl) 1 93 := ⟨by decide +kernel, rfl⟩
theorem dX1_pair_93 : jm_d cX1_pair 93 (.iconst (-1)) 1 94 := ⟨by decide +kernel, rfl⟩
theorem dX1_pair_94 : jm_d cX1_pair 94 (.ixor) 1 95 := ⟨by decide +kernel, rfl⟩
theorem dX1_pair_95 : jm_d cX1_pair 95 (.iand) 1 96 := ⟨by decide +kernel, rfl⟩
theorem dX1_pair_96 : jm_d cX1_pair 96 (.istore_n 3) 1 97 := ⟨by decide +kernel, rfl⟩
theorem dX1_pair_103 : jm_d cX1_pair 103 (.return_) 1 104 := ⟨by decide +kernel, rfl⟩
set_option maxHeartbeats 4000000 in
set_option maxRecDepth 100000 in
theorem kC_pair (E : jm_Ev) (hE : jm_dj E jm_LC) {M : jm_M} {p1 : Int32} {p2 : Int32}  {r : jm_M} (h : sC_pair M p1 p2 = some r) : jm_Ct E jm_LC yX1_pair cX1_pair 6 none 1 25 [.ref (jm_a E 17 0), .int p1, .int p2] M none r := by
  refine jm_enter (lv := [some (.ref (jm_a E 17 0)), some (.int p1), some (.int p2), none, none, none]) hE (by decide) (Nat.le_of_ble_eq_true rfl) rfl ?_
  intro z w F hz
  have G : jm_G w 0 [some (.ref (jm_a E 17 0)), some (.int p1), some (.int p2), none, none, none] [] M (sC_pair M p1 p2) (fun e => z none e) := by
    unfold sC_pair
    refine jm_iload_n (i := 1) F dX1_pair_0 rfl rfl ?_
    refine jm_istore_n (i := 3) (lv' := [some (.ref (jm_a E 17 0)), some (.int p1), some (.int p2), some (.int p1), none, none]) F dX1_pair_1 rfl (by decide) rfl rfl ?_
    refine jm_iconst F dX1_pair_2 kc_0 ?_
    refine jm_istore (i := 4) (lv' := [some (.ref (jm_a E 17 0)), some (.int p1), some (.int p2), some (.int p1), some (.int 0), none]) F dX1_pair_3 (by decide) rfl rfl ?_
    refine jm_bind (pcJ := 26) (lvJ := fun e4 => [some (.ref (jm_a E 17 0)), none, some (.int p2), some (.int p1), none, none]) (stJ := fun _ => []) (MJ := fun e4 => e4) ?_ (fun e4 => ?_)
    · refine jm_weak F (lv' := [some (.ref (jm_a E 17 0)), none, some (.int p2), some (.int p1), some (.int 0), none]) ⟨rfl, rfl, rfl, rfl, trivial⟩ ?_
      refine jm_loopR (lvH := fun s1 => [some (.ref (jm_a E 17 0)), none, some (.int p2), some (.int p1), some (.int s1.1), none]) (MH := fun s1 => s1.2) (fun s1 => ?_) jm_N (0, M)
      unfold sC_pair_L5
      refine jm_iload F dX1_pair_5 rfl ?_
      refine jm_iload_n (i := 2) F dX1_pair_7 rfl rfl ?_
      refine jm_icmp_ge F dX1_pair_8 (fun c2 => ?_) (fun c2 => ?_)
      · exact jm_weakD F (lv' := [some (.ref (jm_a E 17 0)), none, some (.int p2), some (.int p1), none, none]) ⟨rfl, rfl, rfl, trivial⟩ (fun h => h)
      · refine jm_aload_n (i := 0) F dX1_pair_11 rfl rfl ?_
        refine jm_getR F dX1_pair_12 fl_X1_18 lo_X1 rfl ?_
        refine jm_iload F dX1_pair_15 rfl ?_
        refine jm_bipush F dX1_pair_17 kb_m9 ?_
        refine jm_iast F dX1_pair_19 la_X1_3 (fun M3 => ?_)
        refine jm_iinc (i := 4) (lv' := [some (.ref (jm_a E 17 0)), none, some (.int p2), some (.int p1), some (.int (s1.1 + 1)), none]) F dX1_pair_20 kc_1 rfl (by decide) rfl rfl ?_
        refine jm_goto F dX1_pair_23 ?_
        exact jm_weakD F (lv' := [some (.ref (jm_a E 17 0)), none, some (.int p2), some (.int p1), some (.int (s1.1 + 1)), none]) ⟨rfl, rfl, rfl, rfl, trivial⟩ (fun h => h)
    · refine jm_iconst F dX1_pair_26 kc_0 ?_
      refine jm_istore (i := 4) (lv' := [some (.ref (jm_a E 17 0)), none, some (.int p2), some (.int p1), some (.int 0), none]) F dX1_pair_27 (by decide) rfl rfl ?_
      refine jm_bind (pcJ := 103) (lvJ := fun e14 => [none, none, none, none, none, none]) (stJ := fun _ => []) (MJ := fun e14 => e14) ?_ (fun e14 => ?_)
      · refine jm_weak F (lv' := [some (.ref (jm_a E 17 0)), none, some (.int p2), some (.int p1), some (.int 0), none]) ⟨rfl, rfl, rfl, rfl, trivial⟩ ?_
        refine jm_loopR (lvH := fun s5 => [some (.ref (jm_a E 17 0)), none, some (.int p2), some (.int s5.1), some (.int s5.2.1), none]) (MH := fun s5 => s5.2.2) (fun s5 => ?_) jm_N (p1, 0, e4)
        unfold sC_pair_L29
        refine jm_iload F dX1_pair_29 rfl ?_
        refine jm_iload_n (i := 2) F dX1_pair_31 rfl rfl ?_
        refine jm_icmp_ge F dX1_pair_32 (fun c6 => ?_) (fun c6 => ?_)
        · exact jm_weakD F (lv' := [none, none, none, none, none, none]) trivial (fun h => h)
        · refine jm_iload_n (i := 3) F dX1_pair_35 rfl rfl ?_
          refine jm_iconst F dX1_pair_36 kc_1 ?_
          refine jm_iload F dX1_pair_37 rfl ?_
          refine jm_ishl F dX1_pair_39 ?_
          refine jm_iand F dX1_pair_40 ?_
          refine jm_if_eq F dX1_pair_41 (fun c7 => ?_) (fun c7 => ?_)
          · refine jm_iinc (i := 4) (lv' := [some (.ref (jm_a E 17 0)), none, some (.int p2), some (.int s5.1), some (.int (s5.2.1 + 1)), none]) F dX1_pair_97 kc_1 rfl (by decide) rfl rfl ?_
            refine jm_goto F dX1_pair_100 ?_
            exact jm_weakD F (lv' := [some (.ref (jm_a E 17 0)), none, some (.int p2), some (.int s5.1), some (.int (s5.2.1 + 1)), none]) ⟨rfl, rfl, rfl, rfl, trivial⟩ (fun h => h)
          · refine jm_aload_n (i := 0) F dX1_pair_44 rfl rfl ?_
            refine jm_iload F dX1_pair_45 rfl ?_
            refine jm_iload_n (i := 3) F dX1_pair_47 rfl rfl ?_
            refine jm_iload_n (i := 2) F dX1_pair_48 rfl rfl ?_
            refine jm_callV (As := [.int s5.2.1, .int s5.1, .int p2]) (st := []) (rv := fun r => some (.int r)) (mm := fun _ => s5.2.2) F dX1_pair_49 qX1_54 rfl lo_X1 rfl (fun r h => kC_firstPartner E hE h) rfl (Nat.le_of_ble_eq_true rfl) ⟨Nat.le_of_ble_eq_true rfl, Nat.le_of_ble_eq_true rfl⟩ (fun r8 => ?_)
            refine jm_istore (i := 5) (lv' := [some (.ref (jm_a E 17 0)), none, some (.int p2), some (.int s5.1), some (.int s5.2.1), some (.int r8)]) F dX1_pair_52 (by decide) rfl rfl ?_
            refine jm_iload_n (i := 3) F dX1_pair_54 rfl rfl ?_
            refine jm_iconst F dX1_pair_55 kc_1 ?_
            refine jm_iload F dX1_pair_56 rfl ?_
            refine jm_ishl F dX1_pair_58 ?_
            refine jm_iconst F dX1_pair_59 kc_m1 ?_
            refine jm_ixor F dX1_pair_60 ?_
            refine jm_iand F dX1_pair_61 ?_
            refine jm_nameI (f := fun x9 => [.int x9]) (fun x9 => ?_) rfl
            refine jm_istore_n (i := 3) (lv' := [some (.ref (jm_a E 17 0)), none, some (.int p2), some (.int x9), some (.int s5.2.1), some (.int r8)]) F dX1_pair_62 rfl (by decide) rfl rfl ?_
            refine jm_iload F dX1_pair_63 rfl ?_
            refine jm_bipush F dX1_pair_65 kb_m9 ?_
            refine jm_icmp_eq F dX1_pair_67 (fun c10 => ?_) (fun c10 => ?_)
            · refine jm_iinc (i := 4) (lv' := [some (.ref (jm_a E 17 0)), none, some (.int p2), some (.int x9), some (.int (s5.2.1 + 1)), some (.int r8)]) F dX1_pair_97 kc_1 rfl (by decide) rfl rfl ?_
              refine jm_goto F dX1_pair_100 ?_
              exact jm_weakD F (lv' := [some (.ref (jm_a E 17 0)), none, some (.int p2), some (.int x9), some (.int (s5.2.1 + 1)), none]) ⟨rfl, rfl, rfl, rfl, trivial⟩ (fun h => h)
            · refine jm_aload_n (i := 0) F dX1_pair_70 rfl rfl ?_
              refine jm_getR F dX1_pair_71 fl_X1_18 lo_X1 rfl ?_
              refine jm_iload F dX1_pair_74 rfl ?_
              refine jm_iload F dX1_pair_76 rfl ?_
              refine jm_iast F dX1_pair_78 la_X1_3 (fun M11 => ?_)
              refine jm_aload_n (i := 0) F dX1_pair_79 rfl rfl ?_
              refine jm_getR F dX1_pair_80 fl_X1_18 lo_X1 rfl ?_
              refine jm_iload F dX1_pair_83 rfl ?_
              refine jm_iload F dX1_pair_85 rfl ?_
              refine jm_iast F dX1_pair_87 la_X1_3 (fun M12 => ?_)
              refine jm_iload_n (i := 3) F dX1_pair_88 rfl rfl ?_
              refine jm_iconst F dX1_pair_89 kc_1 ?_
              refine jm_iload F dX1_pair_90 rfl ?_
              refine jm_ishl F dX1_pair_92 ?_
              refine jm_iconst F dX1_pair_93 kc_m1 ?_
              refine jm_ixor F dX1_pair_94 ?_
              refine jm_iand F dX1_pair_95 ?_
              refine jm_nameI (f := fun x13 => [.int x13]) (fun x13 => ?_) rfl
              refine jm_istore_n (i := 3) (lv' := [some (.ref (jm_a E 17 0)), none, some (.int p2), some (.int x13), some (.int s5.2.1), some (.int r8)]) F dX1_pair_96 rfl (by decide) rfl rfl ?_
              refine jm_iinc (i := 4) (lv' := [some (.ref (jm_a E 17 0)), none, some (.int p2), some (.int x13), some (.int (s5.2.1 + 1)), some (.int r8)]) F dX1_pair_97 kc_1 rfl (by decide) rfl rfl ?_
              refine jm_goto F dX1_pair_100 ?_
              exact jm_weakD F (lv' := [some (.ref (jm_a E 17 0)), none, some (.int p2), some (.int x13), some (.int (s5.2.1 + 1)), none]) ⟨rfl, rfl, rfl, rfl, trivial⟩ (fun h => h)
      · exact jm_vret F dX1_pair_103 (fun h => h)
  exact G r h hz
theorem dX1_choose_0 : jm_d cX1_choose 0 (.aload_n 0) 1 1 := ⟨by decide +kernel, rfl⟩
theorem dX1_choose_1 : jm_d cX1_choose 1 (.aload_n 1) 1 2 := ⟨by decide +kernel, rfl⟩
theorem dX1_choose_2 : jm_d cX1_choose 2 (.invokevirtual 21) 3 5 := ⟨by decide +kernel, rfl⟩
theorem dX1_choose_5 : jm_d cX1_choose 5 (.iconst 1) 1 6 := ⟨by decide +kernel, rfl⟩
theorem dX1_choose_6 : jm_d cX1_choose 6 (.aload_n 1) 1 7 := ⟨by decide +kernel, rfl⟩
theorem dX1_choose_7 : jm_d cX1_choose 7 (.getfield 25) 3 10 := ⟨by decide +kernel, rfl⟩
theorem dX1_choose_10 : jm_d cX1_choose 10 (.ishl) 1 11 := ⟨by decide +kernel, rfl⟩
theorem dX1_choose_11 : jm_d cX1_choose 11 (.iconst 1) 1 12 := ⟨by decide +kernel, rfl⟩
theorem dX1_choose_12 : jm_d cX1_choose 12 (.isub) 1 13 := ⟨by decide +kernel, rfl⟩
theorem dX1_choose_13 : jm_d cX1_choose 13 (.istore_n 2) 1 14 := ⟨by decide +kernel, rfl⟩
theorem dX1_choose_14 : jm_d cX1_choose 14 (.iconst 1) 1 15 := ⟨by decide +kernel, rfl⟩
theorem dX1_choose_15 : jm_d cX1_choose 15 (.istore_n 3) 1 16 := ⟨by decide +kernel, rfl⟩
theorem dX1_choose_16 : jm_d cX1_choose 16 (.iload_n 3) 1 17 := ⟨by decide +kernel, rfl⟩
theorem dX1_choose_17 : jm_d cX1_choose 17 (.iload_n 2) 1 18 := ⟨by decide +kernel, rfl⟩
theorem dX1_choose_18 : jm_b cX1_choose 18 (.if_icmp .gt) 21 42 := ⟨24, by decide +kernel, rfl, by decide⟩
theorem dX1_choose_21 : jm_d cX1_choose 21 (.aload_n 0) 1 22 := ⟨by decide +kernel, rfl⟩
theorem dX1_choose_22 : jm_d cX1_choose 22 (.getfield 15) 3 25 := ⟨by decide +kernel, rfl⟩
theorem dX1_choose_25 : jm_d cX1_choose 25 (.iload_n 3) 1 26 := ⟨by decide +kernel, rfl⟩
theorem dX1_choose_26 : jm_d cX1_choose 26 (.aload_n 0) 1 27 := ⟨by decide +kernel, rfl⟩
theorem dX1_choose_27 : jm_d cX1_choose 27 (.iload_n 3) 1 28 := ⟨by decide +kernel, rfl⟩
theorem dX1_choose_28 : jm_d cX1_choose 28 (.aload_n 1) 1 29 := ⟨by decide +kernel, rfl⟩
theorem dX1_choose_29 : jm_d cX1_choose 29 (.getfield 25) 3 32 := ⟨by decide +kernel, rfl⟩
theorem dX1_choose_32 : jm_d cX1_choose 32 (.invokevirtual 31) 3 35 := ⟨by decide +kernel, rfl⟩
theorem dX1_choose_35 : jm_d cX1_choose 35 (.iastore) 1 36 := ⟨by decide +kernel, rfl⟩
theorem dX1_choose_36 : jm_d cX1_choose 36 (.iinc 3 1) 3 39 := ⟨by decide +kernel, rfl⟩
theorem dX1_choose_39 : jm_b cX1_choose 39 .goto 42 16 := ⟨(-23), by decide +kernel, rfl, by decide⟩
theorem dX1_choose_42 : jm_d cX1_choose 42 (.aload_n 0) 1 43 := ⟨by decide +kernel, rfl⟩
theorem dX1_choose_43 : jm_d cX1_choose 43 (.aload_n 0) 1 44 := ⟨by decide +kernel, rfl⟩
theorem dX1_choose_44 : jm_d cX1_choose 44 (.getfield 15) 3 47 := ⟨by decide +kernel, rfl⟩
theorem dX1_choose_47 : jm_d cX1_choose 47 (.iload_n 2) 1 48 := ⟨by decide +kernel, rfl⟩
theorem dX1_choose_48 : jm_d cX1_choose 48 (.iaload) 1 49 := ⟨by decide +kernel, rfl⟩
theorem dX1_choose_49 : jm_d cX1_choose 49 (.putfield 35) 3 52 := ⟨by decide +kernel, rfl⟩
theorem dX1_choose_52 : jm_d cX1_choose 52 (.aload_n 0) 1 53 := ⟨by decide +kernel, rfl⟩
theorem dX1_choose_53 : jm_d cX1_choose 53 (.iload_n 2) 1 54 := ⟨by decide +kernel, rfl⟩
theorem dX1_choose_54 : jm_d cX1_choose 54 (.aload_n 1) 1 55 := ⟨by decide +kernel, rfl⟩
theorem dX1_choose_55 : jm_d cX1_choose 55 (.getfield 25) 3 58 := ⟨by decide +kernel, rfl⟩
theorem dX1_choose_58 : jm_d cX1_choose 58 (.invokevirtual 38) 3 61 := ⟨by decide +kernel, rfl⟩
theorem dX1_choose_61 : jm_d cX1_choose 61 (.return_) 1 62 := ⟨by decide +kernel, rfl⟩
set_option maxHeartbeats 4000000 in
set_option maxRecDepth 100000 in
theorem kC_choose (E : jm_Ev) (hE : jm_dj E jm_LC) {M : jm_M} {p1 : Nat} (hp1 : jm_isT p1) {r : jm_M} (h : sC_choose M p1 = some r) : jm_Ct E jm_LC yX1_choose cX1_choose 4 none 6 162 [.ref (jm_a E 17 0), .ref (jm_a E p1 0)] M none r := by
  refine jm_enter (lv := [some (.ref (jm_a E 17 0)), some (.ref (jm_a E p1 0)), none, none]) hE (by decide) (Nat.le_of_ble_eq_true rfl) rfl ?_
  intro z w F hz
  have G : jm_G w 0 [some (.ref (jm_a E 17 0)), some (.ref (jm_a E p1 0)), none, none] [] M (sC_choose M p1) (fun e => z none e) := by
    unfold sC_choose
    refine jm_aload_n (i := 0) F dX1_choose_0 rfl rfl ?_
    refine jm_aload_n (i := 1) F dX1_choose_1 rfl rfl ?_
    refine jm_callV (As := [.ref (jm_a E p1 0)]) (st := []) (rv := fun _ => none) (mm := fun r => r) F dX1_choose_2 qX1_21 rfl lo_X1 rfl (fun r h => kC_weighAll E hE hp1 h) rfl (Nat.le_of_ble_eq_true rfl) ⟨Nat.le_of_ble_eq_true rfl, Nat.le_of_ble_eq_true rfl⟩ (fun r1 => ?_)
    refine jm_iconst F dX1_choose_5 kc_1 ?_
    refine jm_aload_n (i := 1) F dX1_choose_6 rfl rfl ?_
    refine jm_getI F dX1_choose_7 fl_X1_25 (lo_T hp1) rfl ?_
    refine jm_ishl F dX1_choose_10 ?_
    refine jm_iconst F dX1_choose_11 kc_1 ?_
    refine jm_isub F dX1_choose_12 ?_
    refine jm_nameI (f := fun x2 => [.int x2]) (fun x2 => ?_) rfl
    refine jm_istore_n (i := 2) (lv' := [some (.ref (jm_a E 17 0)), some (.ref (jm_a E p1 0)), some (.int x2), none]) F dX1_choose_13 rfl (by decide) rfl rfl ?_
    refine jm_iconst F dX1_choose_14 kc_1 ?_
    refine jm_istore_n (i := 3) (lv' := [some (.ref (jm_a E 17 0)), some (.ref (jm_a E p1 0)), some (.int x2), some (.int 1)]) F dX1_choose_15 rfl (by decide) rfl rfl ?_
    refine jm_bind (pcJ := 42) (lvJ := fun e7 => [some (.ref (jm_a E 17 0)), some (.ref (jm_a E p1 0)), some (.int x2), none]) (stJ := fun _ => []) (MJ := fun e7 => e7) ?_ (fun e7 => ?_)
    · refine jm_weak F (lv' := [some (.ref (jm_a E 17 0)), some (.ref (jm_a E p1 0)), some (.int x2), some (.int 1)]) ⟨rfl, rfl, rfl, rfl, trivial⟩ ?_
      refine jm_loopR (lvH := fun s3 => [some (.ref (jm_a E 17 0)), some (.ref (jm_a E p1 0)), some (.int x2), some (.int s3.1)]) (MH := fun s3 => s3.2) (fun s3 => ?_) jm_N (1, r1)
      unfold sC_choose_L16
      refine jm_iload_n (i := 3) F dX1_choose_16 rfl rfl ?_
      refine jm_iload_n (i := 2) F dX1_choose_17 rfl rfl ?_
      refine jm_icmp_gt F dX1_choose_18 (fun c4 => ?_) (fun c4 => ?_)
      · exact jm_weakD F (lv' := [some (.ref (jm_a E 17 0)), some (.ref (jm_a E p1 0)), some (.int x2), none]) ⟨rfl, rfl, rfl, trivial⟩ (fun h => h)
      · refine jm_aload_n (i := 0) F dX1_choose_21 rfl rfl ?_
        refine jm_getR F dX1_choose_22 fl_X1_15 lo_X1 rfl ?_
        refine jm_iload_n (i := 3) F dX1_choose_25 rfl rfl ?_
        refine jm_aload_n (i := 0) F dX1_choose_26 rfl rfl ?_
        refine jm_iload_n (i := 3) F dX1_choose_27 rfl rfl ?_
        refine jm_aload_n (i := 1) F dX1_choose_28 rfl rfl ?_
        refine jm_getI F dX1_choose_29 fl_X1_25 (lo_T hp1) rfl ?_
        refine jm_callV (As := [.int s3.1, .int (s3.2 p1 0 0)]) (st := [.int s3.1, .ref (jm_a E 17 2)]) (rv := fun r => some (.int r)) (mm := fun _ => s3.2) F dX1_choose_32 qX1_31 rfl lo_X1 rfl (fun r h => kC_mostAmong E hE h) rfl (Nat.le_of_ble_eq_true rfl) ⟨Nat.le_of_ble_eq_true rfl, Nat.le_of_ble_eq_true rfl⟩ (fun r5 => ?_)
        refine jm_iast F dX1_choose_35 la_X1_2 (fun M6 => ?_)
        refine jm_iinc (i := 3) (lv' := [some (.ref (jm_a E 17 0)), some (.ref (jm_a E p1 0)), some (.int x2), some (.int (s3.1 + 1))]) F dX1_choose_36 kc_1 rfl (by decide) rfl rfl ?_
        refine jm_goto F dX1_choose_39 ?_
        exact jm_weakD F (lv' := [some (.ref (jm_a E 17 0)), some (.ref (jm_a E p1 0)), some (.int x2), some (.int (s3.1 + 1))]) ⟨rfl, rfl, rfl, rfl, trivial⟩ (fun h => h)
    · refine jm_aload_n (i := 0) F dX1_choose_42 rfl rfl ?_
      refine jm_aload_n (i := 0) F dX1_choose_43 rfl rfl ?_
      refine jm_getR F dX1_choose_44 fl_X1_15 lo_X1 rfl ?_
      refine jm_iload_n (i := 2) F dX1_choose_47 rfl rfl ?_
      refine jm_iald F dX1_choose_48 la_X1_2 (fun v8 => ?_)
      refine jm_putI F dX1_choose_49 fp_X1_35 lo_X1 rfl (fun M9 => ?_)
      refine jm_aload_n (i := 0) F dX1_choose_52 rfl rfl ?_
      refine jm_iload_n (i := 2) F dX1_choose_53 rfl rfl ?_
      refine jm_aload_n (i := 1) F dX1_choose_54 rfl rfl ?_
      refine jm_getI F dX1_choose_55 fl_X1_25 (lo_T hp1) rfl ?_
      refine jm_callV (As := [.int x2, .int (M9 p1 0 0)]) (st := []) (rv := fun _ => none) (mm := fun r => r) F dX1_choose_58 qX1_38 rfl lo_X1 rfl (fun r h => kC_pair E hE h) rfl (Nat.le_of_ble_eq_true rfl) ⟨Nat.le_of_ble_eq_true rfl, Nat.le_of_ble_eq_true rfl⟩ (fun r10 => ?_)
      exact jm_vret F dX1_choose_61 (fun h => h)
  exact G r h hz
theorem dX8_couples_0 : jm_d cX8_couples 0 (.iload_n 1) 1 1 := ⟨by decide +kernel, rfl⟩
theorem dX8_couples_1 : jm_d cX8_couples 1 (.iconst (-1)) 1 2 := ⟨by decide +kernel, rfl⟩
theorem dX8_couples_2 : jm_b cX8_couples 2 (.if_icmp .eq) 5 22 := ⟨20, by decide +kernel, rfl, by decide⟩
theorem dX8_couples_22 : jm_d cX8_couples 22 (.aload_n 0) 1 23 := ⟨by decide +kernel, rfl⟩
theorem dX8_couples_23 : jm_d cX8_couples 23 (.getfield 50) 3 26 := ⟨by decide +kernel, rfl⟩
theorem dX8_couples_26 : jm_d cX8_couples 26 (.aload_n 0) 1 27 := ⟨by decide +kernel, rfl⟩
theorem dX8_couples_27 : jm_d cX8_couples 27 (.getfield 10) 3 30 := ⟨by decide +kernel, rfl⟩
theorem dX8_couples_30 : jm_d cX8_couples 30 (.invokevirtual 212) 3 33 := ⟨by decide +kernel, rfl⟩
theorem dX8_couples_33 : jm_d cX8_couples 33 (.iload_n 1) 1 34 := ⟨by decide +kernel, rfl⟩
theorem dX8_couples_34 : jm_d cX8_couples 34 (.iconst (-1)) 1 35 := ⟨by decide +kernel, rfl⟩
theorem dX8_couples_35 : jm_b cX8_couples 35 (.if_icmp .ne) 38 48 := ⟨13, by decide +kernel, rfl, by decide⟩
theorem dX8_couples_38 : jm_d cX8_couples 38 (.aload_n 0) 1 39 := ⟨by decide +kernel, rfl⟩
theorem dX8_couples_39 : jm_d cX8_couples 39 (.getfield 50) 3 42 := ⟨by decide +kernel, rfl⟩
theorem dX8_couples_42 : jm_d cX8_couples 42 (.getfield 215) 3 45 := ⟨by decide +kernel, rfl⟩
theorem dX8_couples_45 : jm_b cX8_couples 45 .goto 48 57 := ⟨12, by decide +kernel, rfl, by decide⟩
theorem dX8_couples_57 : jm_d cX8_couples 57 (.ireturn) 1 58 := ⟨by decide +kernel, rfl⟩
theorem dX8_couples_48 : jm_d cX8_couples 48 (.aload_n 0) 1 49 := ⟨by decide +kernel, rfl⟩
theorem dX8_couples_49 : jm_d cX8_couples 49 (.getfield 50) 3 52 := ⟨by decide +kernel, rfl⟩
theorem dX8_couples_52 : jm_d cX8_couples 52 (.getfield 216) 3 55 := ⟨by decide +kernel, rfl⟩
theorem dX8_couples_55 : jm_d cX8_couples 55 (.iload_n 1) 1 56 := ⟨by decide +kernel, rfl⟩
theorem dX8_couples_56 : jm_d cX8_couples 56 (.iaload) 1 57 := ⟨by decide +kernel, rfl⟩
theorem dX8_couples_5 : jm_d cX8_couples 5 (.aload_n 0) 1 6 := ⟨by decide +kernel, rfl⟩
theorem dX8_couples_6 : jm_d cX8_couples 6 (.getfield 10) 3 9 := ⟨by decide +kernel, rfl⟩
theorem dX8_couples_9 : jm_d cX8_couples 9 (.iload_n 1) 1 10 := ⟨by decide +kernel, rfl⟩
theorem dX8_couples_10 : jm_d cX8_couples 10 (.invokevirtual 108) 3 13 := ⟨by decide +kernel, rfl⟩
theorem dX8_couples_13 : jm_b cX8_couples 13 (.ifCond .ne) 16 22 := ⟨9, by decide +kernel, rfl, by decide⟩
theorem dX8_couples_16 : jm_d cX8_couples 16 (.aload_n 0) 1 17 := ⟨by decide +kernel, rfl⟩
theorem dX8_couples_17 : jm_d cX8_couples 17 (.iconst (-1)) 1 18 := ⟨by decide +kernel, rfl⟩
theorem dX8_couples_18 : jm_d cX8_couples 18 (.invokevirtual 64) 3 21 := ⟨by decide +kernel, rfl⟩
theorem dX8_couples_21 : jm_d cX8_couples 21 (.ireturn) 1 22 := ⟨by decide +kernel, rfl⟩
set_option maxHeartbeats 4000000 in
set_option maxRecDepth 100000 in
theorem kW_couples (E : jm_Ev) (hE : jm_dj E jm_LC) {M : jm_M} {p1 : Int32}  {r : Int32 × jm_M} (h : sW_couples M p1 = some r) : jm_Ct E jm_LC yX8_couples cX8_couples 2 (some .int) 7 185 [.ref (jm_a E 0 0), .int p1] M (some (.int r.1)) r.2 := by
  refine jm_enter (lv := [some (.ref (jm_a E 0 0)), some (.int p1)]) hE (by decide) (Nat.le_of_ble_eq_true rfl) rfl ?_
  intro z w F hz
  have G : jm_G w 0 [some (.ref (jm_a E 0 0)), some (.int p1)] [] M (sW_couples M p1) (fun e => z (some (.int e.1)) e.2) := by
    unfold sW_couples
    refine jm_iload_n (i := 1) F dX8_couples_0 rfl rfl ?_
    refine jm_iconst F dX8_couples_1 kc_m1 ?_
    refine jm_icmp_eq F dX8_couples_2 (fun c1 => ?_) (fun c1 => ?_)
    · refine jm_aload_n (i := 0) F dX8_couples_22 rfl rfl ?_
      refine jm_getR F dX8_couples_23 fl_X8_50 lo_X8 rfl ?_
      refine jm_aload_n (i := 0) F dX8_couples_26 rfl rfl ?_
      refine jm_getR F dX8_couples_27 fl_X8_10 lo_X8 rfl ?_
      refine jm_callV (As := [.ref (jm_a E 1 0)]) (st := []) (rv := fun _ => none) (mm := fun r => r) F dX8_couples_30 qX8_212 rfl lo_X1 rfl (fun r h => kC_choose E hE isT_1 h) rfl (Nat.le_of_ble_eq_true rfl) ⟨Nat.le_of_ble_eq_true rfl, Nat.le_of_ble_eq_true rfl⟩ (fun r2 => ?_)
      refine jm_iload_n (i := 1) F dX8_couples_33 rfl rfl ?_
      refine jm_iconst F dX8_couples_34 kc_m1 ?_
      refine jm_icmp_ne F dX8_couples_35 (fun c3 => ?_) (fun c3 => ?_)
      · refine jm_aload_n (i := 0) F dX8_couples_38 rfl rfl ?_
        refine jm_getR F dX8_couples_39 fl_X8_50 lo_X8 rfl ?_
        refine jm_getI F dX8_couples_42 fl_X8_215 lo_X1 rfl ?_
        refine jm_goto F dX8_couples_45 ?_
        exact jm_iret F dX8_couples_57 (fun h => h)
      · refine jm_aload_n (i := 0) F dX8_couples_48 rfl rfl ?_
        refine jm_getR F dX8_couples_49 fl_X8_50 lo_X8 rfl ?_
        refine jm_getR F dX8_couples_52 fl_X8_216 lo_X1 rfl ?_
        refine jm_iload_n (i := 1) F dX8_couples_55 rfl rfl ?_
        refine jm_iald F dX8_couples_56 la_X1_3 (fun v4 => ?_)
        exact jm_iret F dX8_couples_57 (fun h => h)
    · refine jm_aload_n (i := 0) F dX8_couples_5 rfl rfl ?_
      refine jm_getR F dX8_couples_6 fl_X8_10 lo_X8 rfl ?_
      refine jm_iload_n (i := 1) F dX8_couples_9 rfl rfl ?_
      refine jm_callV (As := [.int p1]) (st := []) (rv := fun r => some (.int r)) (mm := fun _ => M) F dX8_couples_10 qX8_108 rfl (lo_T isT_1) rfl (fun r h => kT_hasPerson E hE isT_1 h) rfl (Nat.le_of_ble_eq_true rfl) ⟨Nat.le_of_ble_eq_true rfl, Nat.le_of_ble_eq_true rfl⟩ (fun r5 => ?_)
      refine jm_if_ne F dX8_couples_13 (fun c6 => ?_) (fun c6 => ?_)
      · refine jm_aload_n (i := 0) F dX8_couples_16 rfl rfl ?_
        refine jm_iconst F dX8_couples_17 kc_m1 ?_
        refine jm_callV (As := [.int (-1)]) (st := []) (rv := fun r => some (.int r.1)) (mm := fun r => r.2) F dX8_couples_18 qX8_64 rfl lo_X8 rfl (fun r h => kW_refuse E hE h) rfl (Nat.le_of_ble_eq_true rfl) ⟨Nat.le_of_ble_eq_true rfl, Nat.le_of_ble_eq_true rfl⟩ (fun r7 => ?_)
        exact jm_iret F dX8_couples_21 (fun h => h)
      · refine jm_aload_n (i := 0) F dX8_couples_22 rfl rfl ?_
        refine jm_getR F dX8_couples_23 fl_X8_50 lo_X8 rfl ?_
        refine jm_aload_n (i := 0) F dX8_couples_26 rfl rfl ?_
        refine jm_getR F dX8_couples_27 fl_X8_10 lo_X8 rfl ?_
        refine jm_callV (As := [.ref (jm_a E 1 0)]) (st := []) (rv := fun _ => none) (mm := fun r => r) F dX8_couples_30 qX8_212 rfl lo_X1 rfl (fun r h => kC_choose E hE isT_1 h) rfl (Nat.le_of_ble_eq_true rfl) ⟨Nat.le_of_ble_eq_true rfl, Nat.le_of_ble_eq_true rfl⟩ (fun r8 => ?_)
        refine jm_iload_n (i := 1) F dX8_couples_33 rfl rfl ?_
        refine jm_iconst F dX8_couples_34 kc_m1 ?_
        refine jm_icmp_ne F dX8_couples_35 (fun c9 => ?_) (fun c9 => ?_)
        · refine jm_aload_n (i := 0) F dX8_couples_38 rfl rfl ?_
          refine jm_getR F dX8_couples_39 fl_X8_50 lo_X8 rfl ?_
          refine jm_getI F dX8_couples_42 fl_X8_215 lo_X1 rfl ?_
          refine jm_goto F dX8_couples_45 ?_
          exact jm_iret F dX8_couples_57 (fun h => h)
        · refine jm_aload_n (i := 0) F dX8_couples_48 rfl rfl ?_
          refine jm_getR F dX8_couples_49 fl_X8_50 lo_X8 rfl ?_
          refine jm_getR F dX8_couples_52 fl_X8_216 lo_X1 rfl ?_
          refine jm_iload_n (i := 1) F dX8_couples_55 rfl rfl ?_
          refine jm_iald F dX8_couples_56 la_X1_3 (fun v10 => ?_)
          exact jm_iret F dX8_couples_57 (fun h => h)
  exact G r h hz
theorem dX8_isHeavier_0 : jm_d cX8_isHeavier 0 (.aload_n 0) 1 1 := ⟨by decide +kernel, rfl⟩
theorem dX8_isHeavier_1 : jm_d cX8_isHeavier 1 (.getfield 10) 3 4 := ⟨by decide +kernel, rfl⟩
theorem dX8_isHeavier_4 : jm_d cX8_isHeavier 4 (.iload_n 1) 1 5 := ⟨by decide +kernel, rfl⟩
theorem dX8_isHeavier_5 : jm_d cX8_isHeavier 5 (.iload_n 2) 1 6 := ⟨by decide +kernel, rfl⟩
theorem dX8_isHeavier_6 : jm_d cX8_isHeavier 6 (.iload_n 3) 1 7 := ⟨by decide +kernel, rfl⟩
theorem dX8_isHeavier_7 : jm_d cX8_isHeavier 7 (.invokevirtual 196) 3 10 := ⟨by decide +kernel, rfl⟩
theorem dX8_isHeavier_10 : jm_d cX8_isHeavier 10 (.istore 5) 2 12 := ⟨by decide +kernel, rfl⟩
theorem dX8_isHeavier_12 : jm_d cX8_isHeavier 12 (.aload_n 0) 1 13 := ⟨by decide +kernel, rfl⟩
theorem dX8_isHeavier_13 : jm_d cX8_isHeavier 13 (.getfield 10) 3 16 := ⟨by decide +kernel, rfl⟩
theorem dX8_isHeavier_16 : jm_d cX8_isHeavier 16 (.iload_n 1) 1 17 := ⟨by decide +kernel, rfl⟩
theorem dX8_isHeavier_17 : jm_d cX8_isHeavier 17 (.iload_n 2) 1 18 := ⟨by decide +kernel, rfl⟩
theorem dX8_isHeavier_18 : jm_d cX8_isHeavier 18 (.iload 4) 2 20 := ⟨by decide +kernel, rfl⟩
theorem dX8_isHeavier_20 : jm_d cX8_isHeavier 20 (.invokevirtual 196) 3 23 := ⟨by decide +kernel, rfl⟩
theorem dX8_isHeavier_23 : jm_d cX8_isHeavier 23 (.istore 6) 2 25 := ⟨by decide +kernel, rfl⟩
theorem dX8_isHeavier_25 : jm_d cX8_isHeavier 25 (.iload 5) 2 27 := ⟨by decide +kernel, rfl⟩
theorem dX8_isHeavier_27 : jm_d cX8_isHeavier 27 (.iload 6) 2 29 := ⟨by decide +kernel, rfl⟩
theorem dX8_isHeavier_29 : jm_b cX8_isHeavier 29 (.if_icmp .gt) 32 61 := ⟨32, by decide +kernel, rfl, by decide⟩
theorem dX8_isHeavier_61 : jm_d cX8_isHeavier 61 (.iconst 1) 1 62 := ⟨by decide +kernel, rfl⟩
theorem dX8_isHeavier_62 : jm_b cX8_isHeavier 62 .goto 65 66 := ⟨4, by decide +kernel, rfl, by decide⟩
theorem dX8_isHeavier_66 : jm_d cX8_isHeavier 66 (.ireturn) 1 67 := ⟨by decide +kernel, rfl⟩
theorem dX8_isHeavier_32 : jm_d cX8_isHeavier 32 (.iload 5) 2 34 := ⟨by decide +kernel, rfl⟩
theorem dX8_isHeavier_34 : jm_d cX8_isHeavier 34 (.iload 6) 2 36 := ⟨by decide +kernel, rfl⟩
theorem dX8_isHeavier_36 : jm_b cX8_isHeavier 36 (.if_icmp .ne) 39 65 := ⟨29, by decide +kernel, rfl, by decide⟩
theorem dX8_isHeavier_39 : jm_d cX8_isHeavier 39 (.aload_n 0) 1 40 := ⟨by decide +kernel, rfl⟩
theorem dX8_isHeavier_40 : jm_d cX8_isHeavier 40 (.getfield 10) 3 43 := ⟨by decide +kernel, rfl⟩
theorem dX8_isHeavier_43 : jm_d cX8_isHeavier 43 (.getfield 151) 3 46 := ⟨by decide +kernel, rfl⟩
theorem dX8_isHeavier_46 : jm_d cX8_isHeavier 46 (.iload_n 3) 1 47 := ⟨by decide +kernel, rfl⟩
theorem dX8_isHeavier_47 : jm_d cX8_isHeavier 47 (.iaload) 1 48 := ⟨by decide +kernel, rfl⟩
theorem dX8_isHeavier_48 : jm_d cX8_isHeavier 48 (.aload_n 0) 1 49 := ⟨by decide +kernel, rfl⟩
theorem dX8_isHeavier_49 : jm_d cX8_isHeavier 49 (.getfield 10) 3 52 := ⟨by decide +kernel, rfl⟩
theorem dX8_isHeavier_52 : jm_d cX8_isHeavier 52 (.getfield 151) 3 55 := ⟨by decide +kernel, rfl⟩
theorem dX8_isHeavier_55 : jm_d cX8_isHeavier 55 (.iload 4) 2 57 := ⟨by decide +kernel, rfl⟩
theorem dX8_isHeavier_57 : jm_d cX8_isHeavier 57 (.iaload) 1 58 := ⟨by decide +kernel, rfl⟩
theorem dX8_isHeavier_58 : jm_b cX8_isHeavier 58 (.if_icmp .ge) 61 65 := ⟨7, by decide +kernel, rfl, by decide⟩
theorem dX8_isHeavier_65 : jm_d cX8_isHeavier 65 (.iconst 0) 1 66 := ⟨by decide +kernel, rfl⟩
set_option maxHeartbeats 4000000 in
set_option maxRecDepth 100000 in
theorem kW_isHeavier (E : jm_Ev) (hE : jm_dj E jm_LC) {M : jm_M} {p1 : Int32} {p2 : Int32} {p3 : Int32} {p4 : Int32}  {r : Int32} (h : sW_isHeavier M p1 p2 p3 p4 = some r) : jm_Ct E jm_LC yX8_isHeavier cX8_isHeavier 7 (some .boolean) 3 93 [.ref (jm_a E 0 0), .int p1, .int p2, .int p3, .int p4] M (some (.int r)) M := by
  refine jm_enter (lv := [some (.ref (jm_a E 0 0)), some (.int p1), some (.int p2), some (.int p3), some (.int p4), none, none]) hE (by decide) (Nat.le_of_ble_eq_true rfl) rfl ?_
  intro z w F hz
  have G : jm_G w 0 [some (.ref (jm_a E 0 0)), some (.int p1), some (.int p2), some (.int p3), some (.int p4), none, none] [] M (sW_isHeavier M p1 p2 p3 p4) (fun e => z (some (.int e)) M) := by
    unfold sW_isHeavier
    refine jm_aload_n (i := 0) F dX8_isHeavier_0 rfl rfl ?_
    refine jm_getR F dX8_isHeavier_1 fl_X8_10 lo_X8 rfl ?_
    refine jm_iload_n (i := 1) F dX8_isHeavier_4 rfl rfl ?_
    refine jm_iload_n (i := 2) F dX8_isHeavier_5 rfl rfl ?_
    refine jm_iload_n (i := 3) F dX8_isHeavier_6 rfl rfl ?_
    refine jm_callV (As := [.int p1, .int p2, .int p3]) (st := []) (rv := fun r => some (.int r)) (mm := fun _ => M) F dX8_isHeavier_7 qX8_196 rfl (lo_T isT_1) rfl (fun r h => kT_comesTo E hE isT_1 h) rfl (Nat.le_of_ble_eq_true rfl) ⟨Nat.le_of_ble_eq_true rfl, Nat.le_of_ble_eq_true rfl⟩ (fun r1 => ?_)
    refine jm_istore (i := 5) (lv' := [some (.ref (jm_a E 0 0)), some (.int p1), some (.int p2), some (.int p3), some (.int p4), some (.int r1), none]) F dX8_isHeavier_10 (by decide) rfl rfl ?_
    refine jm_aload_n (i := 0) F dX8_isHeavier_12 rfl rfl ?_
    refine jm_getR F dX8_isHeavier_13 fl_X8_10 lo_X8 rfl ?_
    refine jm_iload_n (i := 1) F dX8_isHeavier_16 rfl rfl ?_
    refine jm_iload_n (i := 2) F dX8_isHeavier_17 rfl rfl ?_
    refine jm_iload F dX8_isHeavier_18 rfl ?_
    refine jm_callV (As := [.int p1, .int p2, .int p4]) (st := []) (rv := fun r => some (.int r)) (mm := fun _ => M) F dX8_isHeavier_20 qX8_196 rfl (lo_T isT_1) rfl (fun r h => kT_comesTo E hE isT_1 h) rfl (Nat.le_of_ble_eq_true rfl) ⟨Nat.le_of_ble_eq_true rfl, Nat.le_of_ble_eq_true rfl⟩ (fun r2 => ?_)
    refine jm_istore (i := 6) (lv' := [some (.ref (jm_a E 0 0)), some (.int p1), some (.int p2), some (.int p3), some (.int p4), some (.int r1), some (.int r2)]) F dX8_isHeavier_23 (by decide) rfl rfl ?_
    refine jm_iload F dX8_isHeavier_25 rfl ?_
    refine jm_iload F dX8_isHeavier_27 rfl ?_
    refine jm_icmp_gt F dX8_isHeavier_29 (fun c3 => ?_) (fun c3 => ?_)
    · refine jm_iconst F dX8_isHeavier_61 kc_1 ?_
      refine jm_goto F dX8_isHeavier_62 ?_
      exact jm_zret F dX8_isHeavier_66 (Or.inr rfl) (fun h => h)
    · refine jm_iload F dX8_isHeavier_32 rfl ?_
      refine jm_iload F dX8_isHeavier_34 rfl ?_
      refine jm_icmp_ne F dX8_isHeavier_36 (fun c4 => ?_) (fun c4 => ?_)
      · refine jm_aload_n (i := 0) F dX8_isHeavier_39 rfl rfl ?_
        refine jm_getR F dX8_isHeavier_40 fl_X8_10 lo_X8 rfl ?_
        refine jm_getR F dX8_isHeavier_43 fl_X8_151 (lo_T isT_1) rfl ?_
        refine jm_iload_n (i := 3) F dX8_isHeavier_46 rfl rfl ?_
        refine jm_iald F dX8_isHeavier_47 (la_T_11 isT_1) (fun v5 => ?_)
        refine jm_aload_n (i := 0) F dX8_isHeavier_48 rfl rfl ?_
        refine jm_getR F dX8_isHeavier_49 fl_X8_10 lo_X8 rfl ?_
        refine jm_getR F dX8_isHeavier_52 fl_X8_151 (lo_T isT_1) rfl ?_
        refine jm_iload F dX8_isHeavier_55 rfl ?_
        refine jm_iald F dX8_isHeavier_57 (la_T_11 isT_1) (fun v6 => ?_)
        refine jm_icmp_ge F dX8_isHeavier_58 (fun c7 => ?_) (fun c7 => ?_)
        · refine jm_iconst F dX8_isHeavier_65 kc_0 ?_
          exact jm_zret F dX8_isHeavier_66 (Or.inl rfl) (fun h => h)
        · refine jm_iconst F dX8_isHeavier_61 kc_1 ?_
          refine jm_goto F dX8_isHeavier_62 ?_
          exact jm_zret F dX8_isHeavier_66 (Or.inr rfl) (fun h => h)
      · refine jm_iconst F dX8_isHeavier_65 kc_0 ?_
        exact jm_zret F dX8_isHeavier_66 (Or.inl rfl) (fun h => h)
  exact G r h hz
theorem dX8_orderPan_0 : jm_d cX8_orderPan 0 (.iconst 0) 1 1 := ⟨by decide +kernel, rfl⟩
theorem dX8_orderPan_1 : jm_d cX8_orderPan 1 (.istore_n 3) 1 2 := ⟨by decide +kernel, rfl⟩
theorem dX8_orderPan_2 : jm_d cX8_orderPan 2 (.iconst 0) 1 3 := ⟨by decide +kernel, rfl⟩
theorem dX8_orderPan_3 : jm_d cX8_orderPan 3 (.istore 4) 2 5 := ⟨by decide +kernel, rfl⟩
theorem dX8_orderPan_5 : jm_d cX8_orderPan 5 (.iload 4) 2 7 := ⟨by decide +kernel, rfl⟩
theorem dX8_orderPan_7 : jm_d cX8_orderPan 7 (.aload_n 0) 1 8 := ⟨by decide +kernel, rfl⟩
theorem dX8_orderPan_8 : jm_d cX8_orderPan 8 (.getfield 10) 3 11 := ⟨by decide +kernel, rfl⟩
theorem dX8_orderPan_11 : jm_d cX8_orderPan 11 (.getfield 89) 3 14 := ⟨by decide +kernel, rfl⟩
theorem dX8_orderPan_14 : jm_b cX8_orderPan 14 (.if_icmp .ge) 17 99 := ⟨85, by decide +kernel, rfl, by decide⟩
theorem dX8_orderPan_17 : jm_d cX8_orderPan 17 (.aload_n 0) 1 18 := ⟨by decide +kernel, rfl⟩
theorem dX8_orderPan_18 : jm_d cX8_orderPan 18 (.getfield 10) 3 21 := ⟨by decide +kernel, rfl⟩
theorem dX8_orderPan_21 : jm_d cX8_orderPan 21 (.iload_n 1) 1 22 := ⟨by decide +kernel, rfl⟩
theorem dX8_orderPan_22 : jm_d cX8_orderPan 22 (.iload_n 2) 1 23 := ⟨by decide +kernel, rfl⟩
theorem dX8_orderPan_23 : jm_d cX8_orderPan 23 (.iload 4) 2 25 := ⟨by decide +kernel, rfl⟩
theorem dX8_orderPan_25 : jm_d cX8_orderPan 25 (.invokevirtual 334) 3 28 := ⟨by decide +kernel, rfl⟩
theorem dX8_orderPan_28 : jm_b cX8_orderPan 28 (.ifCond .eq) 31 93 := ⟨65, by decide +kernel, rfl, by decide⟩
theorem dX8_orderPan_93 : jm_d cX8_orderPan 93 (.iinc 4 1) 3 96 := ⟨by decide +kernel, rfl⟩
theorem dX8_orderPan_96 : jm_b cX8_orderPan 96 .goto 99 5 := ⟨(-91), by decide +kernel, rfl, by decide⟩
theorem dX8_orderPan_31 : jm_d cX8_orderPan 31 (.iload_n 3) 1 32 := ⟨by decide +kernel, rfl⟩
theorem dX8_orderPan_32 : jm_d cX8_orderPan 32 (.istore 5) 2 34 := ⟨by decide +kernel, rfl⟩
theorem dX8_orderPan_34 : jm_d cX8_orderPan 34 (.iload 5) 2 36 := ⟨by decide +kernel, rfl⟩
theorem dX8_orderPan_36 : jm_b cX8_orderPan 36 (.ifCond .le) 39 81 := ⟨45, by decide +kernel, rfl, by decide⟩
theorem dX8_orderPan_39 : jm_d cX8_orderPan 39 (.aload_n 0) 1 40 := ⟨by decide +kernel, rfl⟩
theorem dX8_orderPan_40 : jm_d cX8_orderPan 40 (.iload_n 1) 1 41 := ⟨by decide +kernel, rfl⟩
theorem dX8_orderPan_41 : jm_d cX8_orderPan 41 (.iload_n 2) 1 42 := ⟨by decide +kernel, rfl⟩
theorem dX8_orderPan_42 : jm_d cX8_orderPan 42 (.iload 4) 2 44 := ⟨by decide +kernel, rfl⟩
theorem dX8_orderPan_44 : jm_d cX8_orderPan 44 (.aload_n 0) 1 45 := ⟨by decide +kernel, rfl⟩
theorem dX8_orderPan_45 : jm_d cX8_orderPan 45 (.getfield 54) 3 48 := ⟨by decide +kernel, rfl⟩
theorem dX8_orderPan_48 : jm_d cX8_orderPan 48 (.iload 5) 2 50 := ⟨by decide +kernel, rfl⟩
theorem dX8_orderPan_50 : jm_d cX8_orderPan 50 (.iconst 1) 1 51 := ⟨by decide +kernel, rfl⟩
theorem dX8_orderPan_51 : jm_d cX8_orderPan 51 (.isub) 1 52 := ⟨by decide +kernel, rfl⟩
theorem dX8_orderPan_52 : jm_d cX8_orderPan 52 (.iaload) 1 53 := ⟨by decide +kernel, rfl⟩
theorem dX8_orderPan_53 : jm_d cX8_orderPan 53 (.invokevirtual 338) 3 56 := ⟨by decide +kernel, rfl⟩
theorem dX8_orderPan_56 : jm_b cX8_orderPan 56 (.ifCond .eq) 59 81 := ⟨25, by decide +kernel, rfl, by decide⟩
theorem dX8_orderPan_59 : jm_d cX8_orderPan 59 (.aload_n 0) 1 60 := ⟨by decide +kernel, rfl⟩
theorem dX8_orderPan_60 : jm_d cX8_orderPan 60 (.getfield 54) 3 63 := ⟨by decide +kernel, rfl⟩
theorem dX8_orderPan_63 : jm_d cX8_orderPan 63 (.iload 5) 2 65 := ⟨by decide +kernel, rfl⟩
theorem dX8_orderPan_65 : jm_d cX8_orderPan 65 (.aload_n 0) 1 66 := ⟨by decide +kernel, rfl⟩
theorem dX8_orderPan_66 : jm_d cX8_orderPan 66 (.getfield 54) 3 69 := ⟨by decide +kernel, rfl⟩
theorem dX8_orderPan_69 : jm_d cX8_orderPan 69 (.iload 5) 2 71 := ⟨by decide +kernel, rfl⟩
theorem dX8_orderPan_71 : jm_d cX8_orderPan 71 (.iconst 1) 1 72 := ⟨by decide +kernel, rfl⟩
theorem dX8_orderPan_72 : jm_d cX8_orderPan 72 (.isub) 1 73 := ⟨by decide +kernel, rfl⟩
theorem dX8_orderPan_73 : jm_d cX8_orderPan 73 (.iaload) 1 74 := ⟨by decide +kernel, rfl⟩
theorem dX8_orderPan_74 : jm_d cX8_orderPan 74 (.iastore) 1 75 := ⟨by decide +kernel, rfl⟩
theorem dX8_orderPan_75 : jm_d cX8_orderPan 75 (.iinc 5 (-1)) 3 78 := ⟨by decide +kernel, rfl⟩
theorem dX8_orderPan_78 : jm_b cX8_orderPan 78 .goto 81 34 := ⟨(-44), by decide +kernel, rfl, by decide⟩
theorem dX8_orderPan_81 : jm_d cX8_orderPan 81 (.aload_n 0) 1 82 := ⟨by decide +kernel, rfl⟩
theorem dX8_orderPan_82 : jm_d cX8_orderPan 82 (.getfield 54) 3 85 := ⟨by decide +kernel, rfl⟩
theorem dX8_orderPan_85 : jm_d cX8_orderPan 85 (.iload 5) 2 87 := ⟨by decide +kernel, rfl⟩
theorem dX8_orderPan_87 : jm_d cX8_orderPan 87 (.iload 4) 2 89 := ⟨by decide +kernel, rfl⟩
theorem dX8_orderPan_89 : jm_d cX8_orderPan 89 (.iastore) 1 90 := ⟨by decide +kernel, rfl⟩
theorem dX8_orderPan_90 : jm_d cX8_orderPan 90 (.iinc 3 1) 3 93 := ⟨by decide +kernel, rfl⟩
theorem dX8_orderPan_99 : jm_d cX8_orderPan 99 (.iload_n 3) 1 100 := ⟨by decide +kernel, rfl⟩
theorem dX8_orderPan_100 : jm_d cX8_orderPan 100 (.ireturn) 1 101 := ⟨by decide +kernel, rfl⟩
set_option maxHeartbeats 4000000 in
set_option maxRecDepth 100000 in
theorem kW_orderPan (E : jm_Ev) (hE : jm_dj E jm_LC) {M : jm_M} {p1 : Int32} {p2 : Int32}  {r : Int32 × jm_M} (h : sW_orderPan M p1 p2 = some r) : jm_Ct E jm_LC yX8_orderPan cX8_orderPan 6 (some .int) 4 119 [.ref (jm_a E 0 0), .int p1, .int p2] M (some (.int r.1)) r.2 := by
  refine jm_enter (lv := [some (.ref (jm_a E 0 0)), some (.int p1), some (.int p2), none, none, none]) hE (by decide) (Nat.le_of_ble_eq_true rfl) rfl ?_
  intro z w F hz
  have G : jm_G w 0 [some (.ref (jm_a E 0 0)), some (.int p1), some (.int p2), none, none, none] [] M (sW_orderPan M p1 p2) (fun e => z (some (.int e.1)) e.2) := by
    unfold sW_orderPan
    refine jm_iconst F dX8_orderPan_0 kc_0 ?_
    refine jm_istore_n (i := 3) (lv' := [some (.ref (jm_a E 0 0)), some (.int p1), some (.int p2), some (.int 0), none, none]) F dX8_orderPan_1 rfl (by decide) rfl rfl ?_
    refine jm_iconst F dX8_orderPan_2 kc_0 ?_
    refine jm_istore (i := 4) (lv' := [some (.ref (jm_a E 0 0)), some (.int p1), some (.int p2), some (.int 0), some (.int 0), none]) F dX8_orderPan_3 (by decide) rfl rfl ?_
    refine jm_bind (pcJ := 99) (lvJ := fun e14 => [none, none, none, some (.int e14.1), none, none]) (stJ := fun _ => []) (MJ := fun e14 => e14.2) ?_ (fun e14 => ?_)
    · refine jm_weak F (lv' := [some (.ref (jm_a E 0 0)), some (.int p1), some (.int p2), some (.int 0), some (.int 0), none]) ⟨rfl, rfl, rfl, rfl, rfl, trivial⟩ ?_
      refine jm_loopR (lvH := fun s1 => [some (.ref (jm_a E 0 0)), some (.int p1), some (.int p2), some (.int s1.1), some (.int s1.2.1), none]) (MH := fun s1 => s1.2.2) (fun s1 => ?_) jm_N (0, 0, M)
      unfold sW_orderPan_L5
      refine jm_iload F dX8_orderPan_5 rfl ?_
      refine jm_aload_n (i := 0) F dX8_orderPan_7 rfl rfl ?_
      refine jm_getR F dX8_orderPan_8 fl_X8_10 lo_X8 rfl ?_
      refine jm_getI F dX8_orderPan_11 fl_X8_89 (lo_T isT_1) rfl ?_
      refine jm_icmp_ge F dX8_orderPan_14 (fun c2 => ?_) (fun c2 => ?_)
      · exact jm_weakD F (lv' := [none, none, none, some (.int s1.1), none, none]) ⟨rfl, trivial⟩ (fun h => h)
      · refine jm_aload_n (i := 0) F dX8_orderPan_17 rfl rfl ?_
        refine jm_getR F dX8_orderPan_18 fl_X8_10 lo_X8 rfl ?_
        refine jm_iload_n (i := 1) F dX8_orderPan_21 rfl rfl ?_
        refine jm_iload_n (i := 2) F dX8_orderPan_22 rfl rfl ?_
        refine jm_iload F dX8_orderPan_23 rfl ?_
        refine jm_callV (As := [.int p1, .int p2, .int s1.2.1]) (st := []) (rv := fun r => some (.int r)) (mm := fun _ => s1.2.2) F dX8_orderPan_25 qX8_334 rfl (lo_T isT_1) rfl (fun r h => kT_isOnPan E hE isT_1 h) rfl (Nat.le_of_ble_eq_true rfl) ⟨Nat.le_of_ble_eq_true rfl, Nat.le_of_ble_eq_true rfl⟩ (fun r3 => ?_)
        refine jm_if_eq F dX8_orderPan_28 (fun c4 => ?_) (fun c4 => ?_)
        · refine jm_iinc (i := 4) (lv' := [some (.ref (jm_a E 0 0)), some (.int p1), some (.int p2), some (.int s1.1), some (.int (s1.2.1 + 1)), none]) F dX8_orderPan_93 kc_1 rfl (by decide) rfl rfl ?_
          refine jm_goto F dX8_orderPan_96 ?_
          exact jm_weakD F (lv' := [some (.ref (jm_a E 0 0)), some (.int p1), some (.int p2), some (.int s1.1), some (.int (s1.2.1 + 1)), none]) ⟨rfl, rfl, rfl, rfl, rfl, trivial⟩ (fun h => h)
        · refine jm_iload_n (i := 3) F dX8_orderPan_31 rfl rfl ?_
          refine jm_istore (i := 5) (lv' := [some (.ref (jm_a E 0 0)), some (.int p1), some (.int p2), some (.int s1.1), some (.int s1.2.1), some (.int s1.1)]) F dX8_orderPan_32 (by decide) rfl rfl ?_
          refine jm_bind (pcJ := 81) (lvJ := fun e12 => [some (.ref (jm_a E 0 0)), some (.int p1), some (.int p2), some (.int s1.1), some (.int s1.2.1), some (.int e12.1)]) (stJ := fun _ => []) (MJ := fun e12 => e12.2) ?_ (fun e12 => ?_)
          · refine jm_weak F (lv' := [some (.ref (jm_a E 0 0)), some (.int p1), some (.int p2), some (.int s1.1), some (.int s1.2.1), some (.int s1.1)]) ⟨rfl, rfl, rfl, rfl, rfl, rfl, trivial⟩ ?_
            refine jm_loopR (lvH := fun s5 => [some (.ref (jm_a E 0 0)), some (.int p1), some (.int p2), some (.int s1.1), some (.int s1.2.1), some (.int s5.1)]) (MH := fun s5 => s5.2) (fun s5 => ?_) jm_N (s1.1, s1.2.2)
            unfold sW_orderPan_L34
            refine jm_iload F dX8_orderPan_34 rfl ?_
            refine jm_if_le F dX8_orderPan_36 (fun c6 => ?_) (fun c6 => ?_)
            · exact jm_weakD F (lv' := [some (.ref (jm_a E 0 0)), some (.int p1), some (.int p2), some (.int s1.1), some (.int s1.2.1), some (.int s5.1)]) ⟨rfl, rfl, rfl, rfl, rfl, rfl, trivial⟩ (fun h => h)
            · refine jm_aload_n (i := 0) F dX8_orderPan_39 rfl rfl ?_
              refine jm_iload_n (i := 1) F dX8_orderPan_40 rfl rfl ?_
              refine jm_iload_n (i := 2) F dX8_orderPan_41 rfl rfl ?_
              refine jm_iload F dX8_orderPan_42 rfl ?_
              refine jm_aload_n (i := 0) F dX8_orderPan_44 rfl rfl ?_
              refine jm_getR F dX8_orderPan_45 fl_X8_54 lo_X8 rfl ?_
              refine jm_iload F dX8_orderPan_48 rfl ?_
              refine jm_iconst F dX8_orderPan_50 kc_1 ?_
              refine jm_isub F dX8_orderPan_51 ?_
              refine jm_iald F dX8_orderPan_52 la_X8_9 (fun v7 => ?_)
              refine jm_callV (As := [.int p1, .int p2, .int s1.2.1, .int v7]) (st := []) (rv := fun r => some (.int r)) (mm := fun _ => s5.2) F dX8_orderPan_53 qX8_338 rfl lo_X8 rfl (fun r h => kW_isHeavier E hE h) rfl (Nat.le_of_ble_eq_true rfl) ⟨Nat.le_of_ble_eq_true rfl, Nat.le_of_ble_eq_true rfl⟩ (fun r8 => ?_)
              refine jm_if_eq F dX8_orderPan_56 (fun c9 => ?_) (fun c9 => ?_)
              · exact jm_weakD F (lv' := [some (.ref (jm_a E 0 0)), some (.int p1), some (.int p2), some (.int s1.1), some (.int s1.2.1), some (.int s5.1)]) ⟨rfl, rfl, rfl, rfl, rfl, rfl, trivial⟩ (fun h => h)
              · refine jm_aload_n (i := 0) F dX8_orderPan_59 rfl rfl ?_
                refine jm_getR F dX8_orderPan_60 fl_X8_54 lo_X8 rfl ?_
                refine jm_iload F dX8_orderPan_63 rfl ?_
                refine jm_aload_n (i := 0) F dX8_orderPan_65 rfl rfl ?_
                refine jm_getR F dX8_orderPan_66 fl_X8_54 lo_X8 rfl ?_
                refine jm_iload F dX8_orderPan_69 rfl ?_
                refine jm_iconst F dX8_orderPan_71 kc_1 ?_
                refine jm_isub F dX8_orderPan_72 ?_
                refine jm_iald F dX8_orderPan_73 la_X8_9 (fun v10 => ?_)
                refine jm_iast F dX8_orderPan_74 la_X8_9 (fun M11 => ?_)
                refine jm_iinc (i := 5) (lv' := [some (.ref (jm_a E 0 0)), some (.int p1), some (.int p2), some (.int s1.1), some (.int s1.2.1), some (.int (s5.1 + (-1)))]) F dX8_orderPan_75 kc_m1 rfl (by decide) rfl rfl ?_
                refine jm_goto F dX8_orderPan_78 ?_
                exact jm_weakD F (lv' := [some (.ref (jm_a E 0 0)), some (.int p1), some (.int p2), some (.int s1.1), some (.int s1.2.1), some (.int (s5.1 + (-1)))]) ⟨rfl, rfl, rfl, rfl, rfl, rfl, trivial⟩ (fun h => h)
          · refine jm_aload_n (i := 0) F dX8_orderPan_81 rfl rfl ?_
            refine jm_getR F dX8_orderPan_82 fl_X8_54 lo_X8 rfl ?_
            refine jm_iload F dX8_orderPan_85 rfl ?_
            refine jm_iload F dX8_orderPan_87 rfl ?_
            refine jm_iast F dX8_orderPan_89 la_X8_9 (fun M13 => ?_)
            refine jm_iinc (i := 3) (lv' := [some (.ref (jm_a E 0 0)), some (.int p1), some (.int p2), some (.int (s1.1 + 1)), some (.int s1.2.1), some (.int e12.1)]) F dX8_orderPan_90 kc_1 rfl (by decide) rfl rfl ?_
            refine jm_iinc (i := 4) (lv' := [some (.ref (jm_a E 0 0)), some (.int p1), some (.int p2), some (.int (s1.1 + 1)), some (.int (s1.2.1 + 1)), some (.int e12.1)]) F dX8_orderPan_93 kc_1 rfl (by decide) rfl rfl ?_
            refine jm_goto F dX8_orderPan_96 ?_
            exact jm_weakD F (lv' := [some (.ref (jm_a E 0 0)), some (.int p1), some (.int p2), some (.int (s1.1 + 1)), some (.int (s1.2.1 + 1)), none]) ⟨rfl, rfl, rfl, rfl, rfl, trivial⟩ (fun h => h)
    · refine jm_iload_n (i := 3) F dX8_orderPan_99 rfl rfl ?_
      exact jm_iret F dX8_orderPan_100 (fun h => h)
  exact G r h hz
theorem dX8_heaviest_0 : jm_d cX8_heaviest 0 (.aload_n 0) 1 1 := ⟨by decide +kernel, rfl⟩
theorem dX8_heaviest_1 : jm_d cX8_heaviest 1 (.iload_n 1) 1 2 := ⟨by decide +kernel, rfl⟩
theorem dX8_heaviest_2 : jm_d cX8_heaviest 2 (.iload_n 2) 1 3 := ⟨by decide +kernel, rfl⟩
theorem dX8_heaviest_3 : jm_d cX8_heaviest 3 (.invokevirtual 188) 3 6 := ⟨by decide +kernel, rfl⟩
theorem dX8_heaviest_6 : jm_b cX8_heaviest 6 (.ifCond .ne) 9 15 := ⟨9, by decide +kernel, rfl, by decide⟩
theorem dX8_heaviest_9 : jm_d cX8_heaviest 9 (.aload_n 0) 1 10 := ⟨by decide +kernel, rfl⟩
theorem dX8_heaviest_10 : jm_d cX8_heaviest 10 (.iconst (-1)) 1 11 := ⟨by decide +kernel, rfl⟩
theorem dX8_heaviest_11 : jm_d cX8_heaviest 11 (.invokevirtual 64) 3 14 := ⟨by decide +kernel, rfl⟩
theorem dX8_heaviest_14 : jm_d cX8_heaviest 14 (.ireturn) 1 15 := ⟨by decide +kernel, rfl⟩
theorem dX8_heaviest_15 : jm_d cX8_heaviest 15 (.iload_n 3) 1 16 := ⟨by decide +kernel, rfl⟩
theorem dX8_heaviest_16 : jm_b cX8_heaviest 16 (.ifCond .ge) 19 26 := ⟨10, by decide +kernel, rfl, by decide⟩
theorem dX8_heaviest_26 : jm_d cX8_heaviest 26 (.aload_n 0) 1 27 := ⟨by decide +kernel, rfl⟩
theorem dX8_heaviest_27 : jm_d cX8_heaviest 27 (.iload_n 1) 1 28 := ⟨by decide +kernel, rfl⟩
theorem dX8_heaviest_28 : jm_d cX8_heaviest 28 (.iload_n 2) 1 29 := ⟨by decide +kernel, rfl⟩
theorem dX8_heaviest_29 : jm_d cX8_heaviest 29 (.invokevirtual 219) 3 32 := ⟨by decide +kernel, rfl⟩
theorem dX8_heaviest_32 : jm_d cX8_heaviest 32 (.istore 4) 2 34 := ⟨by decide +kernel, rfl⟩
theorem dX8_heaviest_34 : jm_d cX8_heaviest 34 (.iload_n 3) 1 35 := ⟨by decide +kernel, rfl⟩
theorem dX8_heaviest_35 : jm_d cX8_heaviest 35 (.iload 4) 2 37 := ⟨by decide +kernel, rfl⟩
theorem dX8_heaviest_37 : jm_b cX8_heaviest 37 (.if_icmp .ge) 40 49 := ⟨12, by decide +kernel, rfl, by decide⟩
theorem dX8_heaviest_49 : jm_d cX8_heaviest 49 (.bipush (-9)) 2 51 := ⟨by decide +kernel, rfl⟩
theorem dX8_heaviest_51 : jm_d cX8_heaviest 51 (.ireturn) 1 52 := ⟨by decide +kernel, rfl⟩
theorem dX8_heaviest_40 : jm_d cX8_heaviest 40 (.aload_n 0) 1 41 := ⟨by decide +kernel, rfl⟩
theorem dX8_heaviest_41 : jm_d cX8_heaviest 41 (.getfield 54) 3 44 := ⟨by decide +kernel, rfl⟩
theorem dX8_heaviest_44 : jm_d cX8_heaviest 44 (.iload_n 3) 1 45 := ⟨by decide +kernel, rfl⟩
theorem dX8_heaviest_45 : jm_d cX8_heaviest 45 (.iaload) 1 46 := ⟨by decide +kernel, rfl⟩
theorem dX8_heaviest_46 : jm_b cX8_heaviest 46 .goto 49 51 := ⟨5, by decide +kernel, rfl, by decide⟩
theorem dX8_heaviest_19 : jm_d cX8_heaviest 19 (.aload_n 0) 1 20 := ⟨by decide +kernel, rfl⟩
theorem dX8_heaviest_20 : jm_d cX8_heaviest 20 (.bipush (-4)) 2 22 := ⟨by decide +kernel, rfl⟩
theorem dX8_heaviest_22 : jm_d cX8_heaviest 22 (.invokevirtual 64) 3 25 := ⟨by decide +kernel, rfl⟩
theorem dX8_heaviest_25 : jm_d cX8_heaviest 25 (.ireturn) 1 26 := ⟨by decide +kernel, rfl⟩
set_option maxHeartbeats 4000000 in
set_option maxRecDepth 100000 in
theorem kW_heaviest (E : jm_Ev) (hE : jm_dj E jm_LC) {M : jm_M} {p1 : Int32} {p2 : Int32} {p3 : Int32}  {r : Int32 × jm_M} (h : sW_heaviest M p1 p2 p3 = some r) : jm_Ct E jm_LC yX8_heaviest cX8_heaviest 5 (some .int) 5 144 [.ref (jm_a E 0 0), .int p1, .int p2, .int p3] M (some (.int r.1)) r.2 := by
  refine jm_enter (lv := [some (.ref (jm_a E 0 0)), some (.int p1), some (.int p2), some (.int p3), none]) hE (by decide) (Nat.le_of_ble_eq_true rfl) rfl ?_
  intro z w F hz
  have G : jm_G w 0 [some (.ref (jm_a E 0 0)), some (.int p1), some (.int p2), some (.int p3), none] [] M (sW_heaviest M p1 p2 p3) (fun e => z (some (.int e.1)) e.2) := by
    unfold sW_heaviest
    refine jm_aload_n (i := 0) F dX8_heaviest_0 rfl rfl ?_
    refine jm_iload_n (i := 1) F dX8_heaviest_1 rfl rfl ?_
    refine jm_iload_n (i := 2) F dX8_heaviest_2 rfl rfl ?_
    refine jm_callV (As := [.int p1, .int p2]) (st := []) (rv := fun r => some (.int r)) (mm := fun _ => M) F dX8_heaviest_3 qX8_188 rfl lo_X8 rfl (fun r h => kW_areTwo E hE h) rfl (Nat.le_of_ble_eq_true rfl) ⟨Nat.le_of_ble_eq_true rfl, Nat.le_of_ble_eq_true rfl⟩ (fun r1 => ?_)
    refine jm_if_ne F dX8_heaviest_6 (fun c2 => ?_) (fun c2 => ?_)
    · refine jm_aload_n (i := 0) F dX8_heaviest_9 rfl rfl ?_
      refine jm_iconst F dX8_heaviest_10 kc_m1 ?_
      refine jm_callV (As := [.int (-1)]) (st := []) (rv := fun r => some (.int r.1)) (mm := fun r => r.2) F dX8_heaviest_11 qX8_64 rfl lo_X8 rfl (fun r h => kW_refuse E hE h) rfl (Nat.le_of_ble_eq_true rfl) ⟨Nat.le_of_ble_eq_true rfl, Nat.le_of_ble_eq_true rfl⟩ (fun r3 => ?_)
      exact jm_iret F dX8_heaviest_14 (fun h => h)
    · refine jm_iload_n (i := 3) F dX8_heaviest_15 rfl rfl ?_
      refine jm_if_ge F dX8_heaviest_16 (fun c4 => ?_) (fun c4 => ?_)
      · refine jm_aload_n (i := 0) F dX8_heaviest_26 rfl rfl ?_
        refine jm_iload_n (i := 1) F dX8_heaviest_27 rfl rfl ?_
        refine jm_iload_n (i := 2) F dX8_heaviest_28 rfl rfl ?_
        refine jm_callV (As := [.int p1, .int p2]) (st := []) (rv := fun r => some (.int r.1)) (mm := fun r => r.2) F dX8_heaviest_29 qX8_219 rfl lo_X8 rfl (fun r h => kW_orderPan E hE h) rfl (Nat.le_of_ble_eq_true rfl) ⟨Nat.le_of_ble_eq_true rfl, Nat.le_of_ble_eq_true rfl⟩ (fun r5 => ?_)
        refine jm_istore (i := 4) (lv' := [some (.ref (jm_a E 0 0)), some (.int p1), some (.int p2), some (.int p3), some (.int r5.1)]) F dX8_heaviest_32 (by decide) rfl rfl ?_
        refine jm_iload_n (i := 3) F dX8_heaviest_34 rfl rfl ?_
        refine jm_iload F dX8_heaviest_35 rfl ?_
        refine jm_icmp_ge F dX8_heaviest_37 (fun c6 => ?_) (fun c6 => ?_)
        · refine jm_bipush F dX8_heaviest_49 kb_m9 ?_
          exact jm_iret F dX8_heaviest_51 (fun h => h)
        · refine jm_aload_n (i := 0) F dX8_heaviest_40 rfl rfl ?_
          refine jm_getR F dX8_heaviest_41 fl_X8_54 lo_X8 rfl ?_
          refine jm_iload_n (i := 3) F dX8_heaviest_44 rfl rfl ?_
          refine jm_iald F dX8_heaviest_45 la_X8_9 (fun v7 => ?_)
          refine jm_goto F dX8_heaviest_46 ?_
          exact jm_iret F dX8_heaviest_51 (fun h => h)
      · refine jm_aload_n (i := 0) F dX8_heaviest_19 rfl rfl ?_
        refine jm_bipush F dX8_heaviest_20 kb_m4 ?_
        refine jm_callV (As := [.int (-4)]) (st := []) (rv := fun r => some (.int r.1)) (mm := fun r => r.2) F dX8_heaviest_22 qX8_64 rfl lo_X8 rfl (fun r h => kW_refuse E hE h) rfl (Nat.le_of_ble_eq_true rfl) ⟨Nat.le_of_ble_eq_true rfl, Nat.le_of_ble_eq_true rfl⟩ (fun r8 => ?_)
        exact jm_iret F dX8_heaviest_25 (fun h => h)
  exact G r h hz
theorem dX2_think_0 : jm_d cX2_think 0 (.aload_n 0) 1 1 := ⟨by decide +kernel, rfl⟩
theorem dX2_think_1 : jm_d cX2_think 1 (.getfield 12) 3 4 := ⟨by decide +kernel, rfl⟩
theorem dX2_think_4 : jm_d cX2_think 4 (.aload_n 1) 1 5 := ⟨by decide +kernel, rfl⟩
theorem dX2_think_5 : jm_d cX2_think 5 (.invokevirtual 25) 3 8 := ⟨by decide +kernel, rfl⟩
theorem dX2_think_8 : jm_d cX2_think 8 (.return_) 1 9 := ⟨by decide +kernel, rfl⟩
set_option maxHeartbeats 4000000 in
set_option maxRecDepth 100000 in
theorem kF_think (E : jm_Ev) (hE : jm_dj E jm_LC) {M : jm_M} {p1 : Nat} (hp1 : jm_isT p1) {r : jm_M} (h : sF_think M p1 = some r) : jm_Ct E jm_LC yX2_think cX2_think 2 none 2 61 [.ref (jm_a E 15 0), .ref (jm_a E p1 0)] M none r := by
  refine jm_enter (lv := [some (.ref (jm_a E 15 0)), some (.ref (jm_a E p1 0))]) hE (by decide) (Nat.le_of_ble_eq_true rfl) rfl ?_
  intro z w F hz
  have G : jm_G w 0 [some (.ref (jm_a E 15 0)), some (.ref (jm_a E p1 0))] [] M (sF_think M p1) (fun e => z none e) := by
    unfold sF_think
    refine jm_aload_n (i := 0) F dX2_think_0 rfl rfl ?_
    refine jm_getR F dX2_think_1 fl_X2_12 lo_X2 rfl ?_
    refine jm_aload_n (i := 1) F dX2_think_4 rfl rfl ?_
    refine jm_callV (As := [.ref (jm_a E p1 0)]) (st := []) (rv := fun _ => none) (mm := fun r => r) F dX2_think_5 qX2_25 rfl (lo_T isT_4) rfl (fun r h => kT_copyFrom E hE isT_4 hp1 h) rfl (Nat.le_of_ble_eq_true rfl) ⟨Nat.le_of_ble_eq_true rfl, Nat.le_of_ble_eq_true rfl⟩ (fun r1 => ?_)
    exact jm_vret F dX2_think_8 (fun h => h)
  exact G r h hz
theorem dX2_after_0 : jm_d cX2_after 0 (.aload_n 0) 1 1 := ⟨by decide +kernel, rfl⟩
theorem dX2_after_1 : jm_d cX2_after 1 (.aload_n 1) 1 2 := ⟨by decide +kernel, rfl⟩
theorem dX2_after_2 : jm_d cX2_after 2 (.invokevirtual 29) 3 5 := ⟨by decide +kernel, rfl⟩
theorem dX2_after_5 : jm_d cX2_after 5 (.aload_n 0) 1 6 := ⟨by decide +kernel, rfl⟩
theorem dX2_after_6 : jm_d cX2_after 6 (.getfield 12) 3 9 := ⟨by decide +kernel, rfl⟩
theorem dX2_after_9 : jm_d cX2_after 9 (.iload_n 2) 1 10 := ⟨by decide +kernel, rfl⟩
theorem dX2_after_10 : jm_d cX2_after 10 (.invokevirtual 32) 3 13 := ⟨by decide +kernel, rfl⟩
theorem dX2_after_13 : jm_d cX2_after 13 (.aload_n 0) 1 14 := ⟨by decide +kernel, rfl⟩
theorem dX2_after_14 : jm_d cX2_after 14 (.getfield 12) 3 17 := ⟨by decide +kernel, rfl⟩
theorem dX2_after_17 : jm_d cX2_after 17 (.areturn) 1 18 := ⟨by decide +kernel, rfl⟩
set_option maxHeartbeats 4000000 in
set_option maxRecDepth 100000 in
theorem kF_after (E : jm_Ev) (hE : jm_dj E jm_LC) {M : jm_M} {p1 : Nat} {p2 : Int32} (hp1 : jm_isT p1) {r : jm_M} (h : sF_after M p1 p2 = some r) : jm_Ct E jm_LC yX2_after cX2_after 3 (some (.object "WeighedInBooks$Town")) 4 90 [.ref (jm_a E 15 0), .ref (jm_a E p1 0), .int p2] M (some (.ref (jm_a E 4 0))) r := by
  refine jm_enter (lv := [some (.ref (jm_a E 15 0)), some (.ref (jm_a E p1 0)), some (.int p2)]) hE (by decide) (Nat.le_of_ble_eq_true rfl) rfl ?_
  intro z w F hz
  have G : jm_G w 0 [some (.ref (jm_a E 15 0)), some (.ref (jm_a E p1 0)), some (.int p2)] [] M (sF_after M p1 p2) (fun e => z (some (.ref (jm_a E 4 0))) e) := by
    unfold sF_after
    refine jm_aload_n (i := 0) F dX2_after_0 rfl rfl ?_
    refine jm_aload_n (i := 1) F dX2_after_1 rfl rfl ?_
    refine jm_callV (As := [.ref (jm_a E p1 0)]) (st := []) (rv := fun _ => none) (mm := fun r => r) F dX2_after_2 qX2_29 rfl lo_X2 rfl (fun r h => kF_think E hE hp1 h) rfl (Nat.le_of_ble_eq_true rfl) ⟨Nat.le_of_ble_eq_true rfl, Nat.le_of_ble_eq_true rfl⟩ (fun r1 => ?_)
    refine jm_aload_n (i := 0) F dX2_after_5 rfl rfl ?_
    refine jm_getR F dX2_after_6 fl_X2_12 lo_X2 rfl ?_
    refine jm_iload_n (i := 2) F dX2_after_9 rfl rfl ?_
    refine jm_callV (As := [.int p2]) (st := []) (rv := fun _ => none) (mm := fun r => r) F dX2_after_10 qX2_32 rfl (lo_T isT_4) rfl (fun r h => kT_weeksPass E hE isT_4 h) rfl (Nat.le_of_ble_eq_true rfl) ⟨Nat.le_of_ble_eq_true rfl, Nat.le_of_ble_eq_true rfl⟩ (fun r2 => ?_)
    refine jm_aload_n (i := 0) F dX2_after_13 rfl rfl ?_
    refine jm_getR F dX2_after_14 fl_X2_12 lo_X2 rfl ?_
    exact jm_aret F dX2_after_17 (fun h => h)
  exact G r h hz
theorem dX8_overThen_0 : jm_d cX8_overThen 0 (.aload_n 0) 1 1 := ⟨by decide +kernel, rfl⟩
theorem dX8_overThen_1 : jm_d cX8_overThen 1 (.iload_n 1) 1 2 := ⟨by decide +kernel, rfl⟩
theorem dX8_overThen_2 : jm_d cX8_overThen 2 (.iload_n 2) 1 3 := ⟨by decide +kernel, rfl⟩
theorem dX8_overThen_3 : jm_d cX8_overThen 3 (.invokevirtual 188) 3 6 := ⟨by decide +kernel, rfl⟩
theorem dX8_overThen_6 : jm_b cX8_overThen 6 (.ifCond .ne) 9 18 := ⟨12, by decide +kernel, rfl, by decide⟩
theorem dX8_overThen_9 : jm_d cX8_overThen 9 (.ldc 192) 2 11 := ⟨by decide +kernel, rfl⟩
theorem dX8_overThen_11 : jm_d cX8_overThen 11 (.aload_n 0) 1 12 := ⟨by decide +kernel, rfl⟩
theorem dX8_overThen_12 : jm_d cX8_overThen 12 (.iconst (-1)) 1 13 := ⟨by decide +kernel, rfl⟩
theorem dX8_overThen_13 : jm_d cX8_overThen 13 (.invokevirtual 64) 3 16 := ⟨by decide +kernel, rfl⟩
theorem dX8_overThen_16 : jm_d cX8_overThen 16 (.isub) 1 17 := ⟨by decide +kernel, rfl⟩
theorem dX8_overThen_17 : jm_d cX8_overThen 17 (.ireturn) 1 18 := ⟨by decide +kernel, rfl⟩
theorem dX8_overThen_18 : jm_d cX8_overThen 18 (.iload_n 3) 1 19 := ⟨by decide +kernel, rfl⟩
theorem dX8_overThen_19 : jm_b cX8_overThen 19 (.ifCond .ge) 22 32 := ⟨13, by decide +kernel, rfl, by decide⟩
theorem dX8_overThen_32 : jm_d cX8_overThen 32 (.iload_n 3) 1 33 := ⟨by decide +kernel, rfl⟩
theorem dX8_overThen_33 : jm_d cX8_overThen 33 (.bipush 60) 2 35 := ⟨by decide +kernel, rfl⟩
theorem dX8_overThen_35 : jm_b cX8_overThen 35 (.if_icmp .le) 38 48 := ⟨13, by decide +kernel, rfl, by decide⟩
theorem dX8_overThen_48 : jm_d cX8_overThen 48 (.aload_n 0) 1 49 := ⟨by decide +kernel, rfl⟩
theorem dX8_overThen_49 : jm_d cX8_overThen 49 (.getfield 36) 3 52 := ⟨by decide +kernel, rfl⟩
theorem dX8_overThen_52 : jm_d cX8_overThen 52 (.aload_n 0) 1 53 := ⟨by decide +kernel, rfl⟩
theorem dX8_overThen_53 : jm_d cX8_overThen 53 (.getfield 10) 3 56 := ⟨by decide +kernel, rfl⟩
theorem dX8_overThen_56 : jm_d cX8_overThen 56 (.iload_n 3) 1 57 := ⟨by decide +kernel, rfl⟩
theorem dX8_overThen_57 : jm_d cX8_overThen 57 (.invokevirtual 222) 3 60 := ⟨by decide +kernel, rfl⟩
theorem dX8_overThen_60 : jm_d cX8_overThen 60 (.iload_n 1) 1 61 := ⟨by decide +kernel, rfl⟩
theorem dX8_overThen_61 : jm_d cX8_overThen 61 (.iload_n 2) 1 62 := ⟨by decide +kernel, rfl⟩
theorem dX8_overThen_62 : jm_d cX8_overThen 62 (.invokevirtual 193) 3 65 := ⟨by decide +kernel, rfl⟩
theorem dX8_overThen_65 : jm_d cX8_overThen 65 (.ireturn) 1 66 := ⟨by decide +kernel, rfl⟩
theorem dX8_overThen_38 : jm_d cX8_overThen 38 (.ldc 192) 2 40 := ⟨by decide +kernel, rfl⟩
theorem dX8_overThen_40 : jm_d cX8_overThen 40 (.aload_n 0) 1 41 := ⟨by decide +kernel, rfl⟩
theorem dX8_overThen_41 : jm_d cX8_overThen 41 (.bipush (-6)) 2 43 := ⟨by decide +kernel, rfl⟩
theorem dX8_overThen_43 : jm_d cX8_overThen 43 (.invokevirtual 64) 3 46 := ⟨by decide +kernel, rfl⟩
theorem dX8_overThen_46 : jm_d cX8_overThen 46 (.isub) 1 47 := ⟨by decide +kernel, rfl⟩
theorem dX8_overThen_47 : jm_d cX8_overThen 47 (.ireturn) 1 48 := ⟨by decide +kernel, rfl⟩
theorem dX8_overThen_22 : jm_d cX8_overThen 22 (.ldc 192) 2 24 := ⟨by decide +kernel, rfl⟩
theorem dX8_overThen_24 : jm_d cX8_overThen 24 (.aload_n 0) 1 25 := ⟨by decide +kernel, rfl⟩
theorem dX8_overThen_25 : jm_d cX8_overThen 25 (.bipush (-4)) 2 27 := ⟨by decide +kernel, rfl⟩
theorem dX8_overThen_27 : jm_d cX8_overThen 27 (.invokevirtual 64) 3 30 := ⟨by decide +kernel, rfl⟩
theorem dX8_overThen_30 : jm_d cX8_overThen 30 (.isub) 1 31 := ⟨by decide +kernel, rfl⟩
theorem dX8_overThen_31 : jm_d cX8_overThen 31 (.ireturn) 1 32 := ⟨by decide +kernel, rfl⟩
set_option maxHeartbeats 4000000 in
set_option maxRecDepth 100000 in
theorem kW_overThen (E : jm_Ev) (hE : jm_dj E jm_LC) {M : jm_M} {p1 : Int32} {p2 : Int32} {p3 : Int32}  {r : Int32 × jm_M} (h : sW_overThen M p1 p2 p3 = some r) : jm_Ct E jm_LC yX8_overThen cX8_overThen 4 (some .int) 5 117 [.ref (jm_a E 0 0), .int p1, .int p2, .int p3] M (some (.int r.1)) r.2 := by
  refine jm_enter (lv := [some (.ref (jm_a E 0 0)), some (.int p1), some (.int p2), some (.int p3)]) hE (by decide) (Nat.le_of_ble_eq_true rfl) rfl ?_
  intro z w F hz
  have G : jm_G w 0 [some (.ref (jm_a E 0 0)), some (.int p1), some (.int p2), some (.int p3)] [] M (sW_overThen M p1 p2 p3) (fun e => z (some (.int e.1)) e.2) := by
    unfold sW_overThen
    refine jm_aload_n (i := 0) F dX8_overThen_0 rfl rfl ?_
    refine jm_iload_n (i := 1) F dX8_overThen_1 rfl rfl ?_
    refine jm_iload_n (i := 2) F dX8_overThen_2 rfl rfl ?_
    refine jm_callV (As := [.int p1, .int p2]) (st := []) (rv := fun r => some (.int r)) (mm := fun _ => M) F dX8_overThen_3 qX8_188 rfl lo_X8 rfl (fun r h => kW_areTwo E hE h) rfl (Nat.le_of_ble_eq_true rfl) ⟨Nat.le_of_ble_eq_true rfl, Nat.le_of_ble_eq_true rfl⟩ (fun r1 => ?_)
    refine jm_if_ne F dX8_overThen_6 (fun c2 => ?_) (fun c2 => ?_)
    · refine jm_ldc F dX8_overThen_9 tw_618 ?_
      refine jm_aload_n (i := 0) F dX8_overThen_11 rfl rfl ?_
      refine jm_iconst F dX8_overThen_12 kc_m1 ?_
      refine jm_callV (As := [.int (-1)]) (st := [.int 1000000000]) (rv := fun r => some (.int r.1)) (mm := fun r => r.2) F dX8_overThen_13 qX8_64 rfl lo_X8 rfl (fun r h => kW_refuse E hE h) rfl (Nat.le_of_ble_eq_true rfl) ⟨Nat.le_of_ble_eq_true rfl, Nat.le_of_ble_eq_true rfl⟩ (fun r3 => ?_)
      refine jm_isub F dX8_overThen_16 ?_
      exact jm_iret F dX8_overThen_17 (fun h => h)
    · refine jm_iload_n (i := 3) F dX8_overThen_18 rfl rfl ?_
      refine jm_if_ge F dX8_overThen_19 (fun c4 => ?_) (fun c4 => ?_)
      · refine jm_iload_n (i := 3) F dX8_overThen_32 rfl rfl ?_
        refine jm_bipush F dX8_overThen_33 kb_60 ?_
        refine jm_icmp_le F dX8_overThen_35 (fun c5 => ?_) (fun c5 => ?_)
        · refine jm_aload_n (i := 0) F dX8_overThen_48 rfl rfl ?_
          refine jm_getR F dX8_overThen_49 fl_X8_36 lo_X8 rfl ?_
          refine jm_aload_n (i := 0) F dX8_overThen_52 rfl rfl ?_
          refine jm_getR F dX8_overThen_53 fl_X8_10 lo_X8 rfl ?_
          refine jm_iload_n (i := 3) F dX8_overThen_56 rfl rfl ?_
          refine jm_callV (As := [.ref (jm_a E 1 0), .int p3]) (st := []) (rv := fun _ => some (.ref (jm_a E 4 0))) (mm := fun r => r) F dX8_overThen_57 qX8_222 rfl lo_X2 rfl (fun r h => kF_after E hE isT_1 h) rfl (Nat.le_of_ble_eq_true rfl) ⟨Nat.le_of_ble_eq_true rfl, Nat.le_of_ble_eq_true rfl⟩ (fun r6 => ?_)
          refine jm_iload_n (i := 1) F dX8_overThen_60 rfl rfl ?_
          refine jm_iload_n (i := 2) F dX8_overThen_61 rfl rfl ?_
          refine jm_callV (As := [.int p1, .int p2]) (st := []) (rv := fun r => some (.int r)) (mm := fun _ => r6) F dX8_overThen_62 qX8_193 rfl (lo_T isT_4) rfl (fun r h => kT_overOf E hE isT_4 h) rfl (Nat.le_of_ble_eq_true rfl) ⟨Nat.le_of_ble_eq_true rfl, Nat.le_of_ble_eq_true rfl⟩ (fun r7 => ?_)
          exact jm_iret F dX8_overThen_65 (fun h => h)
        · refine jm_ldc F dX8_overThen_38 tw_618 ?_
          refine jm_aload_n (i := 0) F dX8_overThen_40 rfl rfl ?_
          refine jm_bipush F dX8_overThen_41 kb_m6 ?_
          refine jm_callV (As := [.int (-6)]) (st := [.int 1000000000]) (rv := fun r => some (.int r.1)) (mm := fun r => r.2) F dX8_overThen_43 qX8_64 rfl lo_X8 rfl (fun r h => kW_refuse E hE h) rfl (Nat.le_of_ble_eq_true rfl) ⟨Nat.le_of_ble_eq_true rfl, Nat.le_of_ble_eq_true rfl⟩ (fun r8 => ?_)
          refine jm_isub F dX8_overThen_46 ?_
          exact jm_iret F dX8_overThen_47 (fun h => h)
      · refine jm_ldc F dX8_overThen_22 tw_618 ?_
        refine jm_aload_n (i := 0) F dX8_overThen_24 rfl rfl ?_
        refine jm_bipush F dX8_overThen_25 kb_m4 ?_
        refine jm_callV (As := [.int (-4)]) (st := [.int 1000000000]) (rv := fun r => some (.int r.1)) (mm := fun r => r.2) F dX8_overThen_27 qX8_64 rfl lo_X8 rfl (fun r h => kW_refuse E hE h) rfl (Nat.le_of_ble_eq_true rfl) ⟨Nat.le_of_ble_eq_true rfl, Nat.le_of_ble_eq_true rfl⟩ (fun r9 => ?_)
        refine jm_isub F dX8_overThen_30 ?_
        exact jm_iret F dX8_overThen_31 (fun h => h)
  exact G r h hz
theorem dX8_then_0 : jm_d cX8_then 0 (.iload_n 1) 1 1 := ⟨by decide +kernel, rfl⟩
theorem dX8_then_1 : jm_b cX8_then 1 (.ifCond .ge) 4 11 := ⟨10, by decide +kernel, rfl, by decide⟩
theorem dX8_then_11 : jm_d cX8_then 11 (.iload_n 1) 1 12 := ⟨by decide +kernel, rfl⟩
theorem dX8_then_12 : jm_d cX8_then 12 (.bipush 60) 2 14 := ⟨by decide +kernel, rfl⟩
theorem dX8_then_14 : jm_b cX8_then 14 (.if_icmp .le) 17 24 := ⟨10, by decide +kernel, rfl, by decide⟩
theorem dX8_then_24 : jm_d cX8_then 24 (.iload_n 2) 1 25 := ⟨by decide +kernel, rfl⟩
theorem dX8_then_25 : jm_b cX8_then 25 (.ifCond .lt) 28 33 := ⟨8, by decide +kernel, rfl, by decide⟩
theorem dX8_then_33 : jm_d cX8_then 33 (.aload_n 0) 1 34 := ⟨by decide +kernel, rfl⟩
theorem dX8_then_34 : jm_d cX8_then 34 (.bipush (-2)) 2 36 := ⟨by decide +kernel, rfl⟩
theorem dX8_then_36 : jm_d cX8_then 36 (.invokevirtual 64) 3 39 := ⟨by decide +kernel, rfl⟩
theorem dX8_then_39 : jm_d cX8_then 39 (.ireturn) 1 40 := ⟨by decide +kernel, rfl⟩
theorem dX8_then_28 : jm_d cX8_then 28 (.iload_n 2) 1 29 := ⟨by decide +kernel, rfl⟩
theorem dX8_then_29 : jm_d cX8_then 29 (.iconst 2) 1 30 := ⟨by decide +kernel, rfl⟩
theorem dX8_then_30 : jm_b cX8_then 30 (.if_icmp .le) 33 40 := ⟨10, by decide +kernel, rfl, by decide⟩
theorem dX8_then_40 : jm_d cX8_then 40 (.iload_n 2) 1 41 := ⟨by decide +kernel, rfl⟩
theorem dX8_then_41 : jm_b cX8_then 41 (.ifCond .ne) 44 58 := ⟨17, by decide +kernel, rfl, by decide⟩
theorem dX8_then_44 : jm_d cX8_then 44 (.aload_n 0) 1 45 := ⟨by decide +kernel, rfl⟩
theorem dX8_then_45 : jm_d cX8_then 45 (.getfield 10) 3 48 := ⟨by decide +kernel, rfl⟩
theorem dX8_then_48 : jm_d cX8_then 48 (.iload_n 3) 1 49 := ⟨by decide +kernel, rfl⟩
theorem dX8_then_49 : jm_d cX8_then 49 (.invokevirtual 108) 3 52 := ⟨by decide +kernel, rfl⟩
theorem dX8_then_52 : jm_b cX8_then 52 (.ifCond .ne) 55 75 := ⟨23, by decide +kernel, rfl, by decide⟩
theorem dX8_then_55 : jm_b cX8_then 55 .goto 58 69 := ⟨14, by decide +kernel, rfl, by decide⟩
theorem dX8_then_69 : jm_d cX8_then 69 (.aload_n 0) 1 70 := ⟨by decide +kernel, rfl⟩
theorem dX8_then_70 : jm_d cX8_then 70 (.iconst (-1)) 1 71 := ⟨by decide +kernel, rfl⟩
theorem dX8_then_71 : jm_d cX8_then 71 (.invokevirtual 64) 3 74 := ⟨by decide +kernel, rfl⟩
theorem dX8_then_74 : jm_d cX8_then 74 (.ireturn) 1 75 := ⟨by decide +kernel, rfl⟩
theorem dX8_then_75 : jm_d cX8_then 75 (.aload_n 0) 1 76 := ⟨by decide +kernel, rfl⟩
theorem dX8_then_76 : jm_d cX8_then 76 (.getfield 36) 3 79 := ⟨by decide +kernel, rfl⟩
theorem dX8_then_79 : jm_d cX8_then 79 (.aload_n 0) 1 80 := ⟨by decide +kernel, rfl⟩
theorem dX8_then_80 : jm_d cX8_then 80 (.getfield 10) 3 83 := ⟨by decide +kernel, rfl⟩
theorem dX8_then_83 : jm_d cX8_then 83 (.iload_n 1) 1 84 := ⟨by decide +kernel, rfl⟩
theorem dX8_then_84 : jm_d cX8_then 84 (.invokevirtual 222) 3 87 := ⟨by decide +kernel, rfl⟩
theorem dX8_then_87 : jm_d cX8_then 87 (.astore 4) 2 89 := ⟨by decide +kernel, rfl⟩
theorem dX8_then_89 : jm_d cX8_then 89 (.iload_n 2) 1 90 := ⟨by decide +kernel, rfl⟩
theorem dX8_then_90 : decode cX8_then 90 = .ok (.lookupswitch 45 #[(0, 26), (1, 34)], 26) := by decide +kernel
theorem dX8_then_116 : jm_d cX8_then 116 (.aload 4) 2 118 := ⟨by decide +kernel, rfl⟩
theorem dX8_then_118 : jm_d cX8_then 118 (.getfield 111) 3 121 := ⟨by decide +kernel, rfl⟩
theorem dX8_then_121 : jm_d cX8_then 121 (.iload_n 3) 1 122 := ⟨by decide +kernel, rfl⟩
theorem dX8_then_122 : jm_d cX8_then 122 (.iaload) 1 123 := ⟨by decide +kernel, rfl⟩
theorem dX8_then_123 : jm_d cX8_then 123 (.ireturn) 1 124 := ⟨by decide +kernel, rfl⟩
theorem dX8_then_124 : jm_d cX8_then 124 (.aload 4) 2 126 := ⟨by decide +kernel, rfl⟩
theorem dX8_then_126 : jm_d cX8_then 126 (.getfield 142) 3 129 := ⟨by decide +kernel, rfl⟩
theorem dX8_then_129 : jm_d cX8_then 129 (.iload_n 3) 1 130 := ⟨by decide +kernel, rfl⟩
theorem dX8_then_130 : jm_d cX8_then 130 (.iaload) 1 131 := ⟨by decide +kernel, rfl⟩
theorem dX8_then_131 : jm_d cX8_then 131 (.invokestatic 226) 3 134 := ⟨by decide +kernel, rfl⟩
theorem dX8_then_134 : jm_d cX8_then 134 (.ireturn) 1 135 := ⟨by decide +kernel, rfl⟩
theorem dX8_then_135 : jm_d cX8_then 135 (.aload 4) 2 137 := ⟨by decide +kernel, rfl⟩
theorem dX8_then_137 : jm_d cX8_then 137 (.getfield 123) 3 140 := ⟨by decide +kernel, rfl⟩
theorem dX8_then_140 : jm_d cX8_then 140 (.iload_n 3) 1 141 := ⟨by decide +kernel, rfl⟩
theorem dX8_then_141 : jm_d cX8_then 141 (.iaload) 1 142 := ⟨by decide +kernel, rfl⟩
theorem dX8_then_142 : jm_d cX8_then 142 (.ireturn) 1 143 := ⟨by decide +kernel, rfl⟩
theorem dX8_then_58 : jm_d cX8_then 58 (.aload_n 0) 1 59 := ⟨by decide +kernel, rfl⟩
theorem dX8_then_59 : jm_d cX8_then 59 (.getfield 10) 3 62 := ⟨by decide +kernel, rfl⟩
theorem dX8_then_62 : jm_d cX8_then 62 (.iload_n 3) 1 63 := ⟨by decide +kernel, rfl⟩
theorem dX8_then_63 : jm_d cX8_then 63 (.invokevirtual 133) 3 66 := ⟨by decide +kernel, rfl⟩
theorem dX8_then_66 : jm_b cX8_then 66 (.ifCond .ne) 69 75 := ⟨9, by decide +kernel, rfl, by decide⟩
theorem dX8_then_17 : jm_d cX8_then 17 (.aload_n 0) 1 18 := ⟨by decide +kernel, rfl⟩
theorem dX8_then_18 : jm_d cX8_then 18 (.bipush (-6)) 2 20 := ⟨by decide +kernel, rfl⟩
theorem dX8_then_20 : jm_d cX8_then 20 (.invokevirtual 64) 3 23 := ⟨by decide +kernel, rfl⟩
theorem dX8_then_23 : jm_d cX8_then 23 (.ireturn) 1 24 := ⟨by decide +kernel, rfl⟩
theorem dX8_then_4 : jm_d cX8_then 4 (.aload_n 0) 1 5 := ⟨by decide +kernel, rfl⟩
theorem dX8_then_5 : jm_d cX8_then 5 (.bipush (-4)) 2 7 := ⟨by decide +kernel, rfl⟩
theorem dX8_then_7 : jm_d cX8_then 7 (.invokevirtual 64) 3 10 := ⟨by decide +kernel, rfl⟩
theorem dX8_then_10 : jm_d cX8_then 10 (.ireturn) 1 11 := ⟨by decide +kernel, rfl⟩
set_option maxHeartbeats 4000000 in
set_option maxRecDepth 100000 in
theorem kW_then (E : jm_Ev) (hE : jm_dj E jm_LC) {M : jm_M} {p1 : Int32} {p2 : Int32} {p3 : Int32}  {r : Int32 × jm_M} (h : sW_then M p1 p2 p3 = some r) : jm_Ct E jm_LC yX8_then cX8_then 5 (some .int) 5 112 [.ref (jm_a E 0 0), .int p1, .int p2, .int p3] M (some (.int r.1)) r.2 := by
  refine jm_enter (lv := [some (.ref (jm_a E 0 0)), some (.int p1), some (.int p2), some (.int p3), none]) hE (by decide) (Nat.le_of_ble_eq_true rfl) rfl ?_
  intro z w F hz
  have G : jm_G w 0 [some (.ref (jm_a E 0 0)), some (.int p1), some (.int p2), some (.int p3), none] [] M (sW_then M p1 p2 p3) (fun e => z (some (.int e.1)) e.2) := by
    unfold sW_then
    refine jm_iload_n (i := 1) F dX8_then_0 rfl rfl ?_
    refine jm_if_ge F dX8_then_1 (fun c1 => ?_) (fun c1 => ?_)
    · refine jm_iload_n (i := 1) F dX8_then_11 rfl rfl ?_
      refine jm_bipush F dX8_then_12 kb_60 ?_
      refine jm_icmp_le F dX8_then_14 (fun c2 => ?_) (fun c2 => ?_)
      · refine jm_iload_n (i := 2) F dX8_then_24 rfl rfl ?_
        refine jm_if_lt F dX8_then_25 (fun c3 => ?_) (fun c3 => ?_)
        · refine jm_aload_n (i := 0) F dX8_then_33 rfl rfl ?_
          refine jm_bipush F dX8_then_34 kb_m2 ?_
          refine jm_callV (As := [.int (-2)]) (st := []) (rv := fun r => some (.int r.1)) (mm := fun r => r.2) F dX8_then_36 qX8_64 rfl lo_X8 rfl (fun r h => kW_refuse E hE h) rfl (Nat.le_of_ble_eq_true rfl) ⟨Nat.le_of_ble_eq_true rfl, Nat.le_of_ble_eq_true rfl⟩ (fun r4 => ?_)
          exact jm_iret F dX8_then_39 (fun h => h)
        · refine jm_iload_n (i := 2) F dX8_then_28 rfl rfl ?_
          refine jm_iconst F dX8_then_29 kc_2 ?_
          refine jm_icmp_le F dX8_then_30 (fun c5 => ?_) (fun c5 => ?_)
          · refine jm_iload_n (i := 2) F dX8_then_40 rfl rfl ?_
            refine jm_if_ne F dX8_then_41 (fun c6 => ?_) (fun c6 => ?_)
            · refine jm_aload_n (i := 0) F dX8_then_44 rfl rfl ?_
              refine jm_getR F dX8_then_45 fl_X8_10 lo_X8 rfl ?_
              refine jm_iload_n (i := 3) F dX8_then_48 rfl rfl ?_
              refine jm_callV (As := [.int p3]) (st := []) (rv := fun r => some (.int r)) (mm := fun _ => M) F dX8_then_49 qX8_108 rfl (lo_T isT_1) rfl (fun r h => kT_hasPerson E hE isT_1 h) rfl (Nat.le_of_ble_eq_true rfl) ⟨Nat.le_of_ble_eq_true rfl, Nat.le_of_ble_eq_true rfl⟩ (fun r7 => ?_)
              refine jm_if_ne F dX8_then_52 (fun c8 => ?_) (fun c8 => ?_)
              · refine jm_goto F dX8_then_55 ?_
                refine jm_aload_n (i := 0) F dX8_then_69 rfl rfl ?_
                refine jm_iconst F dX8_then_70 kc_m1 ?_
                refine jm_callV (As := [.int (-1)]) (st := []) (rv := fun r => some (.int r.1)) (mm := fun r => r.2) F dX8_then_71 qX8_64 rfl lo_X8 rfl (fun r h => kW_refuse E hE h) rfl (Nat.le_of_ble_eq_true rfl) ⟨Nat.le_of_ble_eq_true rfl, Nat.le_of_ble_eq_true rfl⟩ (fun r9 => ?_)
                exact jm_iret F dX8_then_74 (fun h => h)
              · refine jm_aload_n (i := 0) F dX8_then_75 rfl rfl ?_
                refine jm_getR F dX8_then_76 fl_X8_36 lo_X8 rfl ?_
                refine jm_aload_n (i := 0) F dX8_then_79 rfl rfl ?_
                refine jm_getR F dX8_then_80 fl_X8_10 lo_X8 rfl ?_
                refine jm_iload_n (i := 1) F dX8_then_83 rfl rfl ?_
                refine jm_callV (As := [.ref (jm_a E 1 0), .int p1]) (st := []) (rv := fun _ => some (.ref (jm_a E 4 0))) (mm := fun r => r) F dX8_then_84 qX8_222 rfl lo_X2 rfl (fun r h => kF_after E hE isT_1 h) rfl (Nat.le_of_ble_eq_true rfl) ⟨Nat.le_of_ble_eq_true rfl, Nat.le_of_ble_eq_true rfl⟩ (fun r10 => ?_)
                refine jm_astore (i := 4) (lv' := [some (.ref (jm_a E 0 0)), some (.int p1), some (.int p2), some (.int p3), some (.ref (jm_a E 4 0))]) F dX8_then_87 (by decide) rfl rfl ?_
                refine jm_iload_n (i := 2) F dX8_then_89 rfl rfl ?_
                refine jm_ite (fun c11 => ?_) (fun c11 => ?_)
                · refine jm_lsw (off := 26) (tgt := 116) F dX8_then_90 (by decide) (by rw [c11]; decide) (by decide) ?_
                  refine jm_aload F dX8_then_116 rfl ?_
                  refine jm_getR F dX8_then_118 fl_X8_111 (lo_T isT_4) rfl ?_
                  refine jm_iload_n (i := 3) F dX8_then_121 rfl rfl ?_
                  refine jm_iald F dX8_then_122 (la_T_2 isT_4) (fun v12 => ?_)
                  exact jm_iret F dX8_then_123 (fun h => h)
                · refine jm_ite (fun c13 => ?_) (fun c13 => ?_)
                  · refine jm_lsw (off := 34) (tgt := 124) F dX8_then_90 (by decide) (by rw [c13]; decide) (by decide) ?_
                    refine jm_aload F dX8_then_124 rfl ?_
                    refine jm_getR F dX8_then_126 fl_X8_142 (lo_T isT_4) rfl ?_
                    refine jm_iload_n (i := 3) F dX8_then_129 rfl rfl ?_
                    refine jm_iald F dX8_then_130 (la_T_10 isT_4) (fun v14 => ?_)
                    refine jm_callS (As := [.int v14]) (st := []) (rv := fun r => some (.int r)) (mm := fun _ => r10) F dX8_then_131 qX8_226 rfl (fun r h => kJ_bitCount E hE h) rfl (Nat.le_of_ble_eq_true rfl) ⟨Nat.le_of_ble_eq_true rfl, Nat.le_of_ble_eq_true rfl⟩ (fun r15 => ?_)
                    exact jm_iret F dX8_then_134 (fun h => h)
                  · refine jm_lsw (off := 45) (tgt := 135) F dX8_then_90 (by decide) ((lv_osw c11 (by decide)).trans ((lv_osw c13 (by decide)).trans rfl)) (by decide) ?_
                    refine jm_aload F dX8_then_135 rfl ?_
                    refine jm_getR F dX8_then_137 fl_X8_123 (lo_T isT_4) rfl ?_
                    refine jm_iload_n (i := 3) F dX8_then_140 rfl rfl ?_
                    refine jm_iald F dX8_then_141 (la_T_9 isT_4) (fun v16 => ?_)
                    exact jm_iret F dX8_then_142 (fun h => h)
            · refine jm_aload_n (i := 0) F dX8_then_58 rfl rfl ?_
              refine jm_getR F dX8_then_59 fl_X8_10 lo_X8 rfl ?_
              refine jm_iload_n (i := 3) F dX8_then_62 rfl rfl ?_
              refine jm_callV (As := [.int p3]) (st := []) (rv := fun r => some (.int r)) (mm := fun _ => M) F dX8_then_63 qX8_133 rfl (lo_T isT_1) rfl (fun r h => kT_hasBook E hE isT_1 h) rfl (Nat.le_of_ble_eq_true rfl) ⟨Nat.le_of_ble_eq_true rfl, Nat.le_of_ble_eq_true rfl⟩ (fun r17 => ?_)
              refine jm_if_ne F dX8_then_66 (fun c18 => ?_) (fun c18 => ?_)
              · refine jm_aload_n (i := 0) F dX8_then_69 rfl rfl ?_
                refine jm_iconst F dX8_then_70 kc_m1 ?_
                refine jm_callV (As := [.int (-1)]) (st := []) (rv := fun r => some (.int r.1)) (mm := fun r => r.2) F dX8_then_71 qX8_64 rfl lo_X8 rfl (fun r h => kW_refuse E hE h) rfl (Nat.le_of_ble_eq_true rfl) ⟨Nat.le_of_ble_eq_true rfl, Nat.le_of_ble_eq_true rfl⟩ (fun r19 => ?_)
                exact jm_iret F dX8_then_74 (fun h => h)
              · refine jm_aload_n (i := 0) F dX8_then_75 rfl rfl ?_
                refine jm_getR F dX8_then_76 fl_X8_36 lo_X8 rfl ?_
                refine jm_aload_n (i := 0) F dX8_then_79 rfl rfl ?_
                refine jm_getR F dX8_then_80 fl_X8_10 lo_X8 rfl ?_
                refine jm_iload_n (i := 1) F dX8_then_83 rfl rfl ?_
                refine jm_callV (As := [.ref (jm_a E 1 0), .int p1]) (st := []) (rv := fun _ => some (.ref (jm_a E 4 0))) (mm := fun r => r) F dX8_then_84 qX8_222 rfl lo_X2 rfl (fun r h => kF_after E hE isT_1 h) rfl (Nat.le_of_ble_eq_true rfl) ⟨Nat.le_of_ble_eq_true rfl, Nat.le_of_ble_eq_true rfl⟩ (fun r20 => ?_)
                refine jm_astore (i := 4) (lv' := [some (.ref (jm_a E 0 0)), some (.int p1), some (.int p2), some (.int p3), some (.ref (jm_a E 4 0))]) F dX8_then_87 (by decide) rfl rfl ?_
                refine jm_iload_n (i := 2) F dX8_then_89 rfl rfl ?_
                refine jm_ite (fun c21 => ?_) (fun c21 => ?_)
                · refine jm_lsw (off := 26) (tgt := 116) F dX8_then_90 (by decide) (by rw [c21]; decide) (by decide) ?_
                  refine jm_aload F dX8_then_116 rfl ?_
                  refine jm_getR F dX8_then_118 fl_X8_111 (lo_T isT_4) rfl ?_
                  refine jm_iload_n (i := 3) F dX8_then_121 rfl rfl ?_
                  refine jm_iald F dX8_then_122 (la_T_2 isT_4) (fun v22 => ?_)
                  exact jm_iret F dX8_then_123 (fun h => h)
                · refine jm_ite (fun c23 => ?_) (fun c23 => ?_)
                  · refine jm_lsw (off := 34) (tgt := 124) F dX8_then_90 (by decide) (by rw [c23]; decide) (by decide) ?_
                    refine jm_aload F dX8_then_124 rfl ?_
                    refine jm_getR F dX8_then_126 fl_X8_142 (lo_T isT_4) rfl ?_
                    refine jm_iload_n (i := 3) F dX8_then_129 rfl rfl ?_
                    refine jm_iald F dX8_then_130 (la_T_10 isT_4) (fun v24 => ?_)
                    refine jm_callS (As := [.int v24]) (st := []) (rv := fun r => some (.int r)) (mm := fun _ => r20) F dX8_then_131 qX8_226 rfl (fun r h => kJ_bitCount E hE h) rfl (Nat.le_of_ble_eq_true rfl) ⟨Nat.le_of_ble_eq_true rfl, Nat.le_of_ble_eq_true rfl⟩ (fun r25 => ?_)
                    exact jm_iret F dX8_then_134 (fun h => h)
                  · refine jm_lsw (off := 45) (tgt := 135) F dX8_then_90 (by decide) ((lv_osw c21 (by decide)).trans ((lv_osw c23 (by decide)).trans rfl)) (by decide) ?_
                    refine jm_aload F dX8_then_135 rfl ?_
                    refine jm_getR F dX8_then_137 fl_X8_123 (lo_T isT_4) rfl ?_
                    refine jm_iload_n (i := 3) F dX8_then_140 rfl rfl ?_
                    refine jm_iald F dX8_then_141 (la_T_9 isT_4) (fun v26 => ?_)
                    exact jm_iret F dX8_then_142 (fun h => h)
          · refine jm_aload_n (i := 0) F dX8_then_33 rfl rfl ?_
            refine jm_bipush F dX8_then_34 kb_m2 ?_
            refine jm_callV (As := [.int (-2)]) (st := []) (rv := fun r => some (.int r.1)) (mm := fun r => r.2) F dX8_then_36 qX8_64 rfl lo_X8 rfl (fun r h => kW_refuse E hE h) rfl (Nat.le_of_ble_eq_true rfl) ⟨Nat.le_of_ble_eq_true rfl, Nat.le_of_ble_eq_true rfl⟩ (fun r27 => ?_)
            exact jm_iret F dX8_then_39 (fun h => h)
      · refine jm_aload_n (i := 0) F dX8_then_17 rfl rfl ?_
        refine jm_bipush F dX8_then_18 kb_m6 ?_
        refine jm_callV (As := [.int (-6)]) (st := []) (rv := fun r => some (.int r.1)) (mm := fun r => r.2) F dX8_then_20 qX8_64 rfl lo_X8 rfl (fun r h => kW_refuse E hE h) rfl (Nat.le_of_ble_eq_true rfl) ⟨Nat.le_of_ble_eq_true rfl, Nat.le_of_ble_eq_true rfl⟩ (fun r28 => ?_)
        exact jm_iret F dX8_then_23 (fun h => h)
    · refine jm_aload_n (i := 0) F dX8_then_4 rfl rfl ?_
      refine jm_bipush F dX8_then_5 kb_m4 ?_
      refine jm_callV (As := [.int (-4)]) (st := []) (rv := fun r => some (.int r.1)) (mm := fun r => r.2) F dX8_then_7 qX8_64 rfl lo_X8 rfl (fun r h => kW_refuse E hE h) rfl (Nat.le_of_ble_eq_true rfl) ⟨Nat.le_of_ble_eq_true rfl, Nat.le_of_ble_eq_true rfl⟩ (fun r29 => ?_)
      exact jm_iret F dX8_then_10 (fun h => h)
  exact G r h hz
theorem dX2_weeksTillDown_0 : jm_d cX2_weeksTillDown 0 (.iconst 0) 1 1 := ⟨by decide +kernel, rfl⟩
theorem dX2_weeksTillDown_1 : jm_d cX2_weeksTillDown 1 (.istore 4) 2 3 := ⟨by decide +kernel, rfl⟩
theorem dX2_weeksTillDown_3 : jm_d cX2_weeksTillDown 3 (.iload 4) 2 5 := ⟨by decide +kernel, rfl⟩
theorem dX2_weeksTillDown_5 : jm_d cX2_weeksTillDown 5 (.iload_n 3) 1 6 := ⟨by decide +kernel, rfl⟩
theorem dX2_weeksTillDown_6 : jm_b cX2_weeksTillDown 6 (.if_icmp .gt) 9 38 := ⟨32, by decide +kernel, rfl, by decide⟩
theorem dX2_weeksTillDown_9 : jm_d cX2_weeksTillDown 9 (.aload_n 0) 1 10 := ⟨by decide +kernel, rfl⟩
theorem dX2_weeksTillDown_10 : jm_d cX2_weeksTillDown 10 (.getfield 12) 3 13 := ⟨by decide +kernel, rfl⟩
theorem dX2_weeksTillDown_13 : jm_d cX2_weeksTillDown 13 (.iload_n 1) 1 14 := ⟨by decide +kernel, rfl⟩
theorem dX2_weeksTillDown_14 : jm_d cX2_weeksTillDown 14 (.iload_n 2) 1 15 := ⟨by decide +kernel, rfl⟩
theorem dX2_weeksTillDown_15 : jm_d cX2_weeksTillDown 15 (.invokevirtual 40) 3 18 := ⟨by decide +kernel, rfl⟩
theorem dX2_weeksTillDown_18 : jm_b cX2_weeksTillDown 18 (.ifCond .eq) 21 24 := ⟨6, by decide +kernel, rfl, by decide⟩
theorem dX2_weeksTillDown_24 : jm_d cX2_weeksTillDown 24 (.aload_n 0) 1 25 := ⟨by decide +kernel, rfl⟩
theorem dX2_weeksTillDown_25 : jm_d cX2_weeksTillDown 25 (.getfield 12) 3 28 := ⟨by decide +kernel, rfl⟩
theorem dX2_weeksTillDown_28 : jm_d cX2_weeksTillDown 28 (.iconst 1) 1 29 := ⟨by decide +kernel, rfl⟩
theorem dX2_weeksTillDown_29 : jm_d cX2_weeksTillDown 29 (.invokevirtual 44) 3 32 := ⟨by decide +kernel, rfl⟩
theorem dX2_weeksTillDown_32 : jm_d cX2_weeksTillDown 32 (.iinc 4 1) 3 35 := ⟨by decide +kernel, rfl⟩
theorem dX2_weeksTillDown_35 : jm_b cX2_weeksTillDown 35 .goto 38 3 := ⟨(-32), by decide +kernel, rfl, by decide⟩
theorem dX2_weeksTillDown_21 : jm_d cX2_weeksTillDown 21 (.iload 4) 2 23 := ⟨by decide +kernel, rfl⟩
theorem dX2_weeksTillDown_23 : jm_d cX2_weeksTillDown 23 (.ireturn) 1 24 := ⟨by decide +kernel, rfl⟩
theorem dX2_weeksTillDown_38 : jm_d cX2_weeksTillDown 38 (.bipush (-9)) 2 40 := ⟨by decide +kernel, rfl⟩
theorem dX2_weeksTillDown_40 : jm_d cX2_weeksTillDown 40 (.ireturn) 1 41 := ⟨by decide +kernel, rfl⟩
set_option maxHeartbeats 4000000 in
set_option maxRecDepth 100000 in
theorem kF_weeksTillDown (E : jm_Ev) (hE : jm_dj E jm_LC) {M : jm_M} {p1 : Int32} {p2 : Int32} {p3 : Int32}  {r : Int32 × jm_M} (h : sF_weeksTillDown M p1 p2 p3 = some r) : jm_Ct E jm_LC yX2_weeksTillDown cX2_weeksTillDown 5 (some .int) 5 139 [.ref (jm_a E 15 0), .int p1, .int p2, .int p3] M (some (.int r.1)) r.2 := by
  refine jm_enter (lv := [some (.ref (jm_a E 15 0)), some (.int p1), some (.int p2), some (.int p3), none]) hE (by decide) (Nat.le_of_ble_eq_true rfl) rfl ?_
  intro z w F hz
  have G : jm_G w 0 [some (.ref (jm_a E 15 0)), some (.int p1), some (.int p2), some (.int p3), none] [] M (sF_weeksTillDown M p1 p2 p3) (fun e => z (some (.int e.1)) e.2) := by
    unfold sF_weeksTillDown
    refine jm_iconst F dX2_weeksTillDown_0 kc_0 ?_
    refine jm_istore (i := 4) (lv' := [some (.ref (jm_a E 15 0)), some (.int p1), some (.int p2), some (.int p3), some (.int 0)]) F dX2_weeksTillDown_1 (by decide) rfl rfl ?_
    refine jm_bindS (pcJ := 38) (lvJ := fun e6 => [none, none, none, none, none]) (stJ := fun _ => []) (MJ := fun e6 => e6) ?_ (fun e6 => ?_)
    · refine jm_weak F (lv' := [some (.ref (jm_a E 15 0)), some (.int p1), some (.int p2), some (.int p3), some (.int 0)]) ⟨rfl, rfl, rfl, rfl, rfl, trivial⟩ ?_
      refine jm_loopR (lvH := fun s1 => [some (.ref (jm_a E 15 0)), some (.int p1), some (.int p2), some (.int p3), some (.int s1.1)]) (MH := fun s1 => s1.2) (fun s1 => ?_) jm_N (0, M)
      unfold sF_weeksTillDown_L3
      refine jm_iload F dX2_weeksTillDown_3 rfl ?_
      refine jm_iload_n (i := 3) F dX2_weeksTillDown_5 rfl rfl ?_
      refine jm_icmp_gt F dX2_weeksTillDown_6 (fun c2 => ?_) (fun c2 => ?_)
      · exact jm_weakD F (lv' := [none, none, none, none, none]) trivial (fun h => h)
      · refine jm_aload_n (i := 0) F dX2_weeksTillDown_9 rfl rfl ?_
        refine jm_getR F dX2_weeksTillDown_10 fl_X2_12 lo_X2 rfl ?_
        refine jm_iload_n (i := 1) F dX2_weeksTillDown_13 rfl rfl ?_
        refine jm_iload_n (i := 2) F dX2_weeksTillDown_14 rfl rfl ?_
        refine jm_callV (As := [.int p1, .int p2]) (st := []) (rv := fun r => some (.int r)) (mm := fun _ => s1.2) F dX2_weeksTillDown_15 qX2_40 rfl (lo_T isT_4) rfl (fun r h => kT_comesDown E hE isT_4 h) rfl (Nat.le_of_ble_eq_true rfl) ⟨Nat.le_of_ble_eq_true rfl, Nat.le_of_ble_eq_true rfl⟩ (fun r3 => ?_)
        refine jm_if_eq F dX2_weeksTillDown_18 (fun c4 => ?_) (fun c4 => ?_)
        · refine jm_aload_n (i := 0) F dX2_weeksTillDown_24 rfl rfl ?_
          refine jm_getR F dX2_weeksTillDown_25 fl_X2_12 lo_X2 rfl ?_
          refine jm_iconst F dX2_weeksTillDown_28 kc_1 ?_
          refine jm_callV (As := [.int 1]) (st := []) (rv := fun _ => none) (mm := fun r => r) F dX2_weeksTillDown_29 qX2_44 rfl (lo_T isT_4) rfl (fun r h => kT_weekPasses E hE isT_4 h) rfl (Nat.le_of_ble_eq_true rfl) ⟨Nat.le_of_ble_eq_true rfl, Nat.le_of_ble_eq_true rfl⟩ (fun r5 => ?_)
          refine jm_iinc (i := 4) (lv' := [some (.ref (jm_a E 15 0)), some (.int p1), some (.int p2), some (.int p3), some (.int (s1.1 + 1))]) F dX2_weeksTillDown_32 kc_1 rfl (by decide) rfl rfl ?_
          refine jm_goto F dX2_weeksTillDown_35 ?_
          exact jm_weakD F (lv' := [some (.ref (jm_a E 15 0)), some (.int p1), some (.int p2), some (.int p3), some (.int (s1.1 + 1))]) ⟨rfl, rfl, rfl, rfl, rfl, trivial⟩ (fun h => h)
        · refine jm_iload F dX2_weeksTillDown_21 rfl ?_
          exact jm_iret F dX2_weeksTillDown_23 (fun h => h)
    · refine jm_bipush F dX2_weeksTillDown_38 kb_m9 ?_
      exact jm_iret F dX2_weeksTillDown_40 (fun h => h)
  exact G r h hz
theorem dX2_whenDown_0 : jm_d cX2_whenDown 0 (.aload_n 0) 1 1 := ⟨by decide +kernel, rfl⟩
theorem dX2_whenDown_1 : jm_d cX2_whenDown 1 (.aload_n 1) 1 2 := ⟨by decide +kernel, rfl⟩
theorem dX2_whenDown_2 : jm_d cX2_whenDown 2 (.invokevirtual 29) 3 5 := ⟨by decide +kernel, rfl⟩
theorem dX2_whenDown_5 : jm_d cX2_whenDown 5 (.aload_n 0) 1 6 := ⟨by decide +kernel, rfl⟩
theorem dX2_whenDown_6 : jm_d cX2_whenDown 6 (.iload_n 2) 1 7 := ⟨by decide +kernel, rfl⟩
theorem dX2_whenDown_7 : jm_d cX2_whenDown 7 (.iload_n 3) 1 8 := ⟨by decide +kernel, rfl⟩
theorem dX2_whenDown_8 : jm_d cX2_whenDown 8 (.bipush 60) 2 10 := ⟨by decide +kernel, rfl⟩
theorem dX2_whenDown_10 : jm_d cX2_whenDown 10 (.invokevirtual 36) 3 13 := ⟨by decide +kernel, rfl⟩
theorem dX2_whenDown_13 : jm_d cX2_whenDown 13 (.ireturn) 1 14 := ⟨by decide +kernel, rfl⟩
set_option maxHeartbeats 4000000 in
set_option maxRecDepth 100000 in
theorem kF_whenDown (E : jm_Ev) (hE : jm_dj E jm_LC) {M : jm_M} {p1 : Nat} {p2 : Int32} {p3 : Int32} (hp1 : jm_isT p1) {r : Int32 × jm_M} (h : sF_whenDown M p1 p2 p3 = some r) : jm_Ct E jm_LC yX2_whenDown cX2_whenDown 4 (some .int) 6 163 [.ref (jm_a E 15 0), .ref (jm_a E p1 0), .int p2, .int p3] M (some (.int r.1)) r.2 := by
  refine jm_enter (lv := [some (.ref (jm_a E 15 0)), some (.ref (jm_a E p1 0)), some (.int p2), some (.int p3)]) hE (by decide) (Nat.le_of_ble_eq_true rfl) rfl ?_
  intro z w F hz
  have G : jm_G w 0 [some (.ref (jm_a E 15 0)), some (.ref (jm_a E p1 0)), some (.int p2), some (.int p3)] [] M (sF_whenDown M p1 p2 p3) (fun e => z (some (.int e.1)) e.2) := by
    unfold sF_whenDown
    refine jm_aload_n (i := 0) F dX2_whenDown_0 rfl rfl ?_
    refine jm_aload_n (i := 1) F dX2_whenDown_1 rfl rfl ?_
    refine jm_callV (As := [.ref (jm_a E p1 0)]) (st := []) (rv := fun _ => none) (mm := fun r => r) F dX2_whenDown_2 qX2_29 rfl lo_X2 rfl (fun r h => kF_think E hE hp1 h) rfl (Nat.le_of_ble_eq_true rfl) ⟨Nat.le_of_ble_eq_true rfl, Nat.le_of_ble_eq_true rfl⟩ (fun r1 => ?_)
    refine jm_aload_n (i := 0) F dX2_whenDown_5 rfl rfl ?_
    refine jm_iload_n (i := 2) F dX2_whenDown_6 rfl rfl ?_
    refine jm_iload_n (i := 3) F dX2_whenDown_7 rfl rfl ?_
    refine jm_bipush F dX2_whenDown_8 kb_60 ?_
    refine jm_callV (As := [.int p2, .int p3, .int 60]) (st := []) (rv := fun r => some (.int r.1)) (mm := fun r => r.2) F dX2_whenDown_10 qX2_36 rfl lo_X2 rfl (fun r h => kF_weeksTillDown E hE h) rfl (Nat.le_of_ble_eq_true rfl) ⟨Nat.le_of_ble_eq_true rfl, Nat.le_of_ble_eq_true rfl⟩ (fun r2 => ?_)
    exact jm_iret F dX2_whenDown_13 (fun h => h)
  exact G r h hz
theorem dX8_when_0 : jm_d cX8_when 0 (.aload_n 0) 1 1 := ⟨by decide +kernel, rfl⟩
theorem dX8_when_1 : jm_d cX8_when 1 (.iload_n 1) 1 2 := ⟨by decide +kernel, rfl⟩
theorem dX8_when_2 : jm_d cX8_when 2 (.iload_n 2) 1 3 := ⟨by decide +kernel, rfl⟩
theorem dX8_when_3 : jm_d cX8_when 3 (.invokevirtual 188) 3 6 := ⟨by decide +kernel, rfl⟩
theorem dX8_when_6 : jm_b cX8_when 6 (.ifCond .ne) 9 15 := ⟨9, by decide +kernel, rfl, by decide⟩
theorem dX8_when_9 : jm_d cX8_when 9 (.aload_n 0) 1 10 := ⟨by decide +kernel, rfl⟩
theorem dX8_when_10 : jm_d cX8_when 10 (.iconst (-1)) 1 11 := ⟨by decide +kernel, rfl⟩
theorem dX8_when_11 : jm_d cX8_when 11 (.invokevirtual 64) 3 14 := ⟨by decide +kernel, rfl⟩
theorem dX8_when_14 : jm_d cX8_when 14 (.ireturn) 1 15 := ⟨by decide +kernel, rfl⟩
theorem dX8_when_15 : jm_d cX8_when 15 (.aload_n 0) 1 16 := ⟨by decide +kernel, rfl⟩
theorem dX8_when_16 : jm_d cX8_when 16 (.getfield 36) 3 19 := ⟨by decide +kernel, rfl⟩
theorem dX8_when_19 : jm_d cX8_when 19 (.aload_n 0) 1 20 := ⟨by decide +kernel, rfl⟩
theorem dX8_when_20 : jm_d cX8_when 20 (.getfield 10) 3 23 := ⟨by decide +kernel, rfl⟩
theorem dX8_when_23 : jm_d cX8_when 23 (.iload_n 1) 1 24 := ⟨by decide +kernel, rfl⟩
theorem dX8_when_24 : jm_d cX8_when 24 (.iload_n 2) 1 25 := ⟨by decide +kernel, rfl⟩
theorem dX8_when_25 : jm_d cX8_when 25 (.invokevirtual 231) 3 28 := ⟨by decide +kernel, rfl⟩
theorem dX8_when_28 : jm_d cX8_when 28 (.ireturn) 1 29 := ⟨by decide +kernel, rfl⟩
set_option maxHeartbeats 4000000 in
set_option maxRecDepth 100000 in
theorem kW_when (E : jm_Ev) (hE : jm_dj E jm_LC) {M : jm_M} {p1 : Int32} {p2 : Int32}  {r : Int32 × jm_M} (h : sW_when M p1 p2 = some r) : jm_Ct E jm_LC yX8_when cX8_when 3 (some .int) 7 186 [.ref (jm_a E 0 0), .int p1, .int p2] M (some (.int r.1)) r.2 := by
  refine jm_enter (lv := [some (.ref (jm_a E 0 0)), some (.int p1), some (.int p2)]) hE (by decide) (Nat.le_of_ble_eq_true rfl) rfl ?_
  intro z w F hz
  have G : jm_G w 0 [some (.ref (jm_a E 0 0)), some (.int p1), some (.int p2)] [] M (sW_when M p1 p2) (fun e => z (some (.int e.1)) e.2) := by
    unfold sW_when
    refine jm_aload_n (i := 0) F dX8_when_0 rfl rfl ?_
    refine jm_iload_n (i := 1) F dX8_when_1 rfl rfl ?_
    refine jm_iload_n (i := 2) F dX8_when_2 rfl rfl ?_
    refine jm_callV (As := [.int p1, .int p2]) (st := []) (rv := fun r => some (.int r)) (mm := fun _ => M) F dX8_when_3 qX8_188 rfl lo_X8 rfl (fun r h => kW_areTwo E hE h) rfl (Nat.le_of_ble_eq_true rfl) ⟨Nat.le_of_ble_eq_true rfl, Nat.le_of_ble_eq_true rfl⟩ (fun r1 => ?_)
    refine jm_if_ne F dX8_when_6 (fun c2 => ?_) (fun c2 => ?_)
    · refine jm_aload_n (i := 0) F dX8_when_9 rfl rfl ?_
      refine jm_iconst F dX8_when_10 kc_m1 ?_
      refine jm_callV (As := [.int (-1)]) (st := []) (rv := fun r => some (.int r.1)) (mm := fun r => r.2) F dX8_when_11 qX8_64 rfl lo_X8 rfl (fun r h => kW_refuse E hE h) rfl (Nat.le_of_ble_eq_true rfl) ⟨Nat.le_of_ble_eq_true rfl, Nat.le_of_ble_eq_true rfl⟩ (fun r3 => ?_)
      exact jm_iret F dX8_when_14 (fun h => h)
    · refine jm_aload_n (i := 0) F dX8_when_15 rfl rfl ?_
      refine jm_getR F dX8_when_16 fl_X8_36 lo_X8 rfl ?_
      refine jm_aload_n (i := 0) F dX8_when_19 rfl rfl ?_
      refine jm_getR F dX8_when_20 fl_X8_10 lo_X8 rfl ?_
      refine jm_iload_n (i := 1) F dX8_when_23 rfl rfl ?_
      refine jm_iload_n (i := 2) F dX8_when_24 rfl rfl ?_
      refine jm_callV (As := [.ref (jm_a E 1 0), .int p1, .int p2]) (st := []) (rv := fun r => some (.int r.1)) (mm := fun r => r.2) F dX8_when_25 qX8_231 rfl lo_X2 rfl (fun r h => kF_whenDown E hE isT_1 h) rfl (Nat.le_of_ble_eq_true rfl) ⟨Nat.le_of_ble_eq_true rfl, Nat.le_of_ble_eq_true rfl⟩ (fun r4 => ?_)
      exact jm_iret F dX8_when_28 (fun h => h)
  exact G r h hz
theorem dX2_firstFreshlyDown_0 : jm_d cX2_firstFreshlyDown 0 (.iconst 0) 1 1 := ⟨by decide +kernel, rfl⟩
theorem dX2_firstFreshlyDown_1 : jm_d cX2_firstFreshlyDown 1 (.istore_n 2) 1 2 := ⟨by decide +kernel, rfl⟩
theorem dX2_firstFreshlyDown_2 : jm_d cX2_firstFreshlyDown 2 (.iload_n 2) 1 3 := ⟨by decide +kernel, rfl⟩
theorem dX2_firstFreshlyDown_3 : jm_d cX2_firstFreshlyDown 3 (.aload_n 1) 1 4 := ⟨by decide +kernel, rfl⟩
theorem dX2_firstFreshlyDown_4 : jm_d cX2_firstFreshlyDown 4 (.getfield 52) 3 7 := ⟨by decide +kernel, rfl⟩
theorem dX2_firstFreshlyDown_7 : jm_b cX2_firstFreshlyDown 7 (.if_icmp .ge) 10 62 := ⟨55, by decide +kernel, rfl, by decide⟩
theorem dX2_firstFreshlyDown_10 : jm_d cX2_firstFreshlyDown 10 (.iload_n 2) 1 11 := ⟨by decide +kernel, rfl⟩
theorem dX2_firstFreshlyDown_11 : jm_d cX2_firstFreshlyDown 11 (.iconst 1) 1 12 := ⟨by decide +kernel, rfl⟩
theorem dX2_firstFreshlyDown_12 : jm_d cX2_firstFreshlyDown 12 (.iadd) 1 13 := ⟨by decide +kernel, rfl⟩
theorem dX2_firstFreshlyDown_13 : jm_d cX2_firstFreshlyDown 13 (.istore_n 3) 1 14 := ⟨by decide +kernel, rfl⟩
theorem dX2_firstFreshlyDown_14 : jm_d cX2_firstFreshlyDown 14 (.iload_n 3) 1 15 := ⟨by decide +kernel, rfl⟩
theorem dX2_firstFreshlyDown_15 : jm_d cX2_firstFreshlyDown 15 (.aload_n 1) 1 16 := ⟨by decide +kernel, rfl⟩
theorem dX2_firstFreshlyDown_16 : jm_d cX2_firstFreshlyDown 16 (.getfield 52) 3 19 := ⟨by decide +kernel, rfl⟩
theorem dX2_firstFreshlyDown_19 : jm_b cX2_firstFreshlyDown 19 (.if_icmp .ge) 22 56 := ⟨37, by decide +kernel, rfl, by decide⟩
theorem dX2_firstFreshlyDown_22 : jm_d cX2_firstFreshlyDown 22 (.aload_n 0) 1 23 := ⟨by decide +kernel, rfl⟩
theorem dX2_firstFreshlyDown_23 : jm_d cX2_firstFreshlyDown 23 (.getfield 12) 3 26 := ⟨by decide +kernel, rfl⟩
theorem dX2_firstFreshlyDown_26 : jm_d cX2_firstFreshlyDown 26 (.iload_n 2) 1 27 := ⟨by decide +kernel, rfl⟩
theorem dX2_firstFreshlyDown_27 : jm_d cX2_firstFreshlyDown 27 (.iload_n 3) 1 28 := ⟨by decide +kernel, rfl⟩
theorem dX2_firstFreshlyDown_28 : jm_d cX2_firstFreshlyDown 28 (.invokevirtual 40) 3 31 := ⟨by decide +kernel, rfl⟩
theorem dX2_firstFreshlyDown_31 : jm_b cX2_firstFreshlyDown 31 (.ifCond .eq) 34 50 := ⟨19, by decide +kernel, rfl, by decide⟩
theorem dX2_firstFreshlyDown_50 : jm_d cX2_firstFreshlyDown 50 (.iinc 3 1) 3 53 := ⟨by decide +kernel, rfl⟩
theorem dX2_firstFreshlyDown_53 : jm_b cX2_firstFreshlyDown 53 .goto 56 14 := ⟨(-39), by decide +kernel, rfl, by decide⟩
theorem dX2_firstFreshlyDown_34 : jm_d cX2_firstFreshlyDown 34 (.aload_n 1) 1 35 := ⟨by decide +kernel, rfl⟩
theorem dX2_firstFreshlyDown_35 : jm_d cX2_firstFreshlyDown 35 (.iload_n 2) 1 36 := ⟨by decide +kernel, rfl⟩
theorem dX2_firstFreshlyDown_36 : jm_d cX2_firstFreshlyDown 36 (.iload_n 3) 1 37 := ⟨by decide +kernel, rfl⟩
theorem dX2_firstFreshlyDown_37 : jm_d cX2_firstFreshlyDown 37 (.invokevirtual 40) 3 40 := ⟨by decide +kernel, rfl⟩
theorem dX2_firstFreshlyDown_40 : jm_b cX2_firstFreshlyDown 40 (.ifCond .ne) 43 50 := ⟨10, by decide +kernel, rfl, by decide⟩
theorem dX2_firstFreshlyDown_43 : jm_d cX2_firstFreshlyDown 43 (.bipush 10) 2 45 := ⟨by decide +kernel, rfl⟩
theorem dX2_firstFreshlyDown_45 : jm_d cX2_firstFreshlyDown 45 (.iload_n 2) 1 46 := ⟨by decide +kernel, rfl⟩
theorem dX2_firstFreshlyDown_46 : jm_d cX2_firstFreshlyDown 46 (.imul) 1 47 := ⟨by decide +kernel, rfl⟩
theorem dX2_firstFreshlyDown_47 : jm_d cX2_firstFreshlyDown 47 (.iload_n 3) 1 48 := ⟨by decide +kernel, rfl⟩
theorem dX2_firstFreshlyDown_48 : jm_d cX2_firstFreshlyDown 48 (.iadd) 1 49 := ⟨by decide +kernel, rfl⟩
theorem dX2_firstFreshlyDown_49 : jm_d cX2_firstFreshlyDown 49 (.ireturn) 1 50 := ⟨by decide +kernel, rfl⟩
theorem dX2_firstFreshlyDown_56 : jm_d cX2_firstFreshlyDown 56 (.iinc 2 1) 3 59 := ⟨by decide +kernel, rfl⟩
theorem dX2_firstFreshlyDown_59 : jm_b cX2_firstFreshlyDown 59 .goto 62 2 := ⟨(-57), by decide +kernel, rfl, by decide⟩
theorem dX2_firstFreshlyDown_62 : jm_d cX2_firstFreshlyDown 62 (.bipush (-9)) 2 64 := ⟨by decide +kernel, rfl⟩
theorem dX2_firstFreshlyDown_64 : jm_d cX2_firstFreshlyDown 64 (.ireturn) 1 65 := ⟨by decide +kernel, rfl⟩
set_option maxHeartbeats 4000000 in
set_option maxRecDepth 100000 in
theorem kF_firstFreshlyDown (E : jm_Ev) (hE : jm_dj E jm_LC) {M : jm_M} {p1 : Nat} (hp1 : jm_isT p1) {r : Int32} (h : sF_firstFreshlyDown M p1 = some r) : jm_Ct E jm_LC yX2_firstFreshlyDown cX2_firstFreshlyDown 4 (some .int) 5 139 [.ref (jm_a E 15 0), .ref (jm_a E p1 0)] M (some (.int r)) M := by
  refine jm_enter (lv := [some (.ref (jm_a E 15 0)), some (.ref (jm_a E p1 0)), none, none]) hE (by decide) (Nat.le_of_ble_eq_true rfl) rfl ?_
  intro z w F hz
  have G : jm_G w 0 [some (.ref (jm_a E 15 0)), some (.ref (jm_a E p1 0)), none, none] [] M (sF_firstFreshlyDown M p1) (fun e => z (some (.int e)) M) := by
    unfold sF_firstFreshlyDown
    refine jm_iconst F dX2_firstFreshlyDown_0 kc_0 ?_
    refine jm_istore_n (i := 2) (lv' := [some (.ref (jm_a E 15 0)), some (.ref (jm_a E p1 0)), some (.int 0), none]) F dX2_firstFreshlyDown_1 rfl (by decide) rfl rfl ?_
    refine jm_bindS (pcJ := 62) (lvJ := fun e11 => [none, none, none, none]) (stJ := fun _ => []) (MJ := fun e11 => M) ?_ (fun e11 => ?_)
    · refine jm_weak F (lv' := [some (.ref (jm_a E 15 0)), some (.ref (jm_a E p1 0)), some (.int 0), none]) ⟨rfl, rfl, rfl, trivial⟩ ?_
      refine jm_loopR (lvH := fun s1 => [some (.ref (jm_a E 15 0)), some (.ref (jm_a E p1 0)), some (.int s1), none]) (MH := fun s1 => M) (fun s1 => ?_) jm_N 0
      unfold sF_firstFreshlyDown_L2
      refine jm_iload_n (i := 2) F dX2_firstFreshlyDown_2 rfl rfl ?_
      refine jm_aload_n (i := 1) F dX2_firstFreshlyDown_3 rfl rfl ?_
      refine jm_getI F dX2_firstFreshlyDown_4 fl_X2_52 (lo_T hp1) rfl ?_
      refine jm_icmp_ge F dX2_firstFreshlyDown_7 (fun c2 => ?_) (fun c2 => ?_)
      · exact jm_weakD F (lv' := [none, none, none, none]) trivial (fun h => h)
      · refine jm_iload_n (i := 2) F dX2_firstFreshlyDown_10 rfl rfl ?_
        refine jm_iconst F dX2_firstFreshlyDown_11 kc_1 ?_
        refine jm_iadd F dX2_firstFreshlyDown_12 ?_
        refine jm_nameI (f := fun x3 => [.int x3]) (fun x3 => ?_) rfl
        refine jm_istore_n (i := 3) (lv' := [some (.ref (jm_a E 15 0)), some (.ref (jm_a E p1 0)), some (.int s1), some (.int x3)]) F dX2_firstFreshlyDown_13 rfl (by decide) rfl rfl ?_
        refine jm_bindS (pcJ := 56) (lvJ := fun e10 => [some (.ref (jm_a E 15 0)), some (.ref (jm_a E p1 0)), some (.int s1), none]) (stJ := fun _ => []) (MJ := fun e10 => M) ?_ (fun e10 => ?_)
        · refine jm_weak F (lv' := [some (.ref (jm_a E 15 0)), some (.ref (jm_a E p1 0)), some (.int s1), some (.int x3)]) ⟨rfl, rfl, rfl, rfl, trivial⟩ ?_
          refine jm_loopR (lvH := fun s4 => [some (.ref (jm_a E 15 0)), some (.ref (jm_a E p1 0)), some (.int s1), some (.int s4)]) (MH := fun s4 => M) (fun s4 => ?_) jm_N x3
          unfold sF_firstFreshlyDown_L14
          refine jm_iload_n (i := 3) F dX2_firstFreshlyDown_14 rfl rfl ?_
          refine jm_aload_n (i := 1) F dX2_firstFreshlyDown_15 rfl rfl ?_
          refine jm_getI F dX2_firstFreshlyDown_16 fl_X2_52 (lo_T hp1) rfl ?_
          refine jm_icmp_ge F dX2_firstFreshlyDown_19 (fun c5 => ?_) (fun c5 => ?_)
          · exact jm_weakD F (lv' := [some (.ref (jm_a E 15 0)), some (.ref (jm_a E p1 0)), some (.int s1), none]) ⟨rfl, rfl, rfl, trivial⟩ (fun h => h)
          · refine jm_aload_n (i := 0) F dX2_firstFreshlyDown_22 rfl rfl ?_
            refine jm_getR F dX2_firstFreshlyDown_23 fl_X2_12 lo_X2 rfl ?_
            refine jm_iload_n (i := 2) F dX2_firstFreshlyDown_26 rfl rfl ?_
            refine jm_iload_n (i := 3) F dX2_firstFreshlyDown_27 rfl rfl ?_
            refine jm_callV (As := [.int s1, .int s4]) (st := []) (rv := fun r => some (.int r)) (mm := fun _ => M) F dX2_firstFreshlyDown_28 qX2_40 rfl (lo_T isT_4) rfl (fun r h => kT_comesDown E hE isT_4 h) rfl (Nat.le_of_ble_eq_true rfl) ⟨Nat.le_of_ble_eq_true rfl, Nat.le_of_ble_eq_true rfl⟩ (fun r6 => ?_)
            refine jm_if_eq F dX2_firstFreshlyDown_31 (fun c7 => ?_) (fun c7 => ?_)
            · refine jm_iinc (i := 3) (lv' := [some (.ref (jm_a E 15 0)), some (.ref (jm_a E p1 0)), some (.int s1), some (.int (s4 + 1))]) F dX2_firstFreshlyDown_50 kc_1 rfl (by decide) rfl rfl ?_
              refine jm_goto F dX2_firstFreshlyDown_53 ?_
              exact jm_weakD F (lv' := [some (.ref (jm_a E 15 0)), some (.ref (jm_a E p1 0)), some (.int s1), some (.int (s4 + 1))]) ⟨rfl, rfl, rfl, rfl, trivial⟩ (fun h => h)
            · refine jm_aload_n (i := 1) F dX2_firstFreshlyDown_34 rfl rfl ?_
              refine jm_iload_n (i := 2) F dX2_firstFreshlyDown_35 rfl rfl ?_
              refine jm_iload_n (i := 3) F dX2_firstFreshlyDown_36 rfl rfl ?_
              refine jm_callV (As := [.int s1, .int s4]) (st := []) (rv := fun r => some (.int r)) (mm := fun _ => M) F dX2_firstFreshlyDown_37 qX2_40 rfl (lo_T hp1) rfl (fun r h => kT_comesDown E hE hp1 h) rfl (Nat.le_of_ble_eq_true rfl) ⟨Nat.le_of_ble_eq_true rfl, Nat.le_of_ble_eq_true rfl⟩ (fun r8 => ?_)
              refine jm_if_ne F dX2_firstFreshlyDown_40 (fun c9 => ?_) (fun c9 => ?_)
              · refine jm_bipush F dX2_firstFreshlyDown_43 kb_10 ?_
                refine jm_iload_n (i := 2) F dX2_firstFreshlyDown_45 rfl rfl ?_
                refine jm_imul F dX2_firstFreshlyDown_46 ?_
                refine jm_iload_n (i := 3) F dX2_firstFreshlyDown_47 rfl rfl ?_
                refine jm_iadd F dX2_firstFreshlyDown_48 ?_
                exact jm_iret F dX2_firstFreshlyDown_49 (fun h => h)
              · refine jm_iinc (i := 3) (lv' := [some (.ref (jm_a E 15 0)), some (.ref (jm_a E p1 0)), some (.int s1), some (.int (s4 + 1))]) F dX2_firstFreshlyDown_50 kc_1 rfl (by decide) rfl rfl ?_
                refine jm_goto F dX2_firstFreshlyDown_53 ?_
                exact jm_weakD F (lv' := [some (.ref (jm_a E 15 0)), some (.ref (jm_a E p1 0)), some (.int s1), some (.int (s4 + 1))]) ⟨rfl, rfl, rfl, rfl, trivial⟩ (fun h => h)
        · refine jm_iinc (i := 2) (lv' := [some (.ref (jm_a E 15 0)), some (.ref (jm_a E p1 0)), some (.int (s1 + 1)), none]) F dX2_firstFreshlyDown_56 kc_1 rfl (by decide) rfl rfl ?_
          refine jm_goto F dX2_firstFreshlyDown_59 ?_
          exact jm_weakD F (lv' := [some (.ref (jm_a E 15 0)), some (.ref (jm_a E p1 0)), some (.int (s1 + 1)), none]) ⟨rfl, rfl, rfl, trivial⟩ (fun h => h)
    · refine jm_bipush F dX2_firstFreshlyDown_62 kb_m9 ?_
      exact jm_iret F dX2_firstFreshlyDown_64 (fun h => h)
  exact G r h hz
theorem dX2_firstDown_0 : jm_d cX2_firstDown 0 (.aload_n 0) 1 1 := ⟨by decide +kernel, rfl⟩
theorem dX2_firstDown_1 : jm_d cX2_firstDown 1 (.aload_n 1) 1 2 := ⟨by decide +kernel, rfl⟩
theorem dX2_firstDown_2 : jm_d cX2_firstDown 2 (.invokevirtual 29) 3 5 := ⟨by decide +kernel, rfl⟩
theorem dX2_firstDown_5 : jm_d cX2_firstDown 5 (.iconst 0) 1 6 := ⟨by decide +kernel, rfl⟩
theorem dX2_firstDown_6 : jm_d cX2_firstDown 6 (.istore_n 2) 1 7 := ⟨by decide +kernel, rfl⟩
theorem dX2_firstDown_7 : jm_d cX2_firstDown 7 (.iload_n 2) 1 8 := ⟨by decide +kernel, rfl⟩
theorem dX2_firstDown_8 : jm_d cX2_firstDown 8 (.bipush 60) 2 10 := ⟨by decide +kernel, rfl⟩
theorem dX2_firstDown_10 : jm_b cX2_firstDown 10 (.if_icmp .ge) 13 41 := ⟨31, by decide +kernel, rfl, by decide⟩
theorem dX2_firstDown_13 : jm_d cX2_firstDown 13 (.aload_n 0) 1 14 := ⟨by decide +kernel, rfl⟩
theorem dX2_firstDown_14 : jm_d cX2_firstDown 14 (.getfield 12) 3 17 := ⟨by decide +kernel, rfl⟩
theorem dX2_firstDown_17 : jm_d cX2_firstDown 17 (.iconst 1) 1 18 := ⟨by decide +kernel, rfl⟩
theorem dX2_firstDown_18 : jm_d cX2_firstDown 18 (.invokevirtual 44) 3 21 := ⟨by decide +kernel, rfl⟩
theorem dX2_firstDown_21 : jm_d cX2_firstDown 21 (.aload_n 0) 1 22 := ⟨by decide +kernel, rfl⟩
theorem dX2_firstDown_22 : jm_d cX2_firstDown 22 (.aload_n 1) 1 23 := ⟨by decide +kernel, rfl⟩
theorem dX2_firstDown_23 : jm_d cX2_firstDown 23 (.invokevirtual 48) 3 26 := ⟨by decide +kernel, rfl⟩
theorem dX2_firstDown_26 : jm_d cX2_firstDown 26 (.istore_n 3) 1 27 := ⟨by decide +kernel, rfl⟩
theorem dX2_firstDown_27 : jm_d cX2_firstDown 27 (.iload_n 3) 1 28 := ⟨by decide +kernel, rfl⟩
theorem dX2_firstDown_28 : jm_d cX2_firstDown 28 (.bipush (-9)) 2 30 := ⟨by decide +kernel, rfl⟩
theorem dX2_firstDown_30 : jm_b cX2_firstDown 30 (.if_icmp .eq) 33 35 := ⟨5, by decide +kernel, rfl, by decide⟩
theorem dX2_firstDown_35 : jm_d cX2_firstDown 35 (.iinc 2 1) 3 38 := ⟨by decide +kernel, rfl⟩
theorem dX2_firstDown_38 : jm_b cX2_firstDown 38 .goto 41 7 := ⟨(-31), by decide +kernel, rfl, by decide⟩
theorem dX2_firstDown_33 : jm_d cX2_firstDown 33 (.iload_n 3) 1 34 := ⟨by decide +kernel, rfl⟩
theorem dX2_firstDown_34 : jm_d cX2_firstDown 34 (.ireturn) 1 35 := ⟨by decide +kernel, rfl⟩
theorem dX2_firstDown_41 : jm_d cX2_firstDown 41 (.bipush (-9)) 2 43 := ⟨by decide +kernel, rfl⟩
theorem dX2_firstDown_43 : jm_d cX2_firstDown 43 (.ireturn) 1 44 := ⟨by decide +kernel, rfl⟩
set_option maxHeartbeats 4000000 in
set_option maxRecDepth 100000 in
theorem kF_firstDown (E : jm_Ev) (hE : jm_dj E jm_LC) {M : jm_M} {p1 : Nat} (hp1 : jm_isT p1) {r : Int32 × jm_M} (h : sF_firstDown M p1 = some r) : jm_Ct E jm_LC yX2_firstDown cX2_firstDown 4 (some .int) 6 162 [.ref (jm_a E 15 0), .ref (jm_a E p1 0)] M (some (.int r.1)) r.2 := by
  refine jm_enter (lv := [some (.ref (jm_a E 15 0)), some (.ref (jm_a E p1 0)), none, none]) hE (by decide) (Nat.le_of_ble_eq_true rfl) rfl ?_
  intro z w F hz
  have G : jm_G w 0 [some (.ref (jm_a E 15 0)), some (.ref (jm_a E p1 0)), none, none] [] M (sF_firstDown M p1) (fun e => z (some (.int e.1)) e.2) := by
    unfold sF_firstDown
    refine jm_aload_n (i := 0) F dX2_firstDown_0 rfl rfl ?_
    refine jm_aload_n (i := 1) F dX2_firstDown_1 rfl rfl ?_
    refine jm_callV (As := [.ref (jm_a E p1 0)]) (st := []) (rv := fun _ => none) (mm := fun r => r) F dX2_firstDown_2 qX2_29 rfl lo_X2 rfl (fun r h => kF_think E hE hp1 h) rfl (Nat.le_of_ble_eq_true rfl) ⟨Nat.le_of_ble_eq_true rfl, Nat.le_of_ble_eq_true rfl⟩ (fun r1 => ?_)
    refine jm_iconst F dX2_firstDown_5 kc_0 ?_
    refine jm_istore_n (i := 2) (lv' := [some (.ref (jm_a E 15 0)), some (.ref (jm_a E p1 0)), some (.int 0), none]) F dX2_firstDown_6 rfl (by decide) rfl rfl ?_
    refine jm_bindS (pcJ := 41) (lvJ := fun e7 => [none, none, none, none]) (stJ := fun _ => []) (MJ := fun e7 => e7) ?_ (fun e7 => ?_)
    · refine jm_weak F (lv' := [some (.ref (jm_a E 15 0)), some (.ref (jm_a E p1 0)), some (.int 0), none]) ⟨rfl, rfl, rfl, trivial⟩ ?_
      refine jm_loopR (lvH := fun s2 => [some (.ref (jm_a E 15 0)), some (.ref (jm_a E p1 0)), some (.int s2.1), none]) (MH := fun s2 => s2.2) (fun s2 => ?_) jm_N (0, r1)
      unfold sF_firstDown_L7
      refine jm_iload_n (i := 2) F dX2_firstDown_7 rfl rfl ?_
      refine jm_bipush F dX2_firstDown_8 kb_60 ?_
      refine jm_icmp_ge F dX2_firstDown_10 (fun c3 => ?_) (fun c3 => ?_)
      · exact jm_weakD F (lv' := [none, none, none, none]) trivial (fun h => h)
      · refine jm_aload_n (i := 0) F dX2_firstDown_13 rfl rfl ?_
        refine jm_getR F dX2_firstDown_14 fl_X2_12 lo_X2 rfl ?_
        refine jm_iconst F dX2_firstDown_17 kc_1 ?_
        refine jm_callV (As := [.int 1]) (st := []) (rv := fun _ => none) (mm := fun r => r) F dX2_firstDown_18 qX2_44 rfl (lo_T isT_4) rfl (fun r h => kT_weekPasses E hE isT_4 h) rfl (Nat.le_of_ble_eq_true rfl) ⟨Nat.le_of_ble_eq_true rfl, Nat.le_of_ble_eq_true rfl⟩ (fun r4 => ?_)
        refine jm_aload_n (i := 0) F dX2_firstDown_21 rfl rfl ?_
        refine jm_aload_n (i := 1) F dX2_firstDown_22 rfl rfl ?_
        refine jm_callV (As := [.ref (jm_a E p1 0)]) (st := []) (rv := fun r => some (.int r)) (mm := fun _ => r4) F dX2_firstDown_23 qX2_48 rfl lo_X2 rfl (fun r h => kF_firstFreshlyDown E hE hp1 h) rfl (Nat.le_of_ble_eq_true rfl) ⟨Nat.le_of_ble_eq_true rfl, Nat.le_of_ble_eq_true rfl⟩ (fun r5 => ?_)
        refine jm_istore_n (i := 3) (lv' := [some (.ref (jm_a E 15 0)), some (.ref (jm_a E p1 0)), some (.int s2.1), some (.int r5)]) F dX2_firstDown_26 rfl (by decide) rfl rfl ?_
        refine jm_iload_n (i := 3) F dX2_firstDown_27 rfl rfl ?_
        refine jm_bipush F dX2_firstDown_28 kb_m9 ?_
        refine jm_icmp_eq F dX2_firstDown_30 (fun c6 => ?_) (fun c6 => ?_)
        · refine jm_iinc (i := 2) (lv' := [some (.ref (jm_a E 15 0)), some (.ref (jm_a E p1 0)), some (.int (s2.1 + 1)), some (.int r5)]) F dX2_firstDown_35 kc_1 rfl (by decide) rfl rfl ?_
          refine jm_goto F dX2_firstDown_38 ?_
          exact jm_weakD F (lv' := [some (.ref (jm_a E 15 0)), some (.ref (jm_a E p1 0)), some (.int (s2.1 + 1)), none]) ⟨rfl, rfl, rfl, trivial⟩ (fun h => h)
        · refine jm_iload_n (i := 3) F dX2_firstDown_33 rfl rfl ?_
          exact jm_iret F dX2_firstDown_34 (fun h => h)
    · refine jm_bipush F dX2_firstDown_41 kb_m9 ?_
      exact jm_iret F dX2_firstDown_43 (fun h => h)
  exact G r h hz
theorem dX8_first_0 : jm_d cX8_first 0 (.aload_n 0) 1 1 := ⟨by decide +kernel, rfl⟩
theorem dX8_first_1 : jm_d cX8_first 1 (.getfield 36) 3 4 := ⟨by decide +kernel, rfl⟩
theorem dX8_first_4 : jm_d cX8_first 4 (.aload_n 0) 1 5 := ⟨by decide +kernel, rfl⟩
theorem dX8_first_5 : jm_d cX8_first 5 (.getfield 10) 3 8 := ⟨by decide +kernel, rfl⟩
theorem dX8_first_8 : jm_d cX8_first 8 (.invokevirtual 235) 3 11 := ⟨by decide +kernel, rfl⟩
theorem dX8_first_11 : jm_d cX8_first 11 (.ireturn) 1 12 := ⟨by decide +kernel, rfl⟩
set_option maxHeartbeats 4000000 in
set_option maxRecDepth 100000 in
theorem kW_first (E : jm_Ev) (hE : jm_dj E jm_LC) {M : jm_M}  {r : Int32 × jm_M} (h : sW_first M = some r) : jm_Ct E jm_LC yX8_first cX8_first 1 (some .int) 7 185 [.ref (jm_a E 0 0)] M (some (.int r.1)) r.2 := by
  refine jm_enter (lv := [some (.ref (jm_a E 0 0))]) hE (by decide) (Nat.le_of_ble_eq_true rfl) rfl ?_
  intro z w F hz
  have G : jm_G w 0 [some (.ref (jm_a E 0 0))] [] M (sW_first M) (fun e => z (some (.int e.1)) e.2) := by
    unfold sW_first
    refine jm_aload_n (i := 0) F dX8_first_0 rfl rfl ?_
    refine jm_getR F dX8_first_1 fl_X8_36 lo_X8 rfl ?_
    refine jm_aload_n (i := 0) F dX8_first_4 rfl rfl ?_
    refine jm_getR F dX8_first_5 fl_X8_10 lo_X8 rfl ?_
    refine jm_callV (As := [.ref (jm_a E 1 0)]) (st := []) (rv := fun r => some (.int r.1)) (mm := fun r => r.2) F dX8_first_8 qX8_235 rfl lo_X2 rfl (fun r h => kF_firstDown E hE isT_1 h) rfl (Nat.le_of_ble_eq_true rfl) ⟨Nat.le_of_ble_eq_true rfl, Nat.le_of_ble_eq_true rfl⟩ (fun r1 => ?_)
    exact jm_iret F dX8_first_11 (fun h => h)
  exact G r h hz
theorem dX2_seekLoan_0 : jm_d cX2_seekLoan 0 (.aload_n 0) 1 1 := ⟨by decide +kernel, rfl⟩
theorem dX2_seekLoan_1 : jm_d cX2_seekLoan 1 (.bipush (-9)) 2 3 := ⟨by decide +kernel, rfl⟩
theorem dX2_seekLoan_3 : jm_d cX2_seekLoan 3 (.putfield 56) 3 6 := ⟨by decide +kernel, rfl⟩
theorem dX2_seekLoan_6 : jm_d cX2_seekLoan 6 (.aload_n 0) 1 7 := ⟨by decide +kernel, rfl⟩
theorem dX2_seekLoan_7 : jm_d cX2_seekLoan 7 (.bipush (-9)) 2 9 := ⟨by decide +kernel, rfl⟩
theorem dX2_seekLoan_9 : jm_d cX2_seekLoan 9 (.putfield 59) 3 12 := ⟨by decide +kernel, rfl⟩
theorem dX2_seekLoan_12 : jm_d cX2_seekLoan 12 (.bipush 60) 2 14 := ⟨by decide +kernel, rfl⟩
theorem dX2_seekLoan_14 : jm_d cX2_seekLoan 14 (.istore 4) 2 16 := ⟨by decide +kernel, rfl⟩
theorem dX2_seekLoan_16 : jm_d cX2_seekLoan 16 (.iconst 0) 1 17 := ⟨by decide +kernel, rfl⟩
theorem dX2_seekLoan_17 : jm_d cX2_seekLoan 17 (.istore 5) 2 19 := ⟨by decide +kernel, rfl⟩
theorem dX2_seekLoan_19 : jm_d cX2_seekLoan 19 (.iload 5) 2 21 := ⟨by decide +kernel, rfl⟩
theorem dX2_seekLoan_21 : jm_d cX2_seekLoan 21 (.aload_n 1) 1 22 := ⟨by decide +kernel, rfl⟩
theorem dX2_seekLoan_22 : jm_d cX2_seekLoan 22 (.getfield 62) 3 25 := ⟨by decide +kernel, rfl⟩
theorem dX2_seekLoan_25 : jm_b cX2_seekLoan 25 (.if_icmp .ge) 28 96 := ⟨71, by decide +kernel, rfl, by decide⟩
theorem dX2_seekLoan_28 : jm_d cX2_seekLoan 28 (.aload_n 1) 1 29 := ⟨by decide +kernel, rfl⟩
theorem dX2_seekLoan_29 : jm_d cX2_seekLoan 29 (.iload_n 2) 1 30 := ⟨by decide +kernel, rfl⟩
theorem dX2_seekLoan_30 : jm_d cX2_seekLoan 30 (.iload_n 3) 1 31 := ⟨by decide +kernel, rfl⟩
theorem dX2_seekLoan_31 : jm_d cX2_seekLoan 31 (.iload 5) 2 33 := ⟨by decide +kernel, rfl⟩
theorem dX2_seekLoan_33 : jm_d cX2_seekLoan 33 (.invokevirtual 65) 3 36 := ⟨by decide +kernel, rfl⟩
theorem dX2_seekLoan_36 : jm_b cX2_seekLoan 36 (.ifCond .ne) 39 90 := ⟨54, by decide +kernel, rfl, by decide⟩
theorem dX2_seekLoan_39 : jm_d cX2_seekLoan 39 (.aload_n 0) 1 40 := ⟨by decide +kernel, rfl⟩
theorem dX2_seekLoan_40 : jm_d cX2_seekLoan 40 (.aload_n 1) 1 41 := ⟨by decide +kernel, rfl⟩
theorem dX2_seekLoan_41 : jm_d cX2_seekLoan 41 (.invokevirtual 29) 3 44 := ⟨by decide +kernel, rfl⟩
theorem dX2_seekLoan_44 : jm_d cX2_seekLoan 44 (.aload_n 0) 1 45 := ⟨by decide +kernel, rfl⟩
theorem dX2_seekLoan_45 : jm_d cX2_seekLoan 45 (.getfield 12) 3 48 := ⟨by decide +kernel, rfl⟩
theorem dX2_seekLoan_48 : jm_d cX2_seekLoan 48 (.getfield 69) 3 51 := ⟨by decide +kernel, rfl⟩
theorem dX2_seekLoan_51 : jm_d cX2_seekLoan 51 (.iload 5) 2 53 := ⟨by decide +kernel, rfl⟩
theorem dX2_seekLoan_53 : jm_d cX2_seekLoan 53 (.iload_n 2) 1 54 := ⟨by decide +kernel, rfl⟩
theorem dX2_seekLoan_54 : jm_d cX2_seekLoan 54 (.iastore) 1 55 := ⟨by decide +kernel, rfl⟩
theorem dX2_seekLoan_55 : jm_d cX2_seekLoan 55 (.aload_n 0) 1 56 := ⟨by decide +kernel, rfl⟩
theorem dX2_seekLoan_56 : jm_d cX2_seekLoan 56 (.iload_n 2) 1 57 := ⟨by decide +kernel, rfl⟩
theorem dX2_seekLoan_57 : jm_d cX2_seekLoan 57 (.iload_n 3) 1 58 := ⟨by decide +kernel, rfl⟩
theorem dX2_seekLoan_58 : jm_d cX2_seekLoan 58 (.iload 4) 2 60 := ⟨by decide +kernel, rfl⟩
theorem dX2_seekLoan_60 : jm_d cX2_seekLoan 60 (.invokevirtual 36) 3 63 := ⟨by decide +kernel, rfl⟩
theorem dX2_seekLoan_63 : jm_d cX2_seekLoan 63 (.istore 6) 2 65 := ⟨by decide +kernel, rfl⟩
theorem dX2_seekLoan_65 : jm_d cX2_seekLoan 65 (.iload 6) 2 67 := ⟨by decide +kernel, rfl⟩
theorem dX2_seekLoan_67 : jm_d cX2_seekLoan 67 (.bipush (-9)) 2 69 := ⟨by decide +kernel, rfl⟩
theorem dX2_seekLoan_69 : jm_b cX2_seekLoan 69 (.if_icmp .eq) 72 90 := ⟨21, by decide +kernel, rfl, by decide⟩
theorem dX2_seekLoan_90 : jm_d cX2_seekLoan 90 (.iinc 5 1) 3 93 := ⟨by decide +kernel, rfl⟩
theorem dX2_seekLoan_93 : jm_b cX2_seekLoan 93 .goto 96 19 := ⟨(-74), by decide +kernel, rfl, by decide⟩
theorem dX2_seekLoan_72 : jm_d cX2_seekLoan 72 (.aload_n 0) 1 73 := ⟨by decide +kernel, rfl⟩
theorem dX2_seekLoan_73 : jm_d cX2_seekLoan 73 (.iload 5) 2 75 := ⟨by decide +kernel, rfl⟩
theorem dX2_seekLoan_75 : jm_d cX2_seekLoan 75 (.putfield 56) 3 78 := ⟨by decide +kernel, rfl⟩
theorem dX2_seekLoan_78 : jm_d cX2_seekLoan 78 (.aload_n 0) 1 79 := ⟨by decide +kernel, rfl⟩
theorem dX2_seekLoan_79 : jm_d cX2_seekLoan 79 (.iload 6) 2 81 := ⟨by decide +kernel, rfl⟩
theorem dX2_seekLoan_81 : jm_d cX2_seekLoan 81 (.putfield 59) 3 84 := ⟨by decide +kernel, rfl⟩
theorem dX2_seekLoan_84 : jm_d cX2_seekLoan 84 (.iload 6) 2 86 := ⟨by decide +kernel, rfl⟩
theorem dX2_seekLoan_86 : jm_d cX2_seekLoan 86 (.iconst 1) 1 87 := ⟨by decide +kernel, rfl⟩
theorem dX2_seekLoan_87 : jm_d cX2_seekLoan 87 (.isub) 1 88 := ⟨by decide +kernel, rfl⟩
theorem dX2_seekLoan_88 : jm_d cX2_seekLoan 88 (.istore 4) 2 90 := ⟨by decide +kernel, rfl⟩
theorem dX2_seekLoan_96 : jm_d cX2_seekLoan 96 (.return_) 1 97 := ⟨by decide +kernel, rfl⟩
set_option maxHeartbeats 4000000 in
set_option maxRecDepth 100000 in
theorem kF_seekLoan (E : jm_Ev) (hE : jm_dj E jm_LC) {M : jm_M} {p1 : Nat} {p2 : Int32} {p3 : Int32} (hp1 : jm_isT p1) {r : jm_M} (h : sF_seekLoan M p1 p2 p3 = some r) : jm_Ct E jm_LC yX2_seekLoan cX2_seekLoan 7 none 6 163 [.ref (jm_a E 15 0), .ref (jm_a E p1 0), .int p2, .int p3] M none r := by
  refine jm_enter (lv := [some (.ref (jm_a E 15 0)), some (.ref (jm_a E p1 0)), some (.int p2), some (.int p3), none, none, none]) hE (by decide) (Nat.le_of_ble_eq_true rfl) rfl ?_
  intro z w F hz
  have G : jm_G w 0 [some (.ref (jm_a E 15 0)), some (.ref (jm_a E p1 0)), some (.int p2), some (.int p3), none, none, none] [] M (sF_seekLoan M p1 p2 p3) (fun e => z none e) := by
    unfold sF_seekLoan
    refine jm_aload_n (i := 0) F dX2_seekLoan_0 rfl rfl ?_
    refine jm_bipush F dX2_seekLoan_1 kb_m9 ?_
    refine jm_putI F dX2_seekLoan_3 fp_X2_56 lo_X2 rfl (fun M1 => ?_)
    refine jm_aload_n (i := 0) F dX2_seekLoan_6 rfl rfl ?_
    refine jm_bipush F dX2_seekLoan_7 kb_m9 ?_
    refine jm_putI F dX2_seekLoan_9 fp_X2_59 lo_X2 rfl (fun M2 => ?_)
    refine jm_bipush F dX2_seekLoan_12 kb_60 ?_
    refine jm_istore (i := 4) (lv' := [some (.ref (jm_a E 15 0)), some (.ref (jm_a E p1 0)), some (.int p2), some (.int p3), some (.int 60), none, none]) F dX2_seekLoan_14 (by decide) rfl rfl ?_
    refine jm_iconst F dX2_seekLoan_16 kc_0 ?_
    refine jm_istore (i := 5) (lv' := [some (.ref (jm_a E 15 0)), some (.ref (jm_a E p1 0)), some (.int p2), some (.int p3), some (.int 60), some (.int 0), none]) F dX2_seekLoan_17 (by decide) rfl rfl ?_
    refine jm_bind (pcJ := 96) (lvJ := fun e14 => [none, none, none, none, none, none, none]) (stJ := fun _ => []) (MJ := fun e14 => e14) ?_ (fun e14 => ?_)
    · refine jm_weak F (lv' := [some (.ref (jm_a E 15 0)), some (.ref (jm_a E p1 0)), some (.int p2), some (.int p3), some (.int 60), some (.int 0), none]) ⟨rfl, rfl, rfl, rfl, rfl, rfl, trivial⟩ ?_
      refine jm_loopR (lvH := fun s3 => [some (.ref (jm_a E 15 0)), some (.ref (jm_a E p1 0)), some (.int p2), some (.int p3), some (.int s3.1), some (.int s3.2.1), none]) (MH := fun s3 => s3.2.2) (fun s3 => ?_) jm_N (60, 0, M2)
      unfold sF_seekLoan_L19
      refine jm_iload F dX2_seekLoan_19 rfl ?_
      refine jm_aload_n (i := 1) F dX2_seekLoan_21 rfl rfl ?_
      refine jm_getI F dX2_seekLoan_22 fl_X2_62 (lo_T hp1) rfl ?_
      refine jm_icmp_ge F dX2_seekLoan_25 (fun c4 => ?_) (fun c4 => ?_)
      · exact jm_weakD F (lv' := [none, none, none, none, none, none, none]) trivial (fun h => h)
      · refine jm_aload_n (i := 1) F dX2_seekLoan_28 rfl rfl ?_
        refine jm_iload_n (i := 2) F dX2_seekLoan_29 rfl rfl ?_
        refine jm_iload_n (i := 3) F dX2_seekLoan_30 rfl rfl ?_
        refine jm_iload F dX2_seekLoan_31 rfl ?_
        refine jm_callV (As := [.int p2, .int p3, .int s3.2.1]) (st := []) (rv := fun r => some (.int r)) (mm := fun _ => s3.2.2) F dX2_seekLoan_33 qX2_65 rfl (lo_T hp1) rfl (fun r h => kT_isOnPan E hE hp1 h) rfl (Nat.le_of_ble_eq_true rfl) ⟨Nat.le_of_ble_eq_true rfl, Nat.le_of_ble_eq_true rfl⟩ (fun r5 => ?_)
        refine jm_if_ne F dX2_seekLoan_36 (fun c6 => ?_) (fun c6 => ?_)
        · refine jm_aload_n (i := 0) F dX2_seekLoan_39 rfl rfl ?_
          refine jm_aload_n (i := 1) F dX2_seekLoan_40 rfl rfl ?_
          refine jm_callV (As := [.ref (jm_a E p1 0)]) (st := []) (rv := fun _ => none) (mm := fun r => r) F dX2_seekLoan_41 qX2_29 rfl lo_X2 rfl (fun r h => kF_think E hE hp1 h) rfl (Nat.le_of_ble_eq_true rfl) ⟨Nat.le_of_ble_eq_true rfl, Nat.le_of_ble_eq_true rfl⟩ (fun r7 => ?_)
          refine jm_aload_n (i := 0) F dX2_seekLoan_44 rfl rfl ?_
          refine jm_getR F dX2_seekLoan_45 fl_X2_12 lo_X2 rfl ?_
          refine jm_getR F dX2_seekLoan_48 fl_X2_69 (lo_T isT_4) rfl ?_
          refine jm_iload F dX2_seekLoan_51 rfl ?_
          refine jm_iload_n (i := 2) F dX2_seekLoan_53 rfl rfl ?_
          refine jm_iast F dX2_seekLoan_54 (la_T_9 isT_4) (fun M8 => ?_)
          refine jm_aload_n (i := 0) F dX2_seekLoan_55 rfl rfl ?_
          refine jm_iload_n (i := 2) F dX2_seekLoan_56 rfl rfl ?_
          refine jm_iload_n (i := 3) F dX2_seekLoan_57 rfl rfl ?_
          refine jm_iload F dX2_seekLoan_58 rfl ?_
          refine jm_callV (As := [.int p2, .int p3, .int s3.1]) (st := []) (rv := fun r => some (.int r.1)) (mm := fun r => r.2) F dX2_seekLoan_60 qX2_36 rfl lo_X2 rfl (fun r h => kF_weeksTillDown E hE h) rfl (Nat.le_of_ble_eq_true rfl) ⟨Nat.le_of_ble_eq_true rfl, Nat.le_of_ble_eq_true rfl⟩ (fun r9 => ?_)
          refine jm_istore (i := 6) (lv' := [some (.ref (jm_a E 15 0)), some (.ref (jm_a E p1 0)), some (.int p2), some (.int p3), some (.int s3.1), some (.int s3.2.1), some (.int r9.1)]) F dX2_seekLoan_63 (by decide) rfl rfl ?_
          refine jm_iload F dX2_seekLoan_65 rfl ?_
          refine jm_bipush F dX2_seekLoan_67 kb_m9 ?_
          refine jm_icmp_eq F dX2_seekLoan_69 (fun c10 => ?_) (fun c10 => ?_)
          · refine jm_iinc (i := 5) (lv' := [some (.ref (jm_a E 15 0)), some (.ref (jm_a E p1 0)), some (.int p2), some (.int p3), some (.int s3.1), some (.int (s3.2.1 + 1)), some (.int r9.1)]) F dX2_seekLoan_90 kc_1 rfl (by decide) rfl rfl ?_
            refine jm_goto F dX2_seekLoan_93 ?_
            exact jm_weakD F (lv' := [some (.ref (jm_a E 15 0)), some (.ref (jm_a E p1 0)), some (.int p2), some (.int p3), some (.int s3.1), some (.int (s3.2.1 + 1)), none]) ⟨rfl, rfl, rfl, rfl, rfl, rfl, trivial⟩ (fun h => h)
          · refine jm_aload_n (i := 0) F dX2_seekLoan_72 rfl rfl ?_
            refine jm_iload F dX2_seekLoan_73 rfl ?_
            refine jm_putI F dX2_seekLoan_75 fp_X2_56 lo_X2 rfl (fun M11 => ?_)
            refine jm_aload_n (i := 0) F dX2_seekLoan_78 rfl rfl ?_
            refine jm_iload F dX2_seekLoan_79 rfl ?_
            refine jm_putI F dX2_seekLoan_81 fp_X2_59 lo_X2 rfl (fun M12 => ?_)
            refine jm_iload F dX2_seekLoan_84 rfl ?_
            refine jm_iconst F dX2_seekLoan_86 kc_1 ?_
            refine jm_isub F dX2_seekLoan_87 ?_
            refine jm_nameI (f := fun x13 => [.int x13]) (fun x13 => ?_) rfl
            refine jm_istore (i := 4) (lv' := [some (.ref (jm_a E 15 0)), some (.ref (jm_a E p1 0)), some (.int p2), some (.int p3), some (.int x13), some (.int s3.2.1), some (.int r9.1)]) F dX2_seekLoan_88 (by decide) rfl rfl ?_
            refine jm_iinc (i := 5) (lv' := [some (.ref (jm_a E 15 0)), some (.ref (jm_a E p1 0)), some (.int p2), some (.int p3), some (.int x13), some (.int (s3.2.1 + 1)), some (.int r9.1)]) F dX2_seekLoan_90 kc_1 rfl (by decide) rfl rfl ?_
            refine jm_goto F dX2_seekLoan_93 ?_
            exact jm_weakD F (lv' := [some (.ref (jm_a E 15 0)), some (.ref (jm_a E p1 0)), some (.int p2), some (.int p3), some (.int x13), some (.int (s3.2.1 + 1)), none]) ⟨rfl, rfl, rfl, rfl, rfl, rfl, trivial⟩ (fun h => h)
        · refine jm_iinc (i := 5) (lv' := [some (.ref (jm_a E 15 0)), some (.ref (jm_a E p1 0)), some (.int p2), some (.int p3), some (.int s3.1), some (.int (s3.2.1 + 1)), none]) F dX2_seekLoan_90 kc_1 rfl (by decide) rfl rfl ?_
          refine jm_goto F dX2_seekLoan_93 ?_
          exact jm_weakD F (lv' := [some (.ref (jm_a E 15 0)), some (.ref (jm_a E p1 0)), some (.int p2), some (.int p3), some (.int s3.1), some (.int (s3.2.1 + 1)), none]) ⟨rfl, rfl, rfl, rfl, rfl, rfl, trivial⟩ (fun h => h)
    · exact jm_vret F dX2_seekLoan_96 (fun h => h)
  exact G r h hz
