theorem dX9_kindsOn_0 : jm_d cX9_kindsOn 0 (.iconst 0) 1 1 := ⟨by decide +kernel, rfl⟩
theorem dX9_kindsOn_1 : jm_d cX9_kindsOn 1 (.istore_n 2) 1 2 := ⟨by decide +kernel, rfl⟩
theorem dX9_kindsOn_2 : jm_d cX9_kindsOn 2 (.iconst 0) 1 3 := ⟨by decide +kernel, rfl⟩
theorem dX9_kindsOn_3 : jm_d cX9_kindsOn 3 (.istore_n 3) 1 4 := ⟨by decide +kernel, rfl⟩
theorem dX9_kindsOn_4 : jm_d cX9_kindsOn 4 (.iload_n 3) 1 5 := ⟨by decide +kernel, rfl⟩
theorem dX9_kindsOn_5 : jm_d cX9_kindsOn 5 (.aload_n 0) 1 6 := ⟨by decide +kernel, rfl⟩
theorem dX9_kindsOn_6 : jm_d cX9_kindsOn 6 (.getfield 106) 3 9 := ⟨by decide +kernel, rfl⟩
theorem dX9_kindsOn_9 : jm_b cX9_kindsOn 9 (.if_icmp .ge) 12 43 := ⟨34, by decide +kernel, rfl, by decide⟩
theorem dX9_kindsOn_12 : jm_d cX9_kindsOn 12 (.iload_n 2) 1 13 := ⟨by decide +kernel, rfl⟩
theorem dX9_kindsOn_13 : jm_d cX9_kindsOn 13 (.aload_n 0) 1 14 := ⟨by decide +kernel, rfl⟩
theorem dX9_kindsOn_14 : jm_d cX9_kindsOn 14 (.getfield 31) 3 17 := ⟨by decide +kernel, rfl⟩
theorem dX9_kindsOn_17 : jm_d cX9_kindsOn 17 (.iload_n 3) 1 18 := ⟨by decide +kernel, rfl⟩
theorem dX9_kindsOn_18 : jm_d cX9_kindsOn 18 (.iaload) 1 19 := ⟨by decide +kernel, rfl⟩
theorem dX9_kindsOn_19 : jm_d cX9_kindsOn 19 (.iload_n 1) 1 20 := ⟨by decide +kernel, rfl⟩
theorem dX9_kindsOn_20 : jm_b cX9_kindsOn 20 (.if_icmp .ne) 23 34 := ⟨14, by decide +kernel, rfl, by decide⟩
theorem dX9_kindsOn_23 : jm_d cX9_kindsOn 23 (.iconst 1) 1 24 := ⟨by decide +kernel, rfl⟩
theorem dX9_kindsOn_24 : jm_d cX9_kindsOn 24 (.aload_n 0) 1 25 := ⟨by decide +kernel, rfl⟩
theorem dX9_kindsOn_25 : jm_d cX9_kindsOn 25 (.getfield 22) 3 28 := ⟨by decide +kernel, rfl⟩
theorem dX9_kindsOn_28 : jm_d cX9_kindsOn 28 (.iload_n 3) 1 29 := ⟨by decide +kernel, rfl⟩
theorem dX9_kindsOn_29 : jm_d cX9_kindsOn 29 (.iaload) 1 30 := ⟨by decide +kernel, rfl⟩
theorem dX9_kindsOn_30 : jm_d cX9_kindsOn 30 (.ishl) 1 31 := ⟨by decide +kernel, rfl⟩
theorem dX9_kindsOn_31 : jm_b cX9_kindsOn 31 .goto 34 35 := ⟨4, by decide +kernel, rfl, by decide⟩
theorem dX9_kindsOn_35 : jm_d cX9_kindsOn 35 (.ior) 1 36 := ⟨by decide +kernel, rfl⟩
theorem dX9_kindsOn_36 : jm_d cX9_kindsOn 36 (.istore_n 2) 1 37 := ⟨by decide +kernel, rfl⟩
theorem dX9_kindsOn_37 : jm_d cX9_kindsOn 37 (.iinc 3 1) 3 40 := ⟨by decide +kernel, rfl⟩
theorem dX9_kindsOn_40 : jm_b cX9_kindsOn 40 .goto 43 4 := ⟨(-36), by decide +kernel, rfl, by decide⟩
theorem dX9_kindsOn_34 : jm_d cX9_kindsOn 34 (.iconst 0) 1 35 := ⟨by decide +kernel, rfl⟩
theorem dX9_kindsOn_43 : jm_d cX9_kindsOn 43 (.iload_n 2) 1 44 := ⟨by decide +kernel, rfl⟩
theorem dX9_kindsOn_44 : jm_d cX9_kindsOn 44 (.ireturn) 1 45 := ⟨by decide +kernel, rfl⟩
set_option maxHeartbeats 4000000 in
set_option maxRecDepth 100000 in
theorem kM_kindsOn (E : jm_Ev) (hE : jm_dj E jm_LM) {M : jm_M} {p1 : Int32}  {r : Int32} (h : sM_kindsOn M p1 = some r) : jm_Ct E jm_LM yX9_kindsOn cX9_kindsOn 4 (some .int) 0 0 [.ref (jm_a E 0 0), .int p1] M (some (.int r)) M := by
  refine jm_enter (lv := [some (.ref (jm_a E 0 0)), some (.int p1), none, none]) hE (by decide) (Nat.le_of_ble_eq_true rfl) rfl ?_
  intro z w F hz
  have G : jm_G w 0 [some (.ref (jm_a E 0 0)), some (.int p1), none, none] [] M (sM_kindsOn M p1) (fun e => z (some (.int e)) M) := by
    unfold sM_kindsOn
    refine jm_iconst F dX9_kindsOn_0 kc_0 ?_
    refine jm_istore_n (i := 2) (lv' := [some (.ref (jm_a E 0 0)), some (.int p1), some (.int 0), none]) F dX9_kindsOn_1 rfl (by decide) rfl rfl ?_
    refine jm_iconst F dX9_kindsOn_2 kc_0 ?_
    refine jm_istore_n (i := 3) (lv' := [some (.ref (jm_a E 0 0)), some (.int p1), some (.int 0), some (.int 0)]) F dX9_kindsOn_3 rfl (by decide) rfl rfl ?_
    refine jm_bind (pcJ := 43) (lvJ := fun e8 => [none, none, some (.int e8), none]) (stJ := fun _ => []) (MJ := fun e8 => M) ?_ (fun e8 => ?_)
    · refine jm_weak F (lv' := [some (.ref (jm_a E 0 0)), some (.int p1), some (.int 0), some (.int 0)]) ⟨rfl, rfl, rfl, rfl, trivial⟩ ?_
      refine jm_loopR (lvH := fun s1 => [some (.ref (jm_a E 0 0)), some (.int p1), some (.int s1.1), some (.int s1.2)]) (MH := fun s1 => M) (fun s1 => ?_) jm_N (0, 0)
      unfold sM_kindsOn_L4
      refine jm_iload_n (i := 3) F dX9_kindsOn_4 rfl rfl ?_
      refine jm_aload_n (i := 0) F dX9_kindsOn_5 rfl rfl ?_
      refine jm_getI F dX9_kindsOn_6 fl_X9_106 lo_X9 rfl ?_
      refine jm_icmp_ge F dX9_kindsOn_9 (fun c2 => ?_) (fun c2 => ?_)
      · exact jm_weakD F (lv' := [none, none, some (.int s1.1), none]) ⟨rfl, trivial⟩ (fun h => h)
      · refine jm_iload_n (i := 2) F dX9_kindsOn_12 rfl rfl ?_
        refine jm_aload_n (i := 0) F dX9_kindsOn_13 rfl rfl ?_
        refine jm_getR F dX9_kindsOn_14 fl_X9_31 lo_X9 rfl ?_
        refine jm_iload_n (i := 3) F dX9_kindsOn_17 rfl rfl ?_
        refine jm_iald F dX9_kindsOn_18 la_X9_8 (fun v3 => ?_)
        refine jm_iload_n (i := 1) F dX9_kindsOn_19 rfl rfl ?_
        refine jm_icmp_ne F dX9_kindsOn_20 (fun c4 => ?_) (fun c4 => ?_)
        · refine jm_iconst F dX9_kindsOn_23 kc_1 ?_
          refine jm_aload_n (i := 0) F dX9_kindsOn_24 rfl rfl ?_
          refine jm_getR F dX9_kindsOn_25 fl_X9_22 lo_X9 rfl ?_
          refine jm_iload_n (i := 3) F dX9_kindsOn_28 rfl rfl ?_
          refine jm_iald F dX9_kindsOn_29 la_X9_5 (fun v5 => ?_)
          refine jm_ishl F dX9_kindsOn_30 ?_
          refine jm_goto F dX9_kindsOn_31 ?_
          refine jm_ior F dX9_kindsOn_35 ?_
          refine jm_nameI (f := fun x6 => [.int x6]) (fun x6 => ?_) rfl
          refine jm_istore_n (i := 2) (lv' := [some (.ref (jm_a E 0 0)), some (.int p1), some (.int x6), some (.int s1.2)]) F dX9_kindsOn_36 rfl (by decide) rfl rfl ?_
          refine jm_iinc (i := 3) (lv' := [some (.ref (jm_a E 0 0)), some (.int p1), some (.int x6), some (.int (s1.2 + 1))]) F dX9_kindsOn_37 kc_1 rfl (by decide) rfl rfl ?_
          refine jm_goto F dX9_kindsOn_40 ?_
          exact jm_weakD F (lv' := [some (.ref (jm_a E 0 0)), some (.int p1), some (.int x6), some (.int (s1.2 + 1))]) ⟨rfl, rfl, rfl, rfl, trivial⟩ (fun h => h)
        · refine jm_iconst F dX9_kindsOn_34 kc_0 ?_
          refine jm_ior F dX9_kindsOn_35 ?_
          refine jm_nameI (f := fun x7 => [.int x7]) (fun x7 => ?_) rfl
          refine jm_istore_n (i := 2) (lv' := [some (.ref (jm_a E 0 0)), some (.int p1), some (.int x7), some (.int s1.2)]) F dX9_kindsOn_36 rfl (by decide) rfl rfl ?_
          refine jm_iinc (i := 3) (lv' := [some (.ref (jm_a E 0 0)), some (.int p1), some (.int x7), some (.int (s1.2 + 1))]) F dX9_kindsOn_37 kc_1 rfl (by decide) rfl rfl ?_
          refine jm_goto F dX9_kindsOn_40 ?_
          exact jm_weakD F (lv' := [some (.ref (jm_a E 0 0)), some (.int p1), some (.int x7), some (.int (s1.2 + 1))]) ⟨rfl, rfl, rfl, rfl, trivial⟩ (fun h => h)
    · refine jm_iload_n (i := 2) F dX9_kindsOn_43 rfl rfl ?_
      exact jm_iret F dX9_kindsOn_44 (fun h => h)
  exact G r h hz
theorem dX9_manyOn_0 : jm_d cX9_manyOn 0 (.iconst 0) 1 1 := ⟨by decide +kernel, rfl⟩
theorem dX9_manyOn_1 : jm_d cX9_manyOn 1 (.istore_n 3) 1 2 := ⟨by decide +kernel, rfl⟩
theorem dX9_manyOn_2 : jm_d cX9_manyOn 2 (.iconst 0) 1 3 := ⟨by decide +kernel, rfl⟩
theorem dX9_manyOn_3 : jm_d cX9_manyOn 3 (.istore 4) 2 5 := ⟨by decide +kernel, rfl⟩
theorem dX9_manyOn_5 : jm_d cX9_manyOn 5 (.iload 4) 2 7 := ⟨by decide +kernel, rfl⟩
theorem dX9_manyOn_7 : jm_d cX9_manyOn 7 (.aload_n 0) 1 8 := ⟨by decide +kernel, rfl⟩
theorem dX9_manyOn_8 : jm_d cX9_manyOn 8 (.getfield 106) 3 11 := ⟨by decide +kernel, rfl⟩
theorem dX9_manyOn_11 : jm_b cX9_manyOn 11 (.if_icmp .ge) 14 50 := ⟨39, by decide +kernel, rfl, by decide⟩
theorem dX9_manyOn_14 : jm_d cX9_manyOn 14 (.iload_n 3) 1 15 := ⟨by decide +kernel, rfl⟩
theorem dX9_manyOn_15 : jm_d cX9_manyOn 15 (.aload_n 0) 1 16 := ⟨by decide +kernel, rfl⟩
theorem dX9_manyOn_16 : jm_d cX9_manyOn 16 (.getfield 31) 3 19 := ⟨by decide +kernel, rfl⟩
theorem dX9_manyOn_19 : jm_d cX9_manyOn 19 (.iload 4) 2 21 := ⟨by decide +kernel, rfl⟩
theorem dX9_manyOn_21 : jm_d cX9_manyOn 21 (.iaload) 1 22 := ⟨by decide +kernel, rfl⟩
theorem dX9_manyOn_22 : jm_d cX9_manyOn 22 (.iload_n 1) 1 23 := ⟨by decide +kernel, rfl⟩
theorem dX9_manyOn_23 : jm_b cX9_manyOn 23 (.if_icmp .ne) 26 41 := ⟨18, by decide +kernel, rfl, by decide⟩
theorem dX9_manyOn_26 : jm_d cX9_manyOn 26 (.aload_n 0) 1 27 := ⟨by decide +kernel, rfl⟩
theorem dX9_manyOn_27 : jm_d cX9_manyOn 27 (.getfield 22) 3 30 := ⟨by decide +kernel, rfl⟩
theorem dX9_manyOn_30 : jm_d cX9_manyOn 30 (.iload 4) 2 32 := ⟨by decide +kernel, rfl⟩
theorem dX9_manyOn_32 : jm_d cX9_manyOn 32 (.iaload) 1 33 := ⟨by decide +kernel, rfl⟩
theorem dX9_manyOn_33 : jm_d cX9_manyOn 33 (.iload_n 2) 1 34 := ⟨by decide +kernel, rfl⟩
theorem dX9_manyOn_34 : jm_b cX9_manyOn 34 (.if_icmp .ne) 37 41 := ⟨7, by decide +kernel, rfl, by decide⟩
theorem dX9_manyOn_37 : jm_d cX9_manyOn 37 (.iconst 1) 1 38 := ⟨by decide +kernel, rfl⟩
theorem dX9_manyOn_38 : jm_b cX9_manyOn 38 .goto 41 42 := ⟨4, by decide +kernel, rfl, by decide⟩
theorem dX9_manyOn_42 : jm_d cX9_manyOn 42 (.iadd) 1 43 := ⟨by decide +kernel, rfl⟩
theorem dX9_manyOn_43 : jm_d cX9_manyOn 43 (.istore_n 3) 1 44 := ⟨by decide +kernel, rfl⟩
theorem dX9_manyOn_44 : jm_d cX9_manyOn 44 (.iinc 4 1) 3 47 := ⟨by decide +kernel, rfl⟩
theorem dX9_manyOn_47 : jm_b cX9_manyOn 47 .goto 50 5 := ⟨(-42), by decide +kernel, rfl, by decide⟩
theorem dX9_manyOn_41 : jm_d cX9_manyOn 41 (.iconst 0) 1 42 := ⟨by decide +kernel, rfl⟩
theorem dX9_manyOn_50 : jm_d cX9_manyOn 50 (.iload_n 3) 1 51 := ⟨by decide +kernel, rfl⟩
theorem dX9_manyOn_51 : jm_d cX9_manyOn 51 (.ireturn) 1 52 := ⟨by decide +kernel, rfl⟩
set_option maxHeartbeats 4000000 in
set_option maxRecDepth 100000 in
theorem kM_manyOn (E : jm_Ev) (hE : jm_dj E jm_LM) {M : jm_M} {p1 : Int32} {p2 : Int32}  {r : Int32} (h : sM_manyOn M p1 p2 = some r) : jm_Ct E jm_LM yX9_manyOn cX9_manyOn 5 (some .int) 0 0 [.ref (jm_a E 0 0), .int p1, .int p2] M (some (.int r)) M := by
  refine jm_enter (lv := [some (.ref (jm_a E 0 0)), some (.int p1), some (.int p2), none, none]) hE (by decide) (Nat.le_of_ble_eq_true rfl) rfl ?_
  intro z w F hz
  have G : jm_G w 0 [some (.ref (jm_a E 0 0)), some (.int p1), some (.int p2), none, none] [] M (sM_manyOn M p1 p2) (fun e => z (some (.int e)) M) := by
    unfold sM_manyOn
    refine jm_iconst F dX9_manyOn_0 kc_0 ?_
    refine jm_istore_n (i := 3) (lv' := [some (.ref (jm_a E 0 0)), some (.int p1), some (.int p2), some (.int 0), none]) F dX9_manyOn_1 rfl (by decide) rfl rfl ?_
    refine jm_iconst F dX9_manyOn_2 kc_0 ?_
    refine jm_istore (i := 4) (lv' := [some (.ref (jm_a E 0 0)), some (.int p1), some (.int p2), some (.int 0), some (.int 0)]) F dX9_manyOn_3 (by decide) rfl rfl ?_
    refine jm_bind (pcJ := 50) (lvJ := fun e10 => [none, none, none, some (.int e10), none]) (stJ := fun _ => []) (MJ := fun e10 => M) ?_ (fun e10 => ?_)
    · refine jm_weak F (lv' := [some (.ref (jm_a E 0 0)), some (.int p1), some (.int p2), some (.int 0), some (.int 0)]) ⟨rfl, rfl, rfl, rfl, rfl, trivial⟩ ?_
      refine jm_loopR (lvH := fun s1 => [some (.ref (jm_a E 0 0)), some (.int p1), some (.int p2), some (.int s1.1), some (.int s1.2)]) (MH := fun s1 => M) (fun s1 => ?_) jm_N (0, 0)
      unfold sM_manyOn_L5
      refine jm_iload F dX9_manyOn_5 rfl ?_
      refine jm_aload_n (i := 0) F dX9_manyOn_7 rfl rfl ?_
      refine jm_getI F dX9_manyOn_8 fl_X9_106 lo_X9 rfl ?_
      refine jm_icmp_ge F dX9_manyOn_11 (fun c2 => ?_) (fun c2 => ?_)
      · exact jm_weakD F (lv' := [none, none, none, some (.int s1.1), none]) ⟨rfl, trivial⟩ (fun h => h)
      · refine jm_iload_n (i := 3) F dX9_manyOn_14 rfl rfl ?_
        refine jm_aload_n (i := 0) F dX9_manyOn_15 rfl rfl ?_
        refine jm_getR F dX9_manyOn_16 fl_X9_31 lo_X9 rfl ?_
        refine jm_iload F dX9_manyOn_19 rfl ?_
        refine jm_iald F dX9_manyOn_21 la_X9_8 (fun v3 => ?_)
        refine jm_iload_n (i := 1) F dX9_manyOn_22 rfl rfl ?_
        refine jm_icmp_ne F dX9_manyOn_23 (fun c4 => ?_) (fun c4 => ?_)
        · refine jm_aload_n (i := 0) F dX9_manyOn_26 rfl rfl ?_
          refine jm_getR F dX9_manyOn_27 fl_X9_22 lo_X9 rfl ?_
          refine jm_iload F dX9_manyOn_30 rfl ?_
          refine jm_iald F dX9_manyOn_32 la_X9_5 (fun v5 => ?_)
          refine jm_iload_n (i := 2) F dX9_manyOn_33 rfl rfl ?_
          refine jm_icmp_ne F dX9_manyOn_34 (fun c6 => ?_) (fun c6 => ?_)
          · refine jm_iconst F dX9_manyOn_37 kc_1 ?_
            refine jm_goto F dX9_manyOn_38 ?_
            refine jm_iadd F dX9_manyOn_42 ?_
            refine jm_nameI (f := fun x7 => [.int x7]) (fun x7 => ?_) rfl
            refine jm_istore_n (i := 3) (lv' := [some (.ref (jm_a E 0 0)), some (.int p1), some (.int p2), some (.int x7), some (.int s1.2)]) F dX9_manyOn_43 rfl (by decide) rfl rfl ?_
            refine jm_iinc (i := 4) (lv' := [some (.ref (jm_a E 0 0)), some (.int p1), some (.int p2), some (.int x7), some (.int (s1.2 + 1))]) F dX9_manyOn_44 kc_1 rfl (by decide) rfl rfl ?_
            refine jm_goto F dX9_manyOn_47 ?_
            exact jm_weakD F (lv' := [some (.ref (jm_a E 0 0)), some (.int p1), some (.int p2), some (.int x7), some (.int (s1.2 + 1))]) ⟨rfl, rfl, rfl, rfl, rfl, trivial⟩ (fun h => h)
          · refine jm_iconst F dX9_manyOn_41 kc_0 ?_
            refine jm_iadd F dX9_manyOn_42 ?_
            refine jm_nameI (f := fun x8 => [.int x8]) (fun x8 => ?_) rfl
            refine jm_istore_n (i := 3) (lv' := [some (.ref (jm_a E 0 0)), some (.int p1), some (.int p2), some (.int x8), some (.int s1.2)]) F dX9_manyOn_43 rfl (by decide) rfl rfl ?_
            refine jm_iinc (i := 4) (lv' := [some (.ref (jm_a E 0 0)), some (.int p1), some (.int p2), some (.int x8), some (.int (s1.2 + 1))]) F dX9_manyOn_44 kc_1 rfl (by decide) rfl rfl ?_
            refine jm_goto F dX9_manyOn_47 ?_
            exact jm_weakD F (lv' := [some (.ref (jm_a E 0 0)), some (.int p1), some (.int p2), some (.int x8), some (.int (s1.2 + 1))]) ⟨rfl, rfl, rfl, rfl, rfl, trivial⟩ (fun h => h)
        · refine jm_iconst F dX9_manyOn_41 kc_0 ?_
          refine jm_iadd F dX9_manyOn_42 ?_
          refine jm_nameI (f := fun x9 => [.int x9]) (fun x9 => ?_) rfl
          refine jm_istore_n (i := 3) (lv' := [some (.ref (jm_a E 0 0)), some (.int p1), some (.int p2), some (.int x9), some (.int s1.2)]) F dX9_manyOn_43 rfl (by decide) rfl rfl ?_
          refine jm_iinc (i := 4) (lv' := [some (.ref (jm_a E 0 0)), some (.int p1), some (.int p2), some (.int x9), some (.int (s1.2 + 1))]) F dX9_manyOn_44 kc_1 rfl (by decide) rfl rfl ?_
          refine jm_goto F dX9_manyOn_47 ?_
          exact jm_weakD F (lv' := [some (.ref (jm_a E 0 0)), some (.int p1), some (.int p2), some (.int x9), some (.int (s1.2 + 1))]) ⟨rfl, rfl, rfl, rfl, rfl, trivial⟩ (fun h => h)
    · refine jm_iload_n (i := 3) F dX9_manyOn_50 rfl rfl ?_
      exact jm_iret F dX9_manyOn_51 (fun h => h)
  exact G r h hz
theorem dX9_mostOn_0 : jm_d cX9_mostOn 0 (.bipush (-9)) 2 2 := ⟨by decide +kernel, rfl⟩
theorem dX9_mostOn_2 : jm_d cX9_mostOn 2 (.istore_n 2) 1 3 := ⟨by decide +kernel, rfl⟩
theorem dX9_mostOn_3 : jm_d cX9_mostOn 3 (.iconst 0) 1 4 := ⟨by decide +kernel, rfl⟩
theorem dX9_mostOn_4 : jm_d cX9_mostOn 4 (.istore_n 3) 1 5 := ⟨by decide +kernel, rfl⟩
theorem dX9_mostOn_5 : jm_d cX9_mostOn 5 (.iload_n 3) 1 6 := ⟨by decide +kernel, rfl⟩
theorem dX9_mostOn_6 : jm_d cX9_mostOn 6 (.bipush 8) 2 8 := ⟨by decide +kernel, rfl⟩
theorem dX9_mostOn_8 : jm_b cX9_mostOn 8 (.if_icmp .ge) 11 42 := ⟨34, by decide +kernel, rfl, by decide⟩
theorem dX9_mostOn_11 : jm_d cX9_mostOn 11 (.aload_n 0) 1 12 := ⟨by decide +kernel, rfl⟩
theorem dX9_mostOn_12 : jm_d cX9_mostOn 12 (.iload_n 1) 1 13 := ⟨by decide +kernel, rfl⟩
theorem dX9_mostOn_13 : jm_d cX9_mostOn 13 (.iload_n 3) 1 14 := ⟨by decide +kernel, rfl⟩
theorem dX9_mostOn_14 : jm_d cX9_mostOn 14 (.invokevirtual 380) 3 17 := ⟨by decide +kernel, rfl⟩
theorem dX9_mostOn_17 : jm_d cX9_mostOn 17 (.iload_n 2) 1 18 := ⟨by decide +kernel, rfl⟩
theorem dX9_mostOn_18 : jm_b cX9_mostOn 18 (.ifCond .ge) 21 25 := ⟨7, by decide +kernel, rfl, by decide⟩
theorem dX9_mostOn_25 : jm_d cX9_mostOn 25 (.aload_n 0) 1 26 := ⟨by decide +kernel, rfl⟩
theorem dX9_mostOn_26 : jm_d cX9_mostOn 26 (.iload_n 1) 1 27 := ⟨by decide +kernel, rfl⟩
theorem dX9_mostOn_27 : jm_d cX9_mostOn 27 (.iload_n 2) 1 28 := ⟨by decide +kernel, rfl⟩
theorem dX9_mostOn_28 : jm_d cX9_mostOn 28 (.invokevirtual 380) 3 31 := ⟨by decide +kernel, rfl⟩
theorem dX9_mostOn_21 : jm_d cX9_mostOn 21 (.iconst 0) 1 22 := ⟨by decide +kernel, rfl⟩
theorem dX9_mostOn_22 : jm_b cX9_mostOn 22 .goto 25 31 := ⟨9, by decide +kernel, rfl, by decide⟩
theorem dX9_mostOn_31 : jm_b cX9_mostOn 31 (.if_icmp .le) 34 36 := ⟨5, by decide +kernel, rfl, by decide⟩
theorem dX9_mostOn_36 : jm_d cX9_mostOn 36 (.iinc 3 1) 3 39 := ⟨by decide +kernel, rfl⟩
theorem dX9_mostOn_39 : jm_b cX9_mostOn 39 .goto 42 5 := ⟨(-34), by decide +kernel, rfl, by decide⟩
theorem dX9_mostOn_34 : jm_d cX9_mostOn 34 (.iload_n 3) 1 35 := ⟨by decide +kernel, rfl⟩
theorem dX9_mostOn_35 : jm_d cX9_mostOn 35 (.istore_n 2) 1 36 := ⟨by decide +kernel, rfl⟩
theorem dX9_mostOn_42 : jm_d cX9_mostOn 42 (.iload_n 2) 1 43 := ⟨by decide +kernel, rfl⟩
theorem dX9_mostOn_43 : jm_d cX9_mostOn 43 (.ireturn) 1 44 := ⟨by decide +kernel, rfl⟩
set_option maxHeartbeats 4000000 in
set_option maxRecDepth 100000 in
theorem kM_mostOn (E : jm_Ev) (hE : jm_dj E jm_LM) {M : jm_M} {p1 : Int32}  {r : Int32} (h : sM_mostOn M p1 = some r) : jm_Ct E jm_LM yX9_mostOn cX9_mostOn 4 (some .int) 1 24 [.ref (jm_a E 0 0), .int p1] M (some (.int r)) M := by
  refine jm_enter (lv := [some (.ref (jm_a E 0 0)), some (.int p1), none, none]) hE (by decide) (Nat.le_of_ble_eq_true rfl) rfl ?_
  intro z w F hz
  have G : jm_G w 0 [some (.ref (jm_a E 0 0)), some (.int p1), none, none] [] M (sM_mostOn M p1) (fun e => z (some (.int e)) M) := by
    unfold sM_mostOn
    refine jm_bipush F dX9_mostOn_0 kb_m9 ?_
    refine jm_istore_n (i := 2) (lv' := [some (.ref (jm_a E 0 0)), some (.int p1), some (.int (-9)), none]) F dX9_mostOn_2 rfl (by decide) rfl rfl ?_
    refine jm_iconst F dX9_mostOn_3 kc_0 ?_
    refine jm_istore_n (i := 3) (lv' := [some (.ref (jm_a E 0 0)), some (.int p1), some (.int (-9)), some (.int 0)]) F dX9_mostOn_4 rfl (by decide) rfl rfl ?_
    refine jm_bind (pcJ := 42) (lvJ := fun e8 => [none, none, some (.int e8), none]) (stJ := fun _ => []) (MJ := fun e8 => M) ?_ (fun e8 => ?_)
    · refine jm_weak F (lv' := [some (.ref (jm_a E 0 0)), some (.int p1), some (.int (-9)), some (.int 0)]) ⟨rfl, rfl, rfl, rfl, trivial⟩ ?_
      refine jm_loopR (lvH := fun s1 => [some (.ref (jm_a E 0 0)), some (.int p1), some (.int s1.1), some (.int s1.2)]) (MH := fun s1 => M) (fun s1 => ?_) jm_N ((-9), 0)
      unfold sM_mostOn_L5
      refine jm_iload_n (i := 3) F dX9_mostOn_5 rfl rfl ?_
      refine jm_bipush F dX9_mostOn_6 kb_8 ?_
      refine jm_icmp_ge F dX9_mostOn_8 (fun c2 => ?_) (fun c2 => ?_)
      · exact jm_weakD F (lv' := [none, none, some (.int s1.1), none]) ⟨rfl, trivial⟩ (fun h => h)
      · refine jm_aload_n (i := 0) F dX9_mostOn_11 rfl rfl ?_
        refine jm_iload_n (i := 1) F dX9_mostOn_12 rfl rfl ?_
        refine jm_iload_n (i := 3) F dX9_mostOn_13 rfl rfl ?_
        refine jm_callV (As := [.int p1, .int s1.2]) (st := []) (rv := fun r => some (.int r)) (mm := fun _ => M) F dX9_mostOn_14 qX9_380 rfl lo_X9 rfl (fun r h => kM_manyOn E hE h) rfl (Nat.le_of_ble_eq_true rfl) ⟨Nat.le_of_ble_eq_true rfl, Nat.le_of_ble_eq_true rfl⟩ (fun r3 => ?_)
        refine jm_iload_n (i := 2) F dX9_mostOn_17 rfl rfl ?_
        refine jm_bind (pcJ := 31) (lvJ := fun e4 => [some (.ref (jm_a E 0 0)), some (.int p1), some (.int s1.1), some (.int s1.2)]) (stJ := fun e4 => [.int e4, .int r3]) (MJ := fun e4 => M) ?_ (fun e4 => ?_)
        · refine jm_if_ge F dX9_mostOn_18 (fun c5 => ?_) (fun c5 => ?_)
          · refine jm_aload_n (i := 0) F dX9_mostOn_25 rfl rfl ?_
            refine jm_iload_n (i := 1) F dX9_mostOn_26 rfl rfl ?_
            refine jm_iload_n (i := 2) F dX9_mostOn_27 rfl rfl ?_
            refine jm_callV (As := [.int p1, .int s1.1]) (st := [.int r3]) (rv := fun r => some (.int r)) (mm := fun _ => M) F dX9_mostOn_28 qX9_380 rfl lo_X9 rfl (fun r h => kM_manyOn E hE h) rfl (Nat.le_of_ble_eq_true rfl) ⟨Nat.le_of_ble_eq_true rfl, Nat.le_of_ble_eq_true rfl⟩ (fun r6 => ?_)
            exact jm_weakD F (lv' := [some (.ref (jm_a E 0 0)), some (.int p1), some (.int s1.1), some (.int s1.2)]) ⟨rfl, rfl, rfl, rfl, trivial⟩ (fun h => h)
          · refine jm_iconst F dX9_mostOn_21 kc_0 ?_
            refine jm_goto F dX9_mostOn_22 ?_
            exact jm_weakD F (lv' := [some (.ref (jm_a E 0 0)), some (.int p1), some (.int s1.1), some (.int s1.2)]) ⟨rfl, rfl, rfl, rfl, trivial⟩ (fun h => h)
        · refine jm_icmp_le F dX9_mostOn_31 (fun c7 => ?_) (fun c7 => ?_)
          · refine jm_iinc (i := 3) (lv' := [some (.ref (jm_a E 0 0)), some (.int p1), some (.int s1.1), some (.int (s1.2 + 1))]) F dX9_mostOn_36 kc_1 rfl (by decide) rfl rfl ?_
            refine jm_goto F dX9_mostOn_39 ?_
            exact jm_weakD F (lv' := [some (.ref (jm_a E 0 0)), some (.int p1), some (.int s1.1), some (.int (s1.2 + 1))]) ⟨rfl, rfl, rfl, rfl, trivial⟩ (fun h => h)
          · refine jm_iload_n (i := 3) F dX9_mostOn_34 rfl rfl ?_
            refine jm_istore_n (i := 2) (lv' := [some (.ref (jm_a E 0 0)), some (.int p1), some (.int s1.2), some (.int s1.2)]) F dX9_mostOn_35 rfl (by decide) rfl rfl ?_
            refine jm_iinc (i := 3) (lv' := [some (.ref (jm_a E 0 0)), some (.int p1), some (.int s1.2), some (.int (s1.2 + 1))]) F dX9_mostOn_36 kc_1 rfl (by decide) rfl rfl ?_
            refine jm_goto F dX9_mostOn_39 ?_
            exact jm_weakD F (lv' := [some (.ref (jm_a E 0 0)), some (.int p1), some (.int s1.2), some (.int (s1.2 + 1))]) ⟨rfl, rfl, rfl, rfl, trivial⟩ (fun h => h)
    · refine jm_iload_n (i := 2) F dX9_mostOn_42 rfl rfl ?_
      exact jm_iret F dX9_mostOn_43 (fun h => h)
  exact G r h hz
theorem dX9_pricesOn_0 : jm_d cX9_pricesOn 0 (.iconst 0) 1 1 := ⟨by decide +kernel, rfl⟩
theorem dX9_pricesOn_1 : jm_d cX9_pricesOn 1 (.istore_n 2) 1 2 := ⟨by decide +kernel, rfl⟩
theorem dX9_pricesOn_2 : jm_d cX9_pricesOn 2 (.iconst 0) 1 3 := ⟨by decide +kernel, rfl⟩
theorem dX9_pricesOn_3 : jm_d cX9_pricesOn 3 (.istore_n 3) 1 4 := ⟨by decide +kernel, rfl⟩
theorem dX9_pricesOn_4 : jm_d cX9_pricesOn 4 (.iload_n 3) 1 5 := ⟨by decide +kernel, rfl⟩
theorem dX9_pricesOn_5 : jm_d cX9_pricesOn 5 (.aload_n 0) 1 6 := ⟨by decide +kernel, rfl⟩
theorem dX9_pricesOn_6 : jm_d cX9_pricesOn 6 (.getfield 106) 3 9 := ⟨by decide +kernel, rfl⟩
theorem dX9_pricesOn_9 : jm_b cX9_pricesOn 9 (.if_icmp .ge) 12 40 := ⟨31, by decide +kernel, rfl, by decide⟩
theorem dX9_pricesOn_12 : jm_d cX9_pricesOn 12 (.iload_n 2) 1 13 := ⟨by decide +kernel, rfl⟩
theorem dX9_pricesOn_13 : jm_d cX9_pricesOn 13 (.aload_n 0) 1 14 := ⟨by decide +kernel, rfl⟩
theorem dX9_pricesOn_14 : jm_d cX9_pricesOn 14 (.getfield 31) 3 17 := ⟨by decide +kernel, rfl⟩
theorem dX9_pricesOn_17 : jm_d cX9_pricesOn 17 (.iload_n 3) 1 18 := ⟨by decide +kernel, rfl⟩
theorem dX9_pricesOn_18 : jm_d cX9_pricesOn 18 (.iaload) 1 19 := ⟨by decide +kernel, rfl⟩
theorem dX9_pricesOn_19 : jm_d cX9_pricesOn 19 (.iload_n 1) 1 20 := ⟨by decide +kernel, rfl⟩
theorem dX9_pricesOn_20 : jm_b cX9_pricesOn 20 (.if_icmp .ne) 23 31 := ⟨11, by decide +kernel, rfl, by decide⟩
theorem dX9_pricesOn_23 : jm_d cX9_pricesOn 23 (.aload_n 0) 1 24 := ⟨by decide +kernel, rfl⟩
theorem dX9_pricesOn_24 : jm_d cX9_pricesOn 24 (.iload_n 3) 1 25 := ⟨by decide +kernel, rfl⟩
theorem dX9_pricesOn_25 : jm_d cX9_pricesOn 25 (.invokevirtual 292) 3 28 := ⟨by decide +kernel, rfl⟩
theorem dX9_pricesOn_28 : jm_b cX9_pricesOn 28 .goto 31 32 := ⟨4, by decide +kernel, rfl, by decide⟩
theorem dX9_pricesOn_32 : jm_d cX9_pricesOn 32 (.iadd) 1 33 := ⟨by decide +kernel, rfl⟩
theorem dX9_pricesOn_33 : jm_d cX9_pricesOn 33 (.istore_n 2) 1 34 := ⟨by decide +kernel, rfl⟩
theorem dX9_pricesOn_34 : jm_d cX9_pricesOn 34 (.iinc 3 1) 3 37 := ⟨by decide +kernel, rfl⟩
theorem dX9_pricesOn_37 : jm_b cX9_pricesOn 37 .goto 40 4 := ⟨(-33), by decide +kernel, rfl, by decide⟩
theorem dX9_pricesOn_31 : jm_d cX9_pricesOn 31 (.iconst 0) 1 32 := ⟨by decide +kernel, rfl⟩
theorem dX9_pricesOn_40 : jm_d cX9_pricesOn 40 (.iload_n 2) 1 41 := ⟨by decide +kernel, rfl⟩
theorem dX9_pricesOn_41 : jm_d cX9_pricesOn 41 (.ireturn) 1 42 := ⟨by decide +kernel, rfl⟩
set_option maxHeartbeats 4000000 in
set_option maxRecDepth 100000 in
theorem kM_pricesOn (E : jm_Ev) (hE : jm_dj E jm_LM) {M : jm_M} {p1 : Int32}  {r : Int32} (h : sM_pricesOn M p1 = some r) : jm_Ct E jm_LM yX9_pricesOn cX9_pricesOn 4 (some .int) 1 22 [.ref (jm_a E 0 0), .int p1] M (some (.int r)) M := by
  refine jm_enter (lv := [some (.ref (jm_a E 0 0)), some (.int p1), none, none]) hE (by decide) (Nat.le_of_ble_eq_true rfl) rfl ?_
  intro z w F hz
  have G : jm_G w 0 [some (.ref (jm_a E 0 0)), some (.int p1), none, none] [] M (sM_pricesOn M p1) (fun e => z (some (.int e)) M) := by
    unfold sM_pricesOn
    refine jm_iconst F dX9_pricesOn_0 kc_0 ?_
    refine jm_istore_n (i := 2) (lv' := [some (.ref (jm_a E 0 0)), some (.int p1), some (.int 0), none]) F dX9_pricesOn_1 rfl (by decide) rfl rfl ?_
    refine jm_iconst F dX9_pricesOn_2 kc_0 ?_
    refine jm_istore_n (i := 3) (lv' := [some (.ref (jm_a E 0 0)), some (.int p1), some (.int 0), some (.int 0)]) F dX9_pricesOn_3 rfl (by decide) rfl rfl ?_
    refine jm_bind (pcJ := 40) (lvJ := fun e8 => [none, none, some (.int e8), none]) (stJ := fun _ => []) (MJ := fun e8 => M) ?_ (fun e8 => ?_)
    · refine jm_weak F (lv' := [some (.ref (jm_a E 0 0)), some (.int p1), some (.int 0), some (.int 0)]) ⟨rfl, rfl, rfl, rfl, trivial⟩ ?_
      refine jm_loopR (lvH := fun s1 => [some (.ref (jm_a E 0 0)), some (.int p1), some (.int s1.1), some (.int s1.2)]) (MH := fun s1 => M) (fun s1 => ?_) jm_N (0, 0)
      unfold sM_pricesOn_L4
      refine jm_iload_n (i := 3) F dX9_pricesOn_4 rfl rfl ?_
      refine jm_aload_n (i := 0) F dX9_pricesOn_5 rfl rfl ?_
      refine jm_getI F dX9_pricesOn_6 fl_X9_106 lo_X9 rfl ?_
      refine jm_icmp_ge F dX9_pricesOn_9 (fun c2 => ?_) (fun c2 => ?_)
      · exact jm_weakD F (lv' := [none, none, some (.int s1.1), none]) ⟨rfl, trivial⟩ (fun h => h)
      · refine jm_iload_n (i := 2) F dX9_pricesOn_12 rfl rfl ?_
        refine jm_aload_n (i := 0) F dX9_pricesOn_13 rfl rfl ?_
        refine jm_getR F dX9_pricesOn_14 fl_X9_31 lo_X9 rfl ?_
        refine jm_iload_n (i := 3) F dX9_pricesOn_17 rfl rfl ?_
        refine jm_iald F dX9_pricesOn_18 la_X9_8 (fun v3 => ?_)
        refine jm_iload_n (i := 1) F dX9_pricesOn_19 rfl rfl ?_
        refine jm_icmp_ne F dX9_pricesOn_20 (fun c4 => ?_) (fun c4 => ?_)
        · refine jm_aload_n (i := 0) F dX9_pricesOn_23 rfl rfl ?_
          refine jm_iload_n (i := 3) F dX9_pricesOn_24 rfl rfl ?_
          refine jm_callV (As := [.int s1.2]) (st := [.int s1.1]) (rv := fun r => some (.int r)) (mm := fun _ => M) F dX9_pricesOn_25 qX9_292 rfl lo_X9 rfl (fun r h => kM_price E hE h) rfl (Nat.le_of_ble_eq_true rfl) ⟨Nat.le_of_ble_eq_true rfl, Nat.le_of_ble_eq_true rfl⟩ (fun r5 => ?_)
          refine jm_goto F dX9_pricesOn_28 ?_
          refine jm_iadd F dX9_pricesOn_32 ?_
          refine jm_nameI (f := fun x6 => [.int x6]) (fun x6 => ?_) rfl
          refine jm_istore_n (i := 2) (lv' := [some (.ref (jm_a E 0 0)), some (.int p1), some (.int x6), some (.int s1.2)]) F dX9_pricesOn_33 rfl (by decide) rfl rfl ?_
          refine jm_iinc (i := 3) (lv' := [some (.ref (jm_a E 0 0)), some (.int p1), some (.int x6), some (.int (s1.2 + 1))]) F dX9_pricesOn_34 kc_1 rfl (by decide) rfl rfl ?_
          refine jm_goto F dX9_pricesOn_37 ?_
          exact jm_weakD F (lv' := [some (.ref (jm_a E 0 0)), some (.int p1), some (.int x6), some (.int (s1.2 + 1))]) ⟨rfl, rfl, rfl, rfl, trivial⟩ (fun h => h)
        · refine jm_iconst F dX9_pricesOn_31 kc_0 ?_
          refine jm_iadd F dX9_pricesOn_32 ?_
          refine jm_nameI (f := fun x7 => [.int x7]) (fun x7 => ?_) rfl
          refine jm_istore_n (i := 2) (lv' := [some (.ref (jm_a E 0 0)), some (.int p1), some (.int x7), some (.int s1.2)]) F dX9_pricesOn_33 rfl (by decide) rfl rfl ?_
          refine jm_iinc (i := 3) (lv' := [some (.ref (jm_a E 0 0)), some (.int p1), some (.int x7), some (.int (s1.2 + 1))]) F dX9_pricesOn_34 kc_1 rfl (by decide) rfl rfl ?_
          refine jm_goto F dX9_pricesOn_37 ?_
          exact jm_weakD F (lv' := [some (.ref (jm_a E 0 0)), some (.int p1), some (.int x7), some (.int (s1.2 + 1))]) ⟨rfl, rfl, rfl, rfl, trivial⟩ (fun h => h)
    · refine jm_iload_n (i := 2) F dX9_pricesOn_40 rfl rfl ?_
      exact jm_iret F dX9_pricesOn_41 (fun h => h)
  exact G r h hz
theorem dX9_shelf_0 : jm_d cX9_shelf 0 (.aload_n 0) 1 1 := ⟨by decide +kernel, rfl⟩
theorem dX9_shelf_1 : jm_d cX9_shelf 1 (.iload_n 1) 1 2 := ⟨by decide +kernel, rfl⟩
theorem dX9_shelf_2 : jm_d cX9_shelf 2 (.invokevirtual 217) 3 5 := ⟨by decide +kernel, rfl⟩
theorem dX9_shelf_5 : jm_b cX9_shelf 5 (.ifCond .ne) 8 14 := ⟨9, by decide +kernel, rfl, by decide⟩
theorem dX9_shelf_8 : jm_d cX9_shelf 8 (.aload_n 0) 1 9 := ⟨by decide +kernel, rfl⟩
theorem dX9_shelf_9 : jm_d cX9_shelf 9 (.iconst (-1)) 1 10 := ⟨by decide +kernel, rfl⟩
theorem dX9_shelf_10 : jm_d cX9_shelf 10 (.invokevirtual 172) 3 13 := ⟨by decide +kernel, rfl⟩
theorem dX9_shelf_13 : jm_d cX9_shelf 13 (.ireturn) 1 14 := ⟨by decide +kernel, rfl⟩
theorem dX9_shelf_14 : jm_d cX9_shelf 14 (.iload_n 2) 1 15 := ⟨by decide +kernel, rfl⟩
theorem dX9_shelf_15 : decode cX9_shelf 15 = .ok (.tableswitch 60 0 3 #[29, 42, 48, 54], 29) := by decide +kernel
theorem dX9_shelf_44 : jm_d cX9_shelf 44 (.aload_n 0) 1 45 := ⟨by decide +kernel, rfl⟩
theorem dX9_shelf_45 : jm_d cX9_shelf 45 (.getfield 31) 3 48 := ⟨by decide +kernel, rfl⟩
theorem dX9_shelf_48 : jm_d cX9_shelf 48 (.aload_n 0) 1 49 := ⟨by decide +kernel, rfl⟩
theorem dX9_shelf_49 : jm_d cX9_shelf 49 (.getfield 106) 3 52 := ⟨by decide +kernel, rfl⟩
theorem dX9_shelf_52 : jm_d cX9_shelf 52 (.iload_n 1) 1 53 := ⟨by decide +kernel, rfl⟩
theorem dX9_shelf_53 : jm_d cX9_shelf 53 (.invokestatic 285) 3 56 := ⟨by decide +kernel, rfl⟩
theorem dX9_shelf_56 : jm_d cX9_shelf 56 (.ireturn) 1 57 := ⟨by decide +kernel, rfl⟩
theorem dX9_shelf_57 : jm_d cX9_shelf 57 (.aload_n 0) 1 58 := ⟨by decide +kernel, rfl⟩
theorem dX9_shelf_58 : jm_d cX9_shelf 58 (.iload_n 1) 1 59 := ⟨by decide +kernel, rfl⟩
theorem dX9_shelf_59 : jm_d cX9_shelf 59 (.invokevirtual 383) 3 62 := ⟨by decide +kernel, rfl⟩
theorem dX9_shelf_62 : jm_d cX9_shelf 62 (.ireturn) 1 63 := ⟨by decide +kernel, rfl⟩
theorem dX9_shelf_63 : jm_d cX9_shelf 63 (.aload_n 0) 1 64 := ⟨by decide +kernel, rfl⟩
theorem dX9_shelf_64 : jm_d cX9_shelf 64 (.iload_n 1) 1 65 := ⟨by decide +kernel, rfl⟩
theorem dX9_shelf_65 : jm_d cX9_shelf 65 (.invokevirtual 386) 3 68 := ⟨by decide +kernel, rfl⟩
theorem dX9_shelf_68 : jm_d cX9_shelf 68 (.ireturn) 1 69 := ⟨by decide +kernel, rfl⟩
theorem dX9_shelf_69 : jm_d cX9_shelf 69 (.aload_n 0) 1 70 := ⟨by decide +kernel, rfl⟩
theorem dX9_shelf_70 : jm_d cX9_shelf 70 (.iload_n 1) 1 71 := ⟨by decide +kernel, rfl⟩
theorem dX9_shelf_71 : jm_d cX9_shelf 71 (.invokevirtual 389) 3 74 := ⟨by decide +kernel, rfl⟩
theorem dX9_shelf_74 : jm_d cX9_shelf 74 (.ireturn) 1 75 := ⟨by decide +kernel, rfl⟩
theorem dX9_shelf_75 : jm_d cX9_shelf 75 (.aload_n 0) 1 76 := ⟨by decide +kernel, rfl⟩
theorem dX9_shelf_76 : jm_d cX9_shelf 76 (.bipush (-2)) 2 78 := ⟨by decide +kernel, rfl⟩
theorem dX9_shelf_78 : jm_d cX9_shelf 78 (.invokevirtual 172) 3 81 := ⟨by decide +kernel, rfl⟩
theorem dX9_shelf_81 : jm_d cX9_shelf 81 (.ireturn) 1 82 := ⟨by decide +kernel, rfl⟩
set_option maxHeartbeats 4000000 in
set_option maxRecDepth 100000 in
theorem kM_shelf (E : jm_Ev) (hE : jm_dj E jm_LM) {M : jm_M} {p1 : Int32} {p2 : Int32}  {r : Int32 × jm_M} (h : sM_shelf M p1 p2 = some r) : jm_Ct E jm_LM yX9_shelf cX9_shelf 3 (some .int) 3 64 [.ref (jm_a E 0 0), .int p1, .int p2] M (some (.int r.1)) r.2 := by
  refine jm_enter (lv := [some (.ref (jm_a E 0 0)), some (.int p1), some (.int p2)]) hE (by decide) (Nat.le_of_ble_eq_true rfl) rfl ?_
  intro z w F hz
  have G : jm_G w 0 [some (.ref (jm_a E 0 0)), some (.int p1), some (.int p2)] [] M (sM_shelf M p1 p2) (fun e => z (some (.int e.1)) e.2) := by
    unfold sM_shelf
    refine jm_aload_n (i := 0) F dX9_shelf_0 rfl rfl ?_
    refine jm_iload_n (i := 1) F dX9_shelf_1 rfl rfl ?_
    refine jm_callV (As := [.int p1]) (st := []) (rv := fun r => some (.int r)) (mm := fun _ => M) F dX9_shelf_2 qX9_217 rfl lo_X9 rfl (fun r h => kM_isPlace E hE h) rfl (Nat.le_of_ble_eq_true rfl) ⟨Nat.le_of_ble_eq_true rfl, Nat.le_of_ble_eq_true rfl⟩ (fun r1 => ?_)
    refine jm_if_ne F dX9_shelf_5 (fun c2 => ?_) (fun c2 => ?_)
    · refine jm_aload_n (i := 0) F dX9_shelf_8 rfl rfl ?_
      refine jm_iconst F dX9_shelf_9 kc_m1 ?_
      refine jm_callV (As := [.int (-1)]) (st := []) (rv := fun r => some (.int r.1)) (mm := fun r => r.2) F dX9_shelf_10 qX9_172 rfl lo_X9 rfl (fun r h => kM_no E hE h) rfl (Nat.le_of_ble_eq_true rfl) ⟨Nat.le_of_ble_eq_true rfl, Nat.le_of_ble_eq_true rfl⟩ (fun r3 => ?_)
      exact jm_iret F dX9_shelf_13 (fun h => h)
    · refine jm_iload_n (i := 2) F dX9_shelf_14 rfl rfl ?_
      refine jm_ite (fun c4 => ?_) (fun c4 => ?_)
      · refine jm_tsw (tgt := 44) F dX9_shelf_15 c4 (by decide) (by decide) rfl (by decide) ?_
        refine jm_aload_n (i := 0) F dX9_shelf_44 rfl rfl ?_
        refine jm_getR F dX9_shelf_45 fl_X9_31 lo_X9 rfl ?_
        refine jm_aload_n (i := 0) F dX9_shelf_48 rfl rfl ?_
        refine jm_getI F dX9_shelf_49 fl_X9_106 lo_X9 rfl ?_
        refine jm_iload_n (i := 1) F dX9_shelf_52 rfl rfl ?_
        refine jm_callS (As := [.ref (jm_a E 0 8), .int (M 0 0 14), .int p1]) (st := []) (rv := fun r => some (.int r)) (mm := fun _ => M) F dX9_shelf_53 qX9_285 rfl (fun r h => kM_manyIn E hE h) rfl (Nat.le_of_ble_eq_true rfl) ⟨Nat.le_of_ble_eq_true rfl, Nat.le_of_ble_eq_true rfl⟩ (fun r5 => ?_)
        exact jm_iret F dX9_shelf_56 (fun h => h)
      · refine jm_ite (fun c6 => ?_) (fun c6 => ?_)
        · refine jm_tsw (tgt := 57) F dX9_shelf_15 c6 (by decide) (by decide) rfl (by decide) ?_
          refine jm_aload_n (i := 0) F dX9_shelf_57 rfl rfl ?_
          refine jm_iload_n (i := 1) F dX9_shelf_58 rfl rfl ?_
          refine jm_callV (As := [.int p1]) (st := []) (rv := fun r => some (.int r)) (mm := fun _ => M) F dX9_shelf_59 qX9_383 rfl lo_X9 rfl (fun r h => kM_kindsOn E hE h) rfl (Nat.le_of_ble_eq_true rfl) ⟨Nat.le_of_ble_eq_true rfl, Nat.le_of_ble_eq_true rfl⟩ (fun r7 => ?_)
          exact jm_iret F dX9_shelf_62 (fun h => h)
        · refine jm_ite (fun c8 => ?_) (fun c8 => ?_)
          · refine jm_tsw (tgt := 63) F dX9_shelf_15 c8 (by decide) (by decide) rfl (by decide) ?_
            refine jm_aload_n (i := 0) F dX9_shelf_63 rfl rfl ?_
            refine jm_iload_n (i := 1) F dX9_shelf_64 rfl rfl ?_
            refine jm_callV (As := [.int p1]) (st := []) (rv := fun r => some (.int r)) (mm := fun _ => M) F dX9_shelf_65 qX9_386 rfl lo_X9 rfl (fun r h => kM_pricesOn E hE h) rfl (Nat.le_of_ble_eq_true rfl) ⟨Nat.le_of_ble_eq_true rfl, Nat.le_of_ble_eq_true rfl⟩ (fun r9 => ?_)
            exact jm_iret F dX9_shelf_68 (fun h => h)
          · refine jm_ite (fun c10 => ?_) (fun c10 => ?_)
            · refine jm_tsw (tgt := 69) F dX9_shelf_15 c10 (by decide) (by decide) rfl (by decide) ?_
              refine jm_aload_n (i := 0) F dX9_shelf_69 rfl rfl ?_
              refine jm_iload_n (i := 1) F dX9_shelf_70 rfl rfl ?_
              refine jm_callV (As := [.int p1]) (st := []) (rv := fun r => some (.int r)) (mm := fun _ => M) F dX9_shelf_71 qX9_389 rfl lo_X9 rfl (fun r h => kM_mostOn E hE h) rfl (Nat.le_of_ble_eq_true rfl) ⟨Nat.le_of_ble_eq_true rfl, Nat.le_of_ble_eq_true rfl⟩ (fun r11 => ?_)
              exact jm_iret F dX9_shelf_74 (fun h => h)
            · refine jm_tsd (tgt := 75) F dX9_shelf_15 (by
                  have e0 := jm_ne c4 (a := 0) (by decide)
                  have e1 := jm_ne c6 (a := 1) (by decide)
                  have e2 := jm_ne c8 (a := 2) (by decide)
                  have e3 := jm_ne c10 (a := 3) (by decide)
                  omega) (by decide) ?_
              refine jm_aload_n (i := 0) F dX9_shelf_75 rfl rfl ?_
              refine jm_bipush F dX9_shelf_76 kb_m2 ?_
              refine jm_callV (As := [.int (-2)]) (st := []) (rv := fun r => some (.int r.1)) (mm := fun r => r.2) F dX9_shelf_78 qX9_172 rfl lo_X9 rfl (fun r h => kM_no E hE h) rfl (Nat.le_of_ble_eq_true rfl) ⟨Nat.le_of_ble_eq_true rfl, Nat.le_of_ble_eq_true rfl⟩ (fun r12 => ?_)
              exact jm_iret F dX9_shelf_81 (fun h => h)
  exact G r h hz
theorem dX9_sizeOf_0 : jm_d cX9_sizeOf 0 (.iload_n 0) 1 1 := ⟨by decide +kernel, rfl⟩
theorem dX9_sizeOf_1 : jm_b cX9_sizeOf 1 (.ifCond .ge) 4 9 := ⟨8, by decide +kernel, rfl, by decide⟩
theorem dX9_sizeOf_9 : jm_d cX9_sizeOf 9 (.iload_n 0) 1 10 := ⟨by decide +kernel, rfl⟩
theorem dX9_sizeOf_10 : jm_d cX9_sizeOf 10 (.ireturn) 1 11 := ⟨by decide +kernel, rfl⟩
theorem dX9_sizeOf_4 : jm_d cX9_sizeOf 4 (.iload_n 0) 1 5 := ⟨by decide +kernel, rfl⟩
theorem dX9_sizeOf_5 : jm_d cX9_sizeOf 5 (.ineg) 1 6 := ⟨by decide +kernel, rfl⟩
theorem dX9_sizeOf_6 : jm_b cX9_sizeOf 6 .goto 9 10 := ⟨4, by decide +kernel, rfl, by decide⟩
set_option maxHeartbeats 4000000 in
set_option maxRecDepth 100000 in
theorem kM_sizeOf (E : jm_Ev) (hE : jm_dj E jm_LM) {p1 : Int32} {M : jm_M}  {r : Int32} (h : sM_sizeOf p1 = some r) : jm_Ct E jm_LM yX9_sizeOf cX9_sizeOf 1 (some .int) 0 0 [.int p1] M (some (.int r)) M := by
  refine jm_enter (lv := [some (.int p1)]) hE (by decide) (Nat.le_of_ble_eq_true rfl) rfl ?_
  intro z w F hz
  have G : jm_G w 0 [some (.int p1)] [] M (sM_sizeOf p1) (fun e => z (some (.int e)) M) := by
    unfold sM_sizeOf
    refine jm_iload_n (i := 0) F dX9_sizeOf_0 rfl rfl ?_
    refine jm_if_ge F dX9_sizeOf_1 (fun c1 => ?_) (fun c1 => ?_)
    · refine jm_iload_n (i := 0) F dX9_sizeOf_9 rfl rfl ?_
      exact jm_iret F dX9_sizeOf_10 (fun h => h)
    · refine jm_iload_n (i := 0) F dX9_sizeOf_4 rfl rfl ?_
      refine jm_ineg F dX9_sizeOf_5 ?_
      refine jm_goto F dX9_sizeOf_6 ?_
      exact jm_iret F dX9_sizeOf_10 (fun h => h)
  exact G r h hz
theorem dX9_closest_0 : jm_d cX9_closest 0 (.bipush (-9)) 2 2 := ⟨by decide +kernel, rfl⟩
theorem dX9_closest_2 : jm_d cX9_closest 2 (.istore_n 1) 1 3 := ⟨by decide +kernel, rfl⟩
theorem dX9_closest_3 : jm_d cX9_closest 3 (.iconst 0) 1 4 := ⟨by decide +kernel, rfl⟩
theorem dX9_closest_4 : jm_d cX9_closest 4 (.istore_n 2) 1 5 := ⟨by decide +kernel, rfl⟩
theorem dX9_closest_5 : jm_d cX9_closest 5 (.iconst 0) 1 6 := ⟨by decide +kernel, rfl⟩
theorem dX9_closest_6 : jm_d cX9_closest 6 (.istore_n 3) 1 7 := ⟨by decide +kernel, rfl⟩
theorem dX9_closest_7 : jm_d cX9_closest 7 (.iload_n 3) 1 8 := ⟨by decide +kernel, rfl⟩
theorem dX9_closest_8 : jm_d cX9_closest 8 (.aload_n 0) 1 9 := ⟨by decide +kernel, rfl⟩
theorem dX9_closest_9 : jm_d cX9_closest 9 (.getfield 91) 3 12 := ⟨by decide +kernel, rfl⟩
theorem dX9_closest_12 : jm_b cX9_closest 12 (.if_icmp .ge) 15 77 := ⟨65, by decide +kernel, rfl, by decide⟩
theorem dX9_closest_15 : jm_d cX9_closest 15 (.iload_n 3) 1 16 := ⟨by decide +kernel, rfl⟩
theorem dX9_closest_16 : jm_d cX9_closest 16 (.iconst 1) 1 17 := ⟨by decide +kernel, rfl⟩
theorem dX9_closest_17 : jm_d cX9_closest 17 (.iadd) 1 18 := ⟨by decide +kernel, rfl⟩
theorem dX9_closest_18 : jm_d cX9_closest 18 (.istore 4) 2 20 := ⟨by decide +kernel, rfl⟩
theorem dX9_closest_20 : jm_d cX9_closest 20 (.iload 4) 2 22 := ⟨by decide +kernel, rfl⟩
theorem dX9_closest_22 : jm_d cX9_closest 22 (.aload_n 0) 1 23 := ⟨by decide +kernel, rfl⟩
theorem dX9_closest_23 : jm_d cX9_closest 23 (.getfield 91) 3 26 := ⟨by decide +kernel, rfl⟩
theorem dX9_closest_26 : jm_b cX9_closest 26 (.if_icmp .ge) 29 71 := ⟨45, by decide +kernel, rfl, by decide⟩
theorem dX9_closest_29 : jm_d cX9_closest 29 (.aload_n 0) 1 30 := ⟨by decide +kernel, rfl⟩
theorem dX9_closest_30 : jm_d cX9_closest 30 (.iload_n 3) 1 31 := ⟨by decide +kernel, rfl⟩
theorem dX9_closest_31 : jm_d cX9_closest 31 (.iload 4) 2 33 := ⟨by decide +kernel, rfl⟩
theorem dX9_closest_33 : jm_d cX9_closest 33 (.invokevirtual 142) 3 36 := ⟨by decide +kernel, rfl⟩
theorem dX9_closest_36 : jm_d cX9_closest 36 (.invokestatic 392) 3 39 := ⟨by decide +kernel, rfl⟩
theorem dX9_closest_39 : jm_d cX9_closest 39 (.istore 5) 2 41 := ⟨by decide +kernel, rfl⟩
theorem dX9_closest_41 : jm_d cX9_closest 41 (.iload_n 1) 1 42 := ⟨by decide +kernel, rfl⟩
theorem dX9_closest_42 : jm_b cX9_closest 42 (.ifCond .lt) 45 54 := ⟨12, by decide +kernel, rfl, by decide⟩
theorem dX9_closest_54 : jm_d cX9_closest 54 (.bipush 10) 2 56 := ⟨by decide +kernel, rfl⟩
theorem dX9_closest_56 : jm_d cX9_closest 56 (.iload_n 3) 1 57 := ⟨by decide +kernel, rfl⟩
theorem dX9_closest_57 : jm_d cX9_closest 57 (.imul) 1 58 := ⟨by decide +kernel, rfl⟩
theorem dX9_closest_58 : jm_d cX9_closest 58 (.iload 4) 2 60 := ⟨by decide +kernel, rfl⟩
theorem dX9_closest_60 : jm_d cX9_closest 60 (.iadd) 1 61 := ⟨by decide +kernel, rfl⟩
theorem dX9_closest_61 : jm_d cX9_closest 61 (.istore_n 1) 1 62 := ⟨by decide +kernel, rfl⟩
theorem dX9_closest_62 : jm_d cX9_closest 62 (.iload 5) 2 64 := ⟨by decide +kernel, rfl⟩
theorem dX9_closest_64 : jm_d cX9_closest 64 (.istore_n 2) 1 65 := ⟨by decide +kernel, rfl⟩
theorem dX9_closest_65 : jm_d cX9_closest 65 (.iinc 4 1) 3 68 := ⟨by decide +kernel, rfl⟩
theorem dX9_closest_68 : jm_b cX9_closest 68 .goto 71 20 := ⟨(-48), by decide +kernel, rfl, by decide⟩
theorem dX9_closest_45 : jm_d cX9_closest 45 (.iload 5) 2 47 := ⟨by decide +kernel, rfl⟩
theorem dX9_closest_47 : jm_d cX9_closest 47 (.iload_n 2) 1 48 := ⟨by decide +kernel, rfl⟩
theorem dX9_closest_48 : jm_b cX9_closest 48 (.if_icmp .lt) 51 54 := ⟨6, by decide +kernel, rfl, by decide⟩
theorem dX9_closest_51 : jm_b cX9_closest 51 .goto 54 65 := ⟨14, by decide +kernel, rfl, by decide⟩
theorem dX9_closest_71 : jm_d cX9_closest 71 (.iinc 3 1) 3 74 := ⟨by decide +kernel, rfl⟩
theorem dX9_closest_74 : jm_b cX9_closest 74 .goto 77 7 := ⟨(-67), by decide +kernel, rfl, by decide⟩
theorem dX9_closest_77 : jm_d cX9_closest 77 (.iload_n 1) 1 78 := ⟨by decide +kernel, rfl⟩
theorem dX9_closest_78 : jm_d cX9_closest 78 (.ireturn) 1 79 := ⟨by decide +kernel, rfl⟩
set_option maxHeartbeats 4000000 in
set_option maxRecDepth 100000 in
theorem kM_closest (E : jm_Ev) (hE : jm_dj E jm_LM) {M : jm_M}  {r : Int32} (h : sM_closest M = some r) : jm_Ct E jm_LM yX9_closest cX9_closest 6 (some .int) 6 140 [.ref (jm_a E 0 0)] M (some (.int r)) M := by
  refine jm_enter (lv := [some (.ref (jm_a E 0 0)), none, none, none, none, none]) hE (by decide) (Nat.le_of_ble_eq_true rfl) rfl ?_
  intro z w F hz
  have G : jm_G w 0 [some (.ref (jm_a E 0 0)), none, none, none, none, none] [] M (sM_closest M) (fun e => z (some (.int e)) M) := by
    unfold sM_closest
    refine jm_bipush F dX9_closest_0 kb_m9 ?_
    refine jm_istore_n (i := 1) (lv' := [some (.ref (jm_a E 0 0)), some (.int (-9)), none, none, none, none]) F dX9_closest_2 rfl (by decide) rfl rfl ?_
    refine jm_iconst F dX9_closest_3 kc_0 ?_
    refine jm_istore_n (i := 2) (lv' := [some (.ref (jm_a E 0 0)), some (.int (-9)), some (.int 0), none, none, none]) F dX9_closest_4 rfl (by decide) rfl rfl ?_
    refine jm_iconst F dX9_closest_5 kc_0 ?_
    refine jm_istore_n (i := 3) (lv' := [some (.ref (jm_a E 0 0)), some (.int (-9)), some (.int 0), some (.int 0), none, none]) F dX9_closest_6 rfl (by decide) rfl rfl ?_
    refine jm_bind (pcJ := 77) (lvJ := fun e13 => [none, some (.int e13), none, none, none, none]) (stJ := fun _ => []) (MJ := fun e13 => M) ?_ (fun e13 => ?_)
    · refine jm_weak F (lv' := [some (.ref (jm_a E 0 0)), some (.int (-9)), some (.int 0), some (.int 0), none, none]) ⟨rfl, rfl, rfl, rfl, trivial⟩ ?_
      refine jm_loopR (lvH := fun s1 => [some (.ref (jm_a E 0 0)), some (.int s1.1), some (.int s1.2.1), some (.int s1.2.2), none, none]) (MH := fun s1 => M) (fun s1 => ?_) jm_N ((-9), 0, 0)
      unfold sM_closest_L7
      refine jm_iload_n (i := 3) F dX9_closest_7 rfl rfl ?_
      refine jm_aload_n (i := 0) F dX9_closest_8 rfl rfl ?_
      refine jm_getI F dX9_closest_9 fl_X9_91 lo_X9 rfl ?_
      refine jm_icmp_ge F dX9_closest_12 (fun c2 => ?_) (fun c2 => ?_)
      · exact jm_weakD F (lv' := [none, some (.int s1.1), none, none, none, none]) ⟨rfl, trivial⟩ (fun h => h)
      · refine jm_iload_n (i := 3) F dX9_closest_15 rfl rfl ?_
        refine jm_iconst F dX9_closest_16 kc_1 ?_
        refine jm_iadd F dX9_closest_17 ?_
        refine jm_nameI (f := fun x3 => [.int x3]) (fun x3 => ?_) rfl
        refine jm_istore (i := 4) (lv' := [some (.ref (jm_a E 0 0)), some (.int s1.1), some (.int s1.2.1), some (.int s1.2.2), some (.int x3), none]) F dX9_closest_18 (by decide) rfl rfl ?_
        refine jm_bind (pcJ := 71) (lvJ := fun e12 => [some (.ref (jm_a E 0 0)), some (.int e12.1), some (.int e12.2), some (.int s1.2.2), none, none]) (stJ := fun _ => []) (MJ := fun e12 => M) ?_ (fun e12 => ?_)
        · refine jm_weak F (lv' := [some (.ref (jm_a E 0 0)), some (.int s1.1), some (.int s1.2.1), some (.int s1.2.2), some (.int x3), none]) ⟨rfl, rfl, rfl, rfl, rfl, trivial⟩ ?_
          refine jm_loopR (lvH := fun s4 => [some (.ref (jm_a E 0 0)), some (.int s4.1), some (.int s4.2.1), some (.int s1.2.2), some (.int s4.2.2), none]) (MH := fun s4 => M) (fun s4 => ?_) jm_N (s1.1, s1.2.1, x3)
          unfold sM_closest_L20
          refine jm_iload F dX9_closest_20 rfl ?_
          refine jm_aload_n (i := 0) F dX9_closest_22 rfl rfl ?_
          refine jm_getI F dX9_closest_23 fl_X9_91 lo_X9 rfl ?_
          refine jm_icmp_ge F dX9_closest_26 (fun c5 => ?_) (fun c5 => ?_)
          · exact jm_weakD F (lv' := [some (.ref (jm_a E 0 0)), some (.int s4.1), some (.int s4.2.1), some (.int s1.2.2), none, none]) ⟨rfl, rfl, rfl, rfl, trivial⟩ (fun h => h)
          · refine jm_aload_n (i := 0) F dX9_closest_29 rfl rfl ?_
            refine jm_iload_n (i := 3) F dX9_closest_30 rfl rfl ?_
            refine jm_iload F dX9_closest_31 rfl ?_
            refine jm_callV (As := [.int s1.2.2, .int s4.2.2]) (st := []) (rv := fun r => some (.int r)) (mm := fun _ => M) F dX9_closest_33 qX9_142 rfl lo_X9 rfl (fun r h => kM_overNow E hE h) rfl (Nat.le_of_ble_eq_true rfl) ⟨Nat.le_of_ble_eq_true rfl, Nat.le_of_ble_eq_true rfl⟩ (fun r6 => ?_)
            refine jm_callS (As := [.int r6]) (st := []) (rv := fun r => some (.int r)) (mm := fun _ => M) F dX9_closest_36 qX9_392 rfl (fun r h => kM_sizeOf E hE h) rfl (Nat.le_of_ble_eq_true rfl) ⟨Nat.le_of_ble_eq_true rfl, Nat.le_of_ble_eq_true rfl⟩ (fun r7 => ?_)
            refine jm_istore (i := 5) (lv' := [some (.ref (jm_a E 0 0)), some (.int s4.1), some (.int s4.2.1), some (.int s1.2.2), some (.int s4.2.2), some (.int r7)]) F dX9_closest_39 (by decide) rfl rfl ?_
            refine jm_iload_n (i := 1) F dX9_closest_41 rfl rfl ?_
            refine jm_if_lt F dX9_closest_42 (fun c8 => ?_) (fun c8 => ?_)
            · refine jm_bipush F dX9_closest_54 kb_10 ?_
              refine jm_iload_n (i := 3) F dX9_closest_56 rfl rfl ?_
              refine jm_imul F dX9_closest_57 ?_
              refine jm_iload F dX9_closest_58 rfl ?_
              refine jm_iadd F dX9_closest_60 ?_
              refine jm_nameI (f := fun x9 => [.int x9]) (fun x9 => ?_) rfl
              refine jm_istore_n (i := 1) (lv' := [some (.ref (jm_a E 0 0)), some (.int x9), some (.int s4.2.1), some (.int s1.2.2), some (.int s4.2.2), some (.int r7)]) F dX9_closest_61 rfl (by decide) rfl rfl ?_
              refine jm_iload F dX9_closest_62 rfl ?_
              refine jm_istore_n (i := 2) (lv' := [some (.ref (jm_a E 0 0)), some (.int x9), some (.int r7), some (.int s1.2.2), some (.int s4.2.2), some (.int r7)]) F dX9_closest_64 rfl (by decide) rfl rfl ?_
              refine jm_iinc (i := 4) (lv' := [some (.ref (jm_a E 0 0)), some (.int x9), some (.int r7), some (.int s1.2.2), some (.int (s4.2.2 + 1)), some (.int r7)]) F dX9_closest_65 kc_1 rfl (by decide) rfl rfl ?_
              refine jm_goto F dX9_closest_68 ?_
              exact jm_weakD F (lv' := [some (.ref (jm_a E 0 0)), some (.int x9), some (.int r7), some (.int s1.2.2), some (.int (s4.2.2 + 1)), none]) ⟨rfl, rfl, rfl, rfl, rfl, trivial⟩ (fun h => h)
            · refine jm_iload F dX9_closest_45 rfl ?_
              refine jm_iload_n (i := 2) F dX9_closest_47 rfl rfl ?_
              refine jm_icmp_lt F dX9_closest_48 (fun c10 => ?_) (fun c10 => ?_)
              · refine jm_bipush F dX9_closest_54 kb_10 ?_
                refine jm_iload_n (i := 3) F dX9_closest_56 rfl rfl ?_
                refine jm_imul F dX9_closest_57 ?_
                refine jm_iload F dX9_closest_58 rfl ?_
                refine jm_iadd F dX9_closest_60 ?_
                refine jm_nameI (f := fun x11 => [.int x11]) (fun x11 => ?_) rfl
                refine jm_istore_n (i := 1) (lv' := [some (.ref (jm_a E 0 0)), some (.int x11), some (.int s4.2.1), some (.int s1.2.2), some (.int s4.2.2), some (.int r7)]) F dX9_closest_61 rfl (by decide) rfl rfl ?_
                refine jm_iload F dX9_closest_62 rfl ?_
                refine jm_istore_n (i := 2) (lv' := [some (.ref (jm_a E 0 0)), some (.int x11), some (.int r7), some (.int s1.2.2), some (.int s4.2.2), some (.int r7)]) F dX9_closest_64 rfl (by decide) rfl rfl ?_
                refine jm_iinc (i := 4) (lv' := [some (.ref (jm_a E 0 0)), some (.int x11), some (.int r7), some (.int s1.2.2), some (.int (s4.2.2 + 1)), some (.int r7)]) F dX9_closest_65 kc_1 rfl (by decide) rfl rfl ?_
                refine jm_goto F dX9_closest_68 ?_
                exact jm_weakD F (lv' := [some (.ref (jm_a E 0 0)), some (.int x11), some (.int r7), some (.int s1.2.2), some (.int (s4.2.2 + 1)), none]) ⟨rfl, rfl, rfl, rfl, rfl, trivial⟩ (fun h => h)
              · refine jm_goto F dX9_closest_51 ?_
                refine jm_iinc (i := 4) (lv' := [some (.ref (jm_a E 0 0)), some (.int s4.1), some (.int s4.2.1), some (.int s1.2.2), some (.int (s4.2.2 + 1)), some (.int r7)]) F dX9_closest_65 kc_1 rfl (by decide) rfl rfl ?_
                refine jm_goto F dX9_closest_68 ?_
                exact jm_weakD F (lv' := [some (.ref (jm_a E 0 0)), some (.int s4.1), some (.int s4.2.1), some (.int s1.2.2), some (.int (s4.2.2 + 1)), none]) ⟨rfl, rfl, rfl, rfl, rfl, trivial⟩ (fun h => h)
        · refine jm_iinc (i := 3) (lv' := [some (.ref (jm_a E 0 0)), some (.int e12.1), some (.int e12.2), some (.int (s1.2.2 + 1)), none, none]) F dX9_closest_71 kc_1 rfl (by decide) rfl rfl ?_
          refine jm_goto F dX9_closest_74 ?_
          exact jm_weakD F (lv' := [some (.ref (jm_a E 0 0)), some (.int e12.1), some (.int e12.2), some (.int (s1.2.2 + 1)), none, none]) ⟨rfl, rfl, rfl, rfl, trivial⟩ (fun h => h)
    · refine jm_iload_n (i := 1) F dX9_closest_77 rfl rfl ?_
      exact jm_iret F dX9_closest_78 (fun h => h)
  exact G r h hz
theorem dX9_poor_0 : jm_d cX9_poor 0 (.bipush (-9)) 2 2 := ⟨by decide +kernel, rfl⟩
theorem dX9_poor_2 : jm_d cX9_poor 2 (.istore_n 1) 1 3 := ⟨by decide +kernel, rfl⟩
theorem dX9_poor_3 : jm_d cX9_poor 3 (.iconst 0) 1 4 := ⟨by decide +kernel, rfl⟩
theorem dX9_poor_4 : jm_d cX9_poor 4 (.istore_n 2) 1 5 := ⟨by decide +kernel, rfl⟩
theorem dX9_poor_5 : jm_d cX9_poor 5 (.iload_n 2) 1 6 := ⟨by decide +kernel, rfl⟩
theorem dX9_poor_6 : jm_d cX9_poor 6 (.aload_n 0) 1 7 := ⟨by decide +kernel, rfl⟩
theorem dX9_poor_7 : jm_d cX9_poor 7 (.getfield 106) 3 10 := ⟨by decide +kernel, rfl⟩
theorem dX9_poor_10 : jm_b cX9_poor 10 (.if_icmp .ge) 13 53 := ⟨43, by decide +kernel, rfl, by decide⟩
theorem dX9_poor_13 : jm_d cX9_poor 13 (.aload_n 0) 1 14 := ⟨by decide +kernel, rfl⟩
theorem dX9_poor_14 : jm_d cX9_poor 14 (.getfield 28) 3 17 := ⟨by decide +kernel, rfl⟩
theorem dX9_poor_17 : jm_d cX9_poor 17 (.iload_n 2) 1 18 := ⟨by decide +kernel, rfl⟩
theorem dX9_poor_18 : jm_d cX9_poor 18 (.iaload) 1 19 := ⟨by decide +kernel, rfl⟩
theorem dX9_poor_19 : jm_d cX9_poor 19 (.bipush 9) 2 21 := ⟨by decide +kernel, rfl⟩
theorem dX9_poor_21 : jm_b cX9_poor 21 (.if_icmp .ne) 24 45 := ⟨24, by decide +kernel, rfl, by decide⟩
theorem dX9_poor_24 : jm_d cX9_poor 24 (.iload_n 1) 1 25 := ⟨by decide +kernel, rfl⟩
theorem dX9_poor_25 : jm_b cX9_poor 25 (.ifCond .lt) 28 37 := ⟨12, by decide +kernel, rfl, by decide⟩
theorem dX9_poor_37 : jm_d cX9_poor 37 (.aload_n 0) 1 38 := ⟨by decide +kernel, rfl⟩
theorem dX9_poor_38 : jm_d cX9_poor 38 (.iload_n 2) 1 39 := ⟨by decide +kernel, rfl⟩
theorem dX9_poor_39 : jm_d cX9_poor 39 (.invokevirtual 292) 3 42 := ⟨by decide +kernel, rfl⟩
theorem dX9_poor_42 : jm_b cX9_poor 42 .goto 45 46 := ⟨4, by decide +kernel, rfl, by decide⟩
theorem dX9_poor_46 : jm_d cX9_poor 46 (.istore_n 1) 1 47 := ⟨by decide +kernel, rfl⟩
theorem dX9_poor_47 : jm_d cX9_poor 47 (.iinc 2 1) 3 50 := ⟨by decide +kernel, rfl⟩
theorem dX9_poor_50 : jm_b cX9_poor 50 .goto 53 5 := ⟨(-45), by decide +kernel, rfl, by decide⟩
theorem dX9_poor_28 : jm_d cX9_poor 28 (.aload_n 0) 1 29 := ⟨by decide +kernel, rfl⟩
theorem dX9_poor_29 : jm_d cX9_poor 29 (.iload_n 2) 1 30 := ⟨by decide +kernel, rfl⟩
theorem dX9_poor_30 : jm_d cX9_poor 30 (.invokevirtual 292) 3 33 := ⟨by decide +kernel, rfl⟩
theorem dX9_poor_33 : jm_d cX9_poor 33 (.iload_n 1) 1 34 := ⟨by decide +kernel, rfl⟩
theorem dX9_poor_34 : jm_b cX9_poor 34 (.if_icmp .ge) 37 45 := ⟨11, by decide +kernel, rfl, by decide⟩
theorem dX9_poor_45 : jm_d cX9_poor 45 (.iload_n 1) 1 46 := ⟨by decide +kernel, rfl⟩
theorem dX9_poor_53 : jm_d cX9_poor 53 (.iconst 0) 1 54 := ⟨by decide +kernel, rfl⟩
theorem dX9_poor_54 : jm_d cX9_poor 54 (.istore_n 2) 1 55 := ⟨by decide +kernel, rfl⟩
theorem dX9_poor_55 : jm_d cX9_poor 55 (.iconst 0) 1 56 := ⟨by decide +kernel, rfl⟩
theorem dX9_poor_56 : jm_d cX9_poor 56 (.istore_n 3) 1 57 := ⟨by decide +kernel, rfl⟩
theorem dX9_poor_57 : jm_d cX9_poor 57 (.iload_n 3) 1 58 := ⟨by decide +kernel, rfl⟩
theorem dX9_poor_58 : jm_d cX9_poor 58 (.aload_n 0) 1 59 := ⟨by decide +kernel, rfl⟩
theorem dX9_poor_59 : jm_d cX9_poor 59 (.getfield 91) 3 62 := ⟨by decide +kernel, rfl⟩
theorem dX9_poor_62 : jm_b cX9_poor 62 (.if_icmp .ge) 65 89 := ⟨27, by decide +kernel, rfl, by decide⟩
theorem dX9_poor_65 : jm_d cX9_poor 65 (.iload_n 2) 1 66 := ⟨by decide +kernel, rfl⟩
theorem dX9_poor_66 : jm_d cX9_poor 66 (.aload_n 0) 1 67 := ⟨by decide +kernel, rfl⟩
theorem dX9_poor_67 : jm_d cX9_poor 67 (.getfield 19) 3 70 := ⟨by decide +kernel, rfl⟩
theorem dX9_poor_70 : jm_d cX9_poor 70 (.iload_n 3) 1 71 := ⟨by decide +kernel, rfl⟩
theorem dX9_poor_71 : jm_d cX9_poor 71 (.iaload) 1 72 := ⟨by decide +kernel, rfl⟩
theorem dX9_poor_72 : jm_d cX9_poor 72 (.iload_n 1) 1 73 := ⟨by decide +kernel, rfl⟩
theorem dX9_poor_73 : jm_b cX9_poor 73 (.if_icmp .ge) 76 80 := ⟨7, by decide +kernel, rfl, by decide⟩
theorem dX9_poor_80 : jm_d cX9_poor 80 (.iconst 0) 1 81 := ⟨by decide +kernel, rfl⟩
theorem dX9_poor_81 : jm_d cX9_poor 81 (.iadd) 1 82 := ⟨by decide +kernel, rfl⟩
theorem dX9_poor_82 : jm_d cX9_poor 82 (.istore_n 2) 1 83 := ⟨by decide +kernel, rfl⟩
theorem dX9_poor_83 : jm_d cX9_poor 83 (.iinc 3 1) 3 86 := ⟨by decide +kernel, rfl⟩
theorem dX9_poor_86 : jm_b cX9_poor 86 .goto 89 57 := ⟨(-29), by decide +kernel, rfl, by decide⟩
theorem dX9_poor_76 : jm_d cX9_poor 76 (.iconst 1) 1 77 := ⟨by decide +kernel, rfl⟩
theorem dX9_poor_77 : jm_b cX9_poor 77 .goto 80 81 := ⟨4, by decide +kernel, rfl, by decide⟩
theorem dX9_poor_89 : jm_d cX9_poor 89 (.iload_n 2) 1 90 := ⟨by decide +kernel, rfl⟩
theorem dX9_poor_90 : jm_d cX9_poor 90 (.ireturn) 1 91 := ⟨by decide +kernel, rfl⟩
set_option maxHeartbeats 4000000 in
set_option maxRecDepth 100000 in
theorem kM_poor (E : jm_Ev) (hE : jm_dj E jm_LM) {M : jm_M}  {r : Int32} (h : sM_poor M = some r) : jm_Ct E jm_LM yX9_poor cX9_poor 4 (some .int) 1 22 [.ref (jm_a E 0 0)] M (some (.int r)) M := by
  refine jm_enter (lv := [some (.ref (jm_a E 0 0)), none, none, none]) hE (by decide) (Nat.le_of_ble_eq_true rfl) rfl ?_
  intro z w F hz
  have G : jm_G w 0 [some (.ref (jm_a E 0 0)), none, none, none] [] M (sM_poor M) (fun e => z (some (.int e)) M) := by
    unfold sM_poor
    refine jm_bipush F dX9_poor_0 kb_m9 ?_
    refine jm_istore_n (i := 1) (lv' := [some (.ref (jm_a E 0 0)), some (.int (-9)), none, none]) F dX9_poor_2 rfl (by decide) rfl rfl ?_
    refine jm_iconst F dX9_poor_3 kc_0 ?_
    refine jm_istore_n (i := 2) (lv' := [some (.ref (jm_a E 0 0)), some (.int (-9)), some (.int 0), none]) F dX9_poor_4 rfl (by decide) rfl rfl ?_
    refine jm_bind (pcJ := 53) (lvJ := fun e10 => [some (.ref (jm_a E 0 0)), some (.int e10), none, none]) (stJ := fun _ => []) (MJ := fun e10 => M) ?_ (fun e10 => ?_)
    · refine jm_weak F (lv' := [some (.ref (jm_a E 0 0)), some (.int (-9)), some (.int 0), none]) ⟨rfl, rfl, rfl, trivial⟩ ?_
      refine jm_loopR (lvH := fun s1 => [some (.ref (jm_a E 0 0)), some (.int s1.1), some (.int s1.2), none]) (MH := fun s1 => M) (fun s1 => ?_) jm_N ((-9), 0)
      unfold sM_poor_L5
      refine jm_iload_n (i := 2) F dX9_poor_5 rfl rfl ?_
      refine jm_aload_n (i := 0) F dX9_poor_6 rfl rfl ?_
      refine jm_getI F dX9_poor_7 fl_X9_106 lo_X9 rfl ?_
      refine jm_icmp_ge F dX9_poor_10 (fun c2 => ?_) (fun c2 => ?_)
      · exact jm_weakD F (lv' := [some (.ref (jm_a E 0 0)), some (.int s1.1), none, none]) ⟨rfl, rfl, trivial⟩ (fun h => h)
      · refine jm_aload_n (i := 0) F dX9_poor_13 rfl rfl ?_
        refine jm_getR F dX9_poor_14 fl_X9_28 lo_X9 rfl ?_
        refine jm_iload_n (i := 2) F dX9_poor_17 rfl rfl ?_
        refine jm_iald F dX9_poor_18 la_X9_7 (fun v3 => ?_)
        refine jm_bipush F dX9_poor_19 kb_9 ?_
        refine jm_icmp_ne F dX9_poor_21 (fun c4 => ?_) (fun c4 => ?_)
        · refine jm_iload_n (i := 1) F dX9_poor_24 rfl rfl ?_
          refine jm_if_lt F dX9_poor_25 (fun c5 => ?_) (fun c5 => ?_)
          · refine jm_aload_n (i := 0) F dX9_poor_37 rfl rfl ?_
            refine jm_iload_n (i := 2) F dX9_poor_38 rfl rfl ?_
            refine jm_callV (As := [.int s1.2]) (st := []) (rv := fun r => some (.int r)) (mm := fun _ => M) F dX9_poor_39 qX9_292 rfl lo_X9 rfl (fun r h => kM_price E hE h) rfl (Nat.le_of_ble_eq_true rfl) ⟨Nat.le_of_ble_eq_true rfl, Nat.le_of_ble_eq_true rfl⟩ (fun r6 => ?_)
            refine jm_goto F dX9_poor_42 ?_
            refine jm_istore_n (i := 1) (lv' := [some (.ref (jm_a E 0 0)), some (.int r6), some (.int s1.2), none]) F dX9_poor_46 rfl (by decide) rfl rfl ?_
            refine jm_iinc (i := 2) (lv' := [some (.ref (jm_a E 0 0)), some (.int r6), some (.int (s1.2 + 1)), none]) F dX9_poor_47 kc_1 rfl (by decide) rfl rfl ?_
            refine jm_goto F dX9_poor_50 ?_
            exact jm_weakD F (lv' := [some (.ref (jm_a E 0 0)), some (.int r6), some (.int (s1.2 + 1)), none]) ⟨rfl, rfl, rfl, trivial⟩ (fun h => h)
          · refine jm_aload_n (i := 0) F dX9_poor_28 rfl rfl ?_
            refine jm_iload_n (i := 2) F dX9_poor_29 rfl rfl ?_
            refine jm_callV (As := [.int s1.2]) (st := []) (rv := fun r => some (.int r)) (mm := fun _ => M) F dX9_poor_30 qX9_292 rfl lo_X9 rfl (fun r h => kM_price E hE h) rfl (Nat.le_of_ble_eq_true rfl) ⟨Nat.le_of_ble_eq_true rfl, Nat.le_of_ble_eq_true rfl⟩ (fun r7 => ?_)
            refine jm_iload_n (i := 1) F dX9_poor_33 rfl rfl ?_
            refine jm_icmp_ge F dX9_poor_34 (fun c8 => ?_) (fun c8 => ?_)
            · refine jm_iload_n (i := 1) F dX9_poor_45 rfl rfl ?_
              refine jm_istore_n (i := 1) (lv' := [some (.ref (jm_a E 0 0)), some (.int s1.1), some (.int s1.2), none]) F dX9_poor_46 rfl (by decide) rfl rfl ?_
              refine jm_iinc (i := 2) (lv' := [some (.ref (jm_a E 0 0)), some (.int s1.1), some (.int (s1.2 + 1)), none]) F dX9_poor_47 kc_1 rfl (by decide) rfl rfl ?_
              refine jm_goto F dX9_poor_50 ?_
              exact jm_weakD F (lv' := [some (.ref (jm_a E 0 0)), some (.int s1.1), some (.int (s1.2 + 1)), none]) ⟨rfl, rfl, rfl, trivial⟩ (fun h => h)
            · refine jm_aload_n (i := 0) F dX9_poor_37 rfl rfl ?_
              refine jm_iload_n (i := 2) F dX9_poor_38 rfl rfl ?_
              refine jm_callV (As := [.int s1.2]) (st := []) (rv := fun r => some (.int r)) (mm := fun _ => M) F dX9_poor_39 qX9_292 rfl lo_X9 rfl (fun r h => kM_price E hE h) rfl (Nat.le_of_ble_eq_true rfl) ⟨Nat.le_of_ble_eq_true rfl, Nat.le_of_ble_eq_true rfl⟩ (fun r9 => ?_)
              refine jm_goto F dX9_poor_42 ?_
              refine jm_istore_n (i := 1) (lv' := [some (.ref (jm_a E 0 0)), some (.int r9), some (.int s1.2), none]) F dX9_poor_46 rfl (by decide) rfl rfl ?_
              refine jm_iinc (i := 2) (lv' := [some (.ref (jm_a E 0 0)), some (.int r9), some (.int (s1.2 + 1)), none]) F dX9_poor_47 kc_1 rfl (by decide) rfl rfl ?_
              refine jm_goto F dX9_poor_50 ?_
              exact jm_weakD F (lv' := [some (.ref (jm_a E 0 0)), some (.int r9), some (.int (s1.2 + 1)), none]) ⟨rfl, rfl, rfl, trivial⟩ (fun h => h)
        · refine jm_iload_n (i := 1) F dX9_poor_45 rfl rfl ?_
          refine jm_istore_n (i := 1) (lv' := [some (.ref (jm_a E 0 0)), some (.int s1.1), some (.int s1.2), none]) F dX9_poor_46 rfl (by decide) rfl rfl ?_
          refine jm_iinc (i := 2) (lv' := [some (.ref (jm_a E 0 0)), some (.int s1.1), some (.int (s1.2 + 1)), none]) F dX9_poor_47 kc_1 rfl (by decide) rfl rfl ?_
          refine jm_goto F dX9_poor_50 ?_
          exact jm_weakD F (lv' := [some (.ref (jm_a E 0 0)), some (.int s1.1), some (.int (s1.2 + 1)), none]) ⟨rfl, rfl, rfl, trivial⟩ (fun h => h)
    · refine jm_iconst F dX9_poor_53 kc_0 ?_
      refine jm_istore_n (i := 2) (lv' := [some (.ref (jm_a E 0 0)), some (.int e10), some (.int 0), none]) F dX9_poor_54 rfl (by decide) rfl rfl ?_
      refine jm_iconst F dX9_poor_55 kc_0 ?_
      refine jm_istore_n (i := 3) (lv' := [some (.ref (jm_a E 0 0)), some (.int e10), some (.int 0), some (.int 0)]) F dX9_poor_56 rfl (by decide) rfl rfl ?_
      refine jm_bind (pcJ := 89) (lvJ := fun e17 => [none, none, some (.int e17), none]) (stJ := fun _ => []) (MJ := fun e17 => M) ?_ (fun e17 => ?_)
      · refine jm_weak F (lv' := [some (.ref (jm_a E 0 0)), some (.int e10), some (.int 0), some (.int 0)]) ⟨rfl, rfl, rfl, rfl, trivial⟩ ?_
        refine jm_loopR (lvH := fun s11 => [some (.ref (jm_a E 0 0)), some (.int e10), some (.int s11.1), some (.int s11.2)]) (MH := fun s11 => M) (fun s11 => ?_) jm_N (0, 0)
        unfold sM_poor_L57
        refine jm_iload_n (i := 3) F dX9_poor_57 rfl rfl ?_
        refine jm_aload_n (i := 0) F dX9_poor_58 rfl rfl ?_
        refine jm_getI F dX9_poor_59 fl_X9_91 lo_X9 rfl ?_
        refine jm_icmp_ge F dX9_poor_62 (fun c12 => ?_) (fun c12 => ?_)
        · exact jm_weakD F (lv' := [none, none, some (.int s11.1), none]) ⟨rfl, trivial⟩ (fun h => h)
        · refine jm_iload_n (i := 2) F dX9_poor_65 rfl rfl ?_
          refine jm_aload_n (i := 0) F dX9_poor_66 rfl rfl ?_
          refine jm_getR F dX9_poor_67 fl_X9_19 lo_X9 rfl ?_
          refine jm_iload_n (i := 3) F dX9_poor_70 rfl rfl ?_
          refine jm_iald F dX9_poor_71 la_X9_4 (fun v13 => ?_)
          refine jm_iload_n (i := 1) F dX9_poor_72 rfl rfl ?_
          refine jm_icmp_ge F dX9_poor_73 (fun c14 => ?_) (fun c14 => ?_)
          · refine jm_iconst F dX9_poor_80 kc_0 ?_
            refine jm_iadd F dX9_poor_81 ?_
            refine jm_nameI (f := fun x15 => [.int x15]) (fun x15 => ?_) rfl
            refine jm_istore_n (i := 2) (lv' := [some (.ref (jm_a E 0 0)), some (.int e10), some (.int x15), some (.int s11.2)]) F dX9_poor_82 rfl (by decide) rfl rfl ?_
            refine jm_iinc (i := 3) (lv' := [some (.ref (jm_a E 0 0)), some (.int e10), some (.int x15), some (.int (s11.2 + 1))]) F dX9_poor_83 kc_1 rfl (by decide) rfl rfl ?_
            refine jm_goto F dX9_poor_86 ?_
            exact jm_weakD F (lv' := [some (.ref (jm_a E 0 0)), some (.int e10), some (.int x15), some (.int (s11.2 + 1))]) ⟨rfl, rfl, rfl, rfl, trivial⟩ (fun h => h)
          · refine jm_iconst F dX9_poor_76 kc_1 ?_
            refine jm_goto F dX9_poor_77 ?_
            refine jm_iadd F dX9_poor_81 ?_
            refine jm_nameI (f := fun x16 => [.int x16]) (fun x16 => ?_) rfl
            refine jm_istore_n (i := 2) (lv' := [some (.ref (jm_a E 0 0)), some (.int e10), some (.int x16), some (.int s11.2)]) F dX9_poor_82 rfl (by decide) rfl rfl ?_
            refine jm_iinc (i := 3) (lv' := [some (.ref (jm_a E 0 0)), some (.int e10), some (.int x16), some (.int (s11.2 + 1))]) F dX9_poor_83 kc_1 rfl (by decide) rfl rfl ?_
            refine jm_goto F dX9_poor_86 ?_
            exact jm_weakD F (lv' := [some (.ref (jm_a E 0 0)), some (.int e10), some (.int x16), some (.int (s11.2 + 1))]) ⟨rfl, rfl, rfl, rfl, trivial⟩ (fun h => h)
      · refine jm_iload_n (i := 2) F dX9_poor_89 rfl rfl ?_
        exact jm_iret F dX9_poor_90 (fun h => h)
  exact G r h hz
theorem dX9_unread_0 : jm_d cX9_unread 0 (.iconst 0) 1 1 := ⟨by decide +kernel, rfl⟩
theorem dX9_unread_1 : jm_d cX9_unread 1 (.istore_n 1) 1 2 := ⟨by decide +kernel, rfl⟩
theorem dX9_unread_2 : jm_d cX9_unread 2 (.iconst 0) 1 3 := ⟨by decide +kernel, rfl⟩
theorem dX9_unread_3 : jm_d cX9_unread 3 (.istore_n 2) 1 4 := ⟨by decide +kernel, rfl⟩
theorem dX9_unread_4 : jm_d cX9_unread 4 (.iload_n 2) 1 5 := ⟨by decide +kernel, rfl⟩
theorem dX9_unread_5 : jm_d cX9_unread 5 (.aload_n 0) 1 6 := ⟨by decide +kernel, rfl⟩
theorem dX9_unread_6 : jm_d cX9_unread 6 (.getfield 106) 3 9 := ⟨by decide +kernel, rfl⟩
theorem dX9_unread_9 : jm_b cX9_unread 9 (.if_icmp .ge) 12 37 := ⟨28, by decide +kernel, rfl, by decide⟩
theorem dX9_unread_12 : jm_d cX9_unread 12 (.iload_n 1) 1 13 := ⟨by decide +kernel, rfl⟩
theorem dX9_unread_13 : jm_d cX9_unread 13 (.aload_n 0) 1 14 := ⟨by decide +kernel, rfl⟩
theorem dX9_unread_14 : jm_d cX9_unread 14 (.getfield 34) 3 17 := ⟨by decide +kernel, rfl⟩
theorem dX9_unread_17 : jm_d cX9_unread 17 (.iload_n 2) 1 18 := ⟨by decide +kernel, rfl⟩
theorem dX9_unread_18 : jm_d cX9_unread 18 (.iaload) 1 19 := ⟨by decide +kernel, rfl⟩
theorem dX9_unread_19 : jm_b cX9_unread 19 (.ifCond .ne) 22 28 := ⟨9, by decide +kernel, rfl, by decide⟩
theorem dX9_unread_22 : jm_d cX9_unread 22 (.iconst 1) 1 23 := ⟨by decide +kernel, rfl⟩
theorem dX9_unread_23 : jm_d cX9_unread 23 (.iload_n 2) 1 24 := ⟨by decide +kernel, rfl⟩
theorem dX9_unread_24 : jm_d cX9_unread 24 (.ishl) 1 25 := ⟨by decide +kernel, rfl⟩
theorem dX9_unread_25 : jm_b cX9_unread 25 .goto 28 29 := ⟨4, by decide +kernel, rfl, by decide⟩
theorem dX9_unread_29 : jm_d cX9_unread 29 (.ior) 1 30 := ⟨by decide +kernel, rfl⟩
theorem dX9_unread_30 : jm_d cX9_unread 30 (.istore_n 1) 1 31 := ⟨by decide +kernel, rfl⟩
theorem dX9_unread_31 : jm_d cX9_unread 31 (.iinc 2 1) 3 34 := ⟨by decide +kernel, rfl⟩
theorem dX9_unread_34 : jm_b cX9_unread 34 .goto 37 4 := ⟨(-30), by decide +kernel, rfl, by decide⟩
theorem dX9_unread_28 : jm_d cX9_unread 28 (.iconst 0) 1 29 := ⟨by decide +kernel, rfl⟩
theorem dX9_unread_37 : jm_d cX9_unread 37 (.iload_n 1) 1 38 := ⟨by decide +kernel, rfl⟩
theorem dX9_unread_38 : jm_d cX9_unread 38 (.ireturn) 1 39 := ⟨by decide +kernel, rfl⟩
set_option maxHeartbeats 4000000 in
set_option maxRecDepth 100000 in
theorem kM_unread (E : jm_Ev) (hE : jm_dj E jm_LM) {M : jm_M}  {r : Int32} (h : sM_unread M = some r) : jm_Ct E jm_LM yX9_unread cX9_unread 3 (some .int) 0 0 [.ref (jm_a E 0 0)] M (some (.int r)) M := by
  refine jm_enter (lv := [some (.ref (jm_a E 0 0)), none, none]) hE (by decide) (Nat.le_of_ble_eq_true rfl) rfl ?_
  intro z w F hz
  have G : jm_G w 0 [some (.ref (jm_a E 0 0)), none, none] [] M (sM_unread M) (fun e => z (some (.int e)) M) := by
    unfold sM_unread
    refine jm_iconst F dX9_unread_0 kc_0 ?_
    refine jm_istore_n (i := 1) (lv' := [some (.ref (jm_a E 0 0)), some (.int 0), none]) F dX9_unread_1 rfl (by decide) rfl rfl ?_
    refine jm_iconst F dX9_unread_2 kc_0 ?_
    refine jm_istore_n (i := 2) (lv' := [some (.ref (jm_a E 0 0)), some (.int 0), some (.int 0)]) F dX9_unread_3 rfl (by decide) rfl rfl ?_
    refine jm_bind (pcJ := 37) (lvJ := fun e7 => [none, some (.int e7), none]) (stJ := fun _ => []) (MJ := fun e7 => M) ?_ (fun e7 => ?_)
    · refine jm_weak F (lv' := [some (.ref (jm_a E 0 0)), some (.int 0), some (.int 0)]) ⟨rfl, rfl, rfl, trivial⟩ ?_
      refine jm_loopR (lvH := fun s1 => [some (.ref (jm_a E 0 0)), some (.int s1.1), some (.int s1.2)]) (MH := fun s1 => M) (fun s1 => ?_) jm_N (0, 0)
      unfold sM_unread_L4
      refine jm_iload_n (i := 2) F dX9_unread_4 rfl rfl ?_
      refine jm_aload_n (i := 0) F dX9_unread_5 rfl rfl ?_
      refine jm_getI F dX9_unread_6 fl_X9_106 lo_X9 rfl ?_
      refine jm_icmp_ge F dX9_unread_9 (fun c2 => ?_) (fun c2 => ?_)
      · exact jm_weakD F (lv' := [none, some (.int s1.1), none]) ⟨rfl, trivial⟩ (fun h => h)
      · refine jm_iload_n (i := 1) F dX9_unread_12 rfl rfl ?_
        refine jm_aload_n (i := 0) F dX9_unread_13 rfl rfl ?_
        refine jm_getR F dX9_unread_14 fl_X9_34 lo_X9 rfl ?_
        refine jm_iload_n (i := 2) F dX9_unread_17 rfl rfl ?_
        refine jm_iald F dX9_unread_18 la_X9_9 (fun v3 => ?_)
        refine jm_if_ne F dX9_unread_19 (fun c4 => ?_) (fun c4 => ?_)
        · refine jm_iconst F dX9_unread_22 kc_1 ?_
          refine jm_iload_n (i := 2) F dX9_unread_23 rfl rfl ?_
          refine jm_ishl F dX9_unread_24 ?_
          refine jm_goto F dX9_unread_25 ?_
          refine jm_ior F dX9_unread_29 ?_
          refine jm_nameI (f := fun x5 => [.int x5]) (fun x5 => ?_) rfl
          refine jm_istore_n (i := 1) (lv' := [some (.ref (jm_a E 0 0)), some (.int x5), some (.int s1.2)]) F dX9_unread_30 rfl (by decide) rfl rfl ?_
          refine jm_iinc (i := 2) (lv' := [some (.ref (jm_a E 0 0)), some (.int x5), some (.int (s1.2 + 1))]) F dX9_unread_31 kc_1 rfl (by decide) rfl rfl ?_
          refine jm_goto F dX9_unread_34 ?_
          exact jm_weakD F (lv' := [some (.ref (jm_a E 0 0)), some (.int x5), some (.int (s1.2 + 1))]) ⟨rfl, rfl, rfl, trivial⟩ (fun h => h)
        · refine jm_iconst F dX9_unread_28 kc_0 ?_
          refine jm_ior F dX9_unread_29 ?_
          refine jm_nameI (f := fun x6 => [.int x6]) (fun x6 => ?_) rfl
          refine jm_istore_n (i := 1) (lv' := [some (.ref (jm_a E 0 0)), some (.int x6), some (.int s1.2)]) F dX9_unread_30 rfl (by decide) rfl rfl ?_
          refine jm_iinc (i := 2) (lv' := [some (.ref (jm_a E 0 0)), some (.int x6), some (.int (s1.2 + 1))]) F dX9_unread_31 kc_1 rfl (by decide) rfl rfl ?_
          refine jm_goto F dX9_unread_34 ?_
          exact jm_weakD F (lv' := [some (.ref (jm_a E 0 0)), some (.int x6), some (.int (s1.2 + 1))]) ⟨rfl, rfl, rfl, trivial⟩ (fun h => h)
    · refine jm_iload_n (i := 1) F dX9_unread_37 rfl rfl ?_
      exact jm_iret F dX9_unread_38 (fun h => h)
  exact G r h hz
theorem dX9_lent_0 : jm_d cX9_lent 0 (.iconst 0) 1 1 := ⟨by decide +kernel, rfl⟩
theorem dX9_lent_1 : jm_d cX9_lent 1 (.istore_n 1) 1 2 := ⟨by decide +kernel, rfl⟩
theorem dX9_lent_2 : jm_d cX9_lent 2 (.iconst 0) 1 3 := ⟨by decide +kernel, rfl⟩
theorem dX9_lent_3 : jm_d cX9_lent 3 (.istore_n 2) 1 4 := ⟨by decide +kernel, rfl⟩
theorem dX9_lent_4 : jm_d cX9_lent 4 (.iload_n 2) 1 5 := ⟨by decide +kernel, rfl⟩
theorem dX9_lent_5 : jm_d cX9_lent 5 (.aload_n 0) 1 6 := ⟨by decide +kernel, rfl⟩
theorem dX9_lent_6 : jm_d cX9_lent 6 (.getfield 106) 3 9 := ⟨by decide +kernel, rfl⟩
theorem dX9_lent_9 : jm_b cX9_lent 9 (.if_icmp .ge) 12 43 := ⟨34, by decide +kernel, rfl, by decide⟩
theorem dX9_lent_12 : jm_d cX9_lent 12 (.iload_n 1) 1 13 := ⟨by decide +kernel, rfl⟩
theorem dX9_lent_13 : jm_d cX9_lent 13 (.aload_n 0) 1 14 := ⟨by decide +kernel, rfl⟩
theorem dX9_lent_14 : jm_d cX9_lent 14 (.getfield 31) 3 17 := ⟨by decide +kernel, rfl⟩
theorem dX9_lent_17 : jm_d cX9_lent 17 (.iload_n 2) 1 18 := ⟨by decide +kernel, rfl⟩
theorem dX9_lent_18 : jm_d cX9_lent 18 (.iaload) 1 19 := ⟨by decide +kernel, rfl⟩
theorem dX9_lent_19 : jm_d cX9_lent 19 (.aload_n 0) 1 20 := ⟨by decide +kernel, rfl⟩
theorem dX9_lent_20 : jm_d cX9_lent 20 (.getfield 28) 3 23 := ⟨by decide +kernel, rfl⟩
theorem dX9_lent_23 : jm_d cX9_lent 23 (.iload_n 2) 1 24 := ⟨by decide +kernel, rfl⟩
theorem dX9_lent_24 : jm_d cX9_lent 24 (.iaload) 1 25 := ⟨by decide +kernel, rfl⟩
theorem dX9_lent_25 : jm_b cX9_lent 25 (.if_icmp .eq) 28 34 := ⟨9, by decide +kernel, rfl, by decide⟩
theorem dX9_lent_34 : jm_d cX9_lent 34 (.iconst 0) 1 35 := ⟨by decide +kernel, rfl⟩
theorem dX9_lent_35 : jm_d cX9_lent 35 (.ior) 1 36 := ⟨by decide +kernel, rfl⟩
theorem dX9_lent_36 : jm_d cX9_lent 36 (.istore_n 1) 1 37 := ⟨by decide +kernel, rfl⟩
theorem dX9_lent_37 : jm_d cX9_lent 37 (.iinc 2 1) 3 40 := ⟨by decide +kernel, rfl⟩
theorem dX9_lent_40 : jm_b cX9_lent 40 .goto 43 4 := ⟨(-36), by decide +kernel, rfl, by decide⟩
theorem dX9_lent_28 : jm_d cX9_lent 28 (.iconst 1) 1 29 := ⟨by decide +kernel, rfl⟩
theorem dX9_lent_29 : jm_d cX9_lent 29 (.iload_n 2) 1 30 := ⟨by decide +kernel, rfl⟩
theorem dX9_lent_30 : jm_d cX9_lent 30 (.ishl) 1 31 := ⟨by decide +kernel, rfl⟩
theorem dX9_lent_31 : jm_b cX9_lent 31 .goto 34 35 := ⟨4, by decide +kernel, rfl, by decide⟩
theorem dX9_lent_43 : jm_d cX9_lent 43 (.iload_n 1) 1 44 := ⟨by decide +kernel, rfl⟩
theorem dX9_lent_44 : jm_d cX9_lent 44 (.ireturn) 1 45 := ⟨by decide +kernel, rfl⟩
set_option maxHeartbeats 4000000 in
set_option maxRecDepth 100000 in
theorem kM_lent (E : jm_Ev) (hE : jm_dj E jm_LM) {M : jm_M}  {r : Int32} (h : sM_lent M = some r) : jm_Ct E jm_LM yX9_lent cX9_lent 3 (some .int) 0 0 [.ref (jm_a E 0 0)] M (some (.int r)) M := by
  refine jm_enter (lv := [some (.ref (jm_a E 0 0)), none, none]) hE (by decide) (Nat.le_of_ble_eq_true rfl) rfl ?_
  intro z w F hz
  have G : jm_G w 0 [some (.ref (jm_a E 0 0)), none, none] [] M (sM_lent M) (fun e => z (some (.int e)) M) := by
    unfold sM_lent
    refine jm_iconst F dX9_lent_0 kc_0 ?_
    refine jm_istore_n (i := 1) (lv' := [some (.ref (jm_a E 0 0)), some (.int 0), none]) F dX9_lent_1 rfl (by decide) rfl rfl ?_
    refine jm_iconst F dX9_lent_2 kc_0 ?_
    refine jm_istore_n (i := 2) (lv' := [some (.ref (jm_a E 0 0)), some (.int 0), some (.int 0)]) F dX9_lent_3 rfl (by decide) rfl rfl ?_
    refine jm_bind (pcJ := 43) (lvJ := fun e8 => [none, some (.int e8), none]) (stJ := fun _ => []) (MJ := fun e8 => M) ?_ (fun e8 => ?_)
    · refine jm_weak F (lv' := [some (.ref (jm_a E 0 0)), some (.int 0), some (.int 0)]) ⟨rfl, rfl, rfl, trivial⟩ ?_
      refine jm_loopR (lvH := fun s1 => [some (.ref (jm_a E 0 0)), some (.int s1.1), some (.int s1.2)]) (MH := fun s1 => M) (fun s1 => ?_) jm_N (0, 0)
      unfold sM_lent_L4
      refine jm_iload_n (i := 2) F dX9_lent_4 rfl rfl ?_
      refine jm_aload_n (i := 0) F dX9_lent_5 rfl rfl ?_
      refine jm_getI F dX9_lent_6 fl_X9_106 lo_X9 rfl ?_
      refine jm_icmp_ge F dX9_lent_9 (fun c2 => ?_) (fun c2 => ?_)
      · exact jm_weakD F (lv' := [none, some (.int s1.1), none]) ⟨rfl, trivial⟩ (fun h => h)
      · refine jm_iload_n (i := 1) F dX9_lent_12 rfl rfl ?_
        refine jm_aload_n (i := 0) F dX9_lent_13 rfl rfl ?_
        refine jm_getR F dX9_lent_14 fl_X9_31 lo_X9 rfl ?_
        refine jm_iload_n (i := 2) F dX9_lent_17 rfl rfl ?_
        refine jm_iald F dX9_lent_18 la_X9_8 (fun v3 => ?_)
        refine jm_aload_n (i := 0) F dX9_lent_19 rfl rfl ?_
        refine jm_getR F dX9_lent_20 fl_X9_28 lo_X9 rfl ?_
        refine jm_iload_n (i := 2) F dX9_lent_23 rfl rfl ?_
        refine jm_iald F dX9_lent_24 la_X9_7 (fun v4 => ?_)
        refine jm_icmp_eq F dX9_lent_25 (fun c5 => ?_) (fun c5 => ?_)
        · refine jm_iconst F dX9_lent_34 kc_0 ?_
          refine jm_ior F dX9_lent_35 ?_
          refine jm_nameI (f := fun x6 => [.int x6]) (fun x6 => ?_) rfl
          refine jm_istore_n (i := 1) (lv' := [some (.ref (jm_a E 0 0)), some (.int x6), some (.int s1.2)]) F dX9_lent_36 rfl (by decide) rfl rfl ?_
          refine jm_iinc (i := 2) (lv' := [some (.ref (jm_a E 0 0)), some (.int x6), some (.int (s1.2 + 1))]) F dX9_lent_37 kc_1 rfl (by decide) rfl rfl ?_
          refine jm_goto F dX9_lent_40 ?_
          exact jm_weakD F (lv' := [some (.ref (jm_a E 0 0)), some (.int x6), some (.int (s1.2 + 1))]) ⟨rfl, rfl, rfl, trivial⟩ (fun h => h)
        · refine jm_iconst F dX9_lent_28 kc_1 ?_
          refine jm_iload_n (i := 2) F dX9_lent_29 rfl rfl ?_
          refine jm_ishl F dX9_lent_30 ?_
          refine jm_goto F dX9_lent_31 ?_
          refine jm_ior F dX9_lent_35 ?_
          refine jm_nameI (f := fun x7 => [.int x7]) (fun x7 => ?_) rfl
          refine jm_istore_n (i := 1) (lv' := [some (.ref (jm_a E 0 0)), some (.int x7), some (.int s1.2)]) F dX9_lent_36 rfl (by decide) rfl rfl ?_
          refine jm_iinc (i := 2) (lv' := [some (.ref (jm_a E 0 0)), some (.int x7), some (.int (s1.2 + 1))]) F dX9_lent_37 kc_1 rfl (by decide) rfl rfl ?_
          refine jm_goto F dX9_lent_40 ?_
          exact jm_weakD F (lv' := [some (.ref (jm_a E 0 0)), some (.int x7), some (.int (s1.2 + 1))]) ⟨rfl, rfl, rfl, trivial⟩ (fun h => h)
    · refine jm_iload_n (i := 1) F dX9_lent_43 rfl rfl ?_
      exact jm_iret F dX9_lent_44 (fun h => h)
  exact G r h hz
theorem dX9_sight_0 : jm_d cX9_sight 0 (.iload_n 1) 1 1 := ⟨by decide +kernel, rfl⟩
theorem dX9_sight_1 : decode cX9_sight 1 = .ok (.tableswitch 51 0 3 #[31, 36, 41, 46], 31) := by decide +kernel
theorem dX9_sight_32 : jm_d cX9_sight 32 (.aload_n 0) 1 33 := ⟨by decide +kernel, rfl⟩
theorem dX9_sight_33 : jm_d cX9_sight 33 (.invokevirtual 395) 3 36 := ⟨by decide +kernel, rfl⟩
theorem dX9_sight_36 : jm_d cX9_sight 36 (.ireturn) 1 37 := ⟨by decide +kernel, rfl⟩
theorem dX9_sight_37 : jm_d cX9_sight 37 (.aload_n 0) 1 38 := ⟨by decide +kernel, rfl⟩
theorem dX9_sight_38 : jm_d cX9_sight 38 (.invokevirtual 398) 3 41 := ⟨by decide +kernel, rfl⟩
theorem dX9_sight_41 : jm_d cX9_sight 41 (.ireturn) 1 42 := ⟨by decide +kernel, rfl⟩
theorem dX9_sight_42 : jm_d cX9_sight 42 (.aload_n 0) 1 43 := ⟨by decide +kernel, rfl⟩
theorem dX9_sight_43 : jm_d cX9_sight 43 (.invokevirtual 401) 3 46 := ⟨by decide +kernel, rfl⟩
theorem dX9_sight_46 : jm_d cX9_sight 46 (.ireturn) 1 47 := ⟨by decide +kernel, rfl⟩
theorem dX9_sight_47 : jm_d cX9_sight 47 (.aload_n 0) 1 48 := ⟨by decide +kernel, rfl⟩
theorem dX9_sight_48 : jm_d cX9_sight 48 (.invokevirtual 404) 3 51 := ⟨by decide +kernel, rfl⟩
theorem dX9_sight_51 : jm_d cX9_sight 51 (.ireturn) 1 52 := ⟨by decide +kernel, rfl⟩
theorem dX9_sight_52 : jm_d cX9_sight 52 (.aload_n 0) 1 53 := ⟨by decide +kernel, rfl⟩
theorem dX9_sight_53 : jm_d cX9_sight 53 (.bipush (-2)) 2 55 := ⟨by decide +kernel, rfl⟩
theorem dX9_sight_55 : jm_d cX9_sight 55 (.invokevirtual 172) 3 58 := ⟨by decide +kernel, rfl⟩
theorem dX9_sight_58 : jm_d cX9_sight 58 (.ireturn) 1 59 := ⟨by decide +kernel, rfl⟩
set_option maxHeartbeats 4000000 in
set_option maxRecDepth 100000 in
theorem kM_sight (E : jm_Ev) (hE : jm_dj E jm_LM) {M : jm_M} {p1 : Int32}  {r : Int32 × jm_M} (h : sM_sight M p1 = some r) : jm_Ct E jm_LM yX9_sight cX9_sight 2 (some .int) 7 165 [.ref (jm_a E 0 0), .int p1] M (some (.int r.1)) r.2 := by
  refine jm_enter (lv := [some (.ref (jm_a E 0 0)), some (.int p1)]) hE (by decide) (Nat.le_of_ble_eq_true rfl) rfl ?_
  intro z w F hz
  have G : jm_G w 0 [some (.ref (jm_a E 0 0)), some (.int p1)] [] M (sM_sight M p1) (fun e => z (some (.int e.1)) e.2) := by
    unfold sM_sight
    refine jm_iload_n (i := 1) F dX9_sight_0 rfl rfl ?_
    refine jm_ite (fun c1 => ?_) (fun c1 => ?_)
    · refine jm_tsw (tgt := 32) F dX9_sight_1 c1 (by decide) (by decide) rfl (by decide) ?_
      refine jm_aload_n (i := 0) F dX9_sight_32 rfl rfl ?_
      refine jm_callV (As := []) (st := []) (rv := fun r => some (.int r)) (mm := fun _ => M) F dX9_sight_33 qX9_395 rfl lo_X9 rfl (fun r h => kM_closest E hE h) rfl (Nat.le_of_ble_eq_true rfl) ⟨Nat.le_of_ble_eq_true rfl, Nat.le_of_ble_eq_true rfl⟩ (fun r2 => ?_)
      exact jm_iret F dX9_sight_36 (fun h => h)
    · refine jm_ite (fun c3 => ?_) (fun c3 => ?_)
      · refine jm_tsw (tgt := 37) F dX9_sight_1 c3 (by decide) (by decide) rfl (by decide) ?_
        refine jm_aload_n (i := 0) F dX9_sight_37 rfl rfl ?_
        refine jm_callV (As := []) (st := []) (rv := fun r => some (.int r)) (mm := fun _ => M) F dX9_sight_38 qX9_398 rfl lo_X9 rfl (fun r h => kM_poor E hE h) rfl (Nat.le_of_ble_eq_true rfl) ⟨Nat.le_of_ble_eq_true rfl, Nat.le_of_ble_eq_true rfl⟩ (fun r4 => ?_)
        exact jm_iret F dX9_sight_41 (fun h => h)
      · refine jm_ite (fun c5 => ?_) (fun c5 => ?_)
        · refine jm_tsw (tgt := 42) F dX9_sight_1 c5 (by decide) (by decide) rfl (by decide) ?_
          refine jm_aload_n (i := 0) F dX9_sight_42 rfl rfl ?_
          refine jm_callV (As := []) (st := []) (rv := fun r => some (.int r)) (mm := fun _ => M) F dX9_sight_43 qX9_401 rfl lo_X9 rfl (fun r h => kM_unread E hE h) rfl (Nat.le_of_ble_eq_true rfl) ⟨Nat.le_of_ble_eq_true rfl, Nat.le_of_ble_eq_true rfl⟩ (fun r6 => ?_)
          exact jm_iret F dX9_sight_46 (fun h => h)
        · refine jm_ite (fun c7 => ?_) (fun c7 => ?_)
          · refine jm_tsw (tgt := 47) F dX9_sight_1 c7 (by decide) (by decide) rfl (by decide) ?_
            refine jm_aload_n (i := 0) F dX9_sight_47 rfl rfl ?_
            refine jm_callV (As := []) (st := []) (rv := fun r => some (.int r)) (mm := fun _ => M) F dX9_sight_48 qX9_404 rfl lo_X9 rfl (fun r h => kM_lent E hE h) rfl (Nat.le_of_ble_eq_true rfl) ⟨Nat.le_of_ble_eq_true rfl, Nat.le_of_ble_eq_true rfl⟩ (fun r8 => ?_)
            exact jm_iret F dX9_sight_51 (fun h => h)
          · refine jm_tsd (tgt := 52) F dX9_sight_1 (by
                have e0 := jm_ne c1 (a := 0) (by decide)
                have e1 := jm_ne c3 (a := 1) (by decide)
                have e2 := jm_ne c5 (a := 2) (by decide)
                have e3 := jm_ne c7 (a := 3) (by decide)
                omega) (by decide) ?_
            refine jm_aload_n (i := 0) F dX9_sight_52 rfl rfl ?_
            refine jm_bipush F dX9_sight_53 kb_m2 ?_
            refine jm_callV (As := [.int (-2)]) (st := []) (rv := fun r => some (.int r.1)) (mm := fun r => r.2) F dX9_sight_55 qX9_172 rfl lo_X9 rfl (fun r h => kM_no E hE h) rfl (Nat.le_of_ble_eq_true rfl) ⟨Nat.le_of_ble_eq_true rfl, Nat.le_of_ble_eq_true rfl⟩ (fun r9 => ?_)
            exact jm_iret F dX9_sight_58 (fun h => h)
  exact G r h hz
theorem dX9_share_0 : jm_d cX9_share 0 (.aload_n 0) 1 1 := ⟨by decide +kernel, rfl⟩
theorem dX9_share_1 : jm_d cX9_share 1 (.iload_n 1) 1 2 := ⟨by decide +kernel, rfl⟩
theorem dX9_share_2 : jm_d cX9_share 2 (.invokevirtual 102) 3 5 := ⟨by decide +kernel, rfl⟩
theorem dX9_share_5 : jm_b cX9_share 5 (.ifCond .ne) 8 12 := ⟨7, by decide +kernel, rfl, by decide⟩
theorem dX9_share_8 : jm_d cX9_share 8 (.iconst (-1)) 1 9 := ⟨by decide +kernel, rfl⟩
theorem dX9_share_9 : jm_b cX9_share 9 .goto 12 27 := ⟨18, by decide +kernel, rfl, by decide⟩
theorem dX9_share_12 : jm_d cX9_share 12 (.iload_n 2) 1 13 := ⟨by decide +kernel, rfl⟩
theorem dX9_share_13 : jm_d cX9_share 13 (.iconst 0) 1 14 := ⟨by decide +kernel, rfl⟩
theorem dX9_share_14 : jm_d cX9_share 14 (.iconst 1) 1 15 := ⟨by decide +kernel, rfl⟩
theorem dX9_share_15 : jm_d cX9_share 15 (.invokestatic 98) 3 18 := ⟨by decide +kernel, rfl⟩
theorem dX9_share_18 : jm_b cX9_share 18 (.ifCond .ne) 21 26 := ⟨8, by decide +kernel, rfl, by decide⟩
theorem dX9_share_21 : jm_d cX9_share 21 (.bipush (-2)) 2 23 := ⟨by decide +kernel, rfl⟩
theorem dX9_share_23 : jm_b cX9_share 23 .goto 26 27 := ⟨4, by decide +kernel, rfl, by decide⟩
theorem dX9_share_26 : jm_d cX9_share 26 (.iconst 0) 1 27 := ⟨by decide +kernel, rfl⟩
theorem dX9_share_27 : jm_d cX9_share 27 (.istore_n 3) 1 28 := ⟨by decide +kernel, rfl⟩
theorem dX9_share_28 : jm_d cX9_share 28 (.iload_n 3) 1 29 := ⟨by decide +kernel, rfl⟩
theorem dX9_share_29 : jm_b cX9_share 29 (.ifCond .eq) 32 38 := ⟨9, by decide +kernel, rfl, by decide⟩
theorem dX9_share_38 : jm_d cX9_share 38 (.aload_n 0) 1 39 := ⟨by decide +kernel, rfl⟩
theorem dX9_share_39 : jm_d cX9_share 39 (.getfield 106) 3 42 := ⟨by decide +kernel, rfl⟩
theorem dX9_share_42 : jm_b cX9_share 42 (.ifCond .ne) 45 50 := ⟨8, by decide +kernel, rfl, by decide⟩
theorem dX9_share_45 : jm_d cX9_share 45 (.iload_n 2) 1 46 := ⟨by decide +kernel, rfl⟩
theorem dX9_share_46 : jm_d cX9_share 46 (.i2l) 1 47 := ⟨by decide +kernel, rfl⟩
theorem dX9_share_47 : jm_b cX9_share 47 .goto 50 65 := ⟨18, by decide +kernel, rfl, by decide⟩
theorem dX9_share_65 : jm_d cX9_share 65 (.lreturn) 1 66 := ⟨by decide +kernel, rfl⟩
theorem dX9_share_50 : jm_d cX9_share 50 (.aload_n 0) 1 51 := ⟨by decide +kernel, rfl⟩
theorem dX9_share_51 : jm_d cX9_share 51 (.iload_n 1) 1 52 := ⟨by decide +kernel, rfl⟩
theorem dX9_share_52 : jm_d cX9_share 52 (.invokevirtual 282) 3 55 := ⟨by decide +kernel, rfl⟩
theorem dX9_share_55 : jm_d cX9_share 55 (.i2l) 1 56 := ⟨by decide +kernel, rfl⟩
theorem dX9_share_56 : jm_d cX9_share 56 (.aload_n 0) 1 57 := ⟨by decide +kernel, rfl⟩
theorem dX9_share_57 : jm_d cX9_share 57 (.getfield 106) 3 60 := ⟨by decide +kernel, rfl⟩
theorem dX9_share_60 : jm_d cX9_share 60 (.i2l) 1 61 := ⟨by decide +kernel, rfl⟩
theorem dX9_share_61 : jm_d cX9_share 61 (.iload_n 2) 1 62 := ⟨by decide +kernel, rfl⟩
theorem dX9_share_62 : jm_d cX9_share 62 (.invokestatic 373) 3 65 := ⟨by decide +kernel, rfl⟩
theorem dX9_share_32 : jm_d cX9_share 32 (.aload_n 0) 1 33 := ⟨by decide +kernel, rfl⟩
theorem dX9_share_33 : jm_d cX9_share 33 (.iload_n 3) 1 34 := ⟨by decide +kernel, rfl⟩
theorem dX9_share_34 : jm_d cX9_share 34 (.invokevirtual 369) 3 37 := ⟨by decide +kernel, rfl⟩
theorem dX9_share_37 : jm_d cX9_share 37 (.lreturn) 1 38 := ⟨by decide +kernel, rfl⟩
set_option maxHeartbeats 4000000 in
set_option maxRecDepth 100000 in
theorem kM_share (E : jm_Ev) (hE : jm_dj E jm_LM) {M : jm_M} {p1 : Int32} {p2 : Int32}  {r : Int64 × jm_M} (h : sM_share M p1 p2 = some r) : jm_Ct E jm_LM yX9_share cX9_share 4 (some .long) 2 53 [.ref (jm_a E 0 0), .int p1, .int p2] M (some (.long r.1)) r.2 := by
  refine jm_enter (lv := [some (.ref (jm_a E 0 0)), some (.int p1), some (.int p2), none]) hE (by decide) (Nat.le_of_ble_eq_true rfl) rfl ?_
  intro z w F hz
  have G : jm_G w 0 [some (.ref (jm_a E 0 0)), some (.int p1), some (.int p2), none] [] M (sM_share M p1 p2) (fun e => z (some (.long e.1)) e.2) := by
    unfold sM_share
    refine jm_aload_n (i := 0) F dX9_share_0 rfl rfl ?_
    refine jm_iload_n (i := 1) F dX9_share_1 rfl rfl ?_
    refine jm_callV (As := [.int p1]) (st := []) (rv := fun r => some (.int r)) (mm := fun _ => M) F dX9_share_2 qX9_102 rfl lo_X9 rfl (fun r h => kM_isPerson E hE h) rfl (Nat.le_of_ble_eq_true rfl) ⟨Nat.le_of_ble_eq_true rfl, Nat.le_of_ble_eq_true rfl⟩ (fun r1 => ?_)
    refine jm_bind (pcJ := 27) (lvJ := fun e2 => [some (.ref (jm_a E 0 0)), some (.int p1), some (.int p2), none]) (stJ := fun e2 => [.int e2]) (MJ := fun e2 => M) ?_ (fun e2 => ?_)
    · refine jm_if_ne F dX9_share_5 (fun c3 => ?_) (fun c3 => ?_)
      · refine jm_iconst F dX9_share_8 kc_m1 ?_
        refine jm_goto F dX9_share_9 ?_
        exact jm_weakD F (lv' := [some (.ref (jm_a E 0 0)), some (.int p1), some (.int p2), none]) ⟨rfl, rfl, rfl, trivial⟩ (fun h => h)
      · refine jm_iload_n (i := 2) F dX9_share_12 rfl rfl ?_
        refine jm_iconst F dX9_share_13 kc_0 ?_
        refine jm_iconst F dX9_share_14 kc_1 ?_
        refine jm_callS (As := [.int p2, .int 0, .int 1]) (st := []) (rv := fun r => some (.int r)) (mm := fun _ => M) F dX9_share_15 qX9_98 rfl (fun r h => kM_isIn E hE h) rfl (Nat.le_of_ble_eq_true rfl) ⟨Nat.le_of_ble_eq_true rfl, Nat.le_of_ble_eq_true rfl⟩ (fun r4 => ?_)
        refine jm_if_ne F dX9_share_18 (fun c5 => ?_) (fun c5 => ?_)
        · refine jm_bipush F dX9_share_21 kb_m2 ?_
          refine jm_goto F dX9_share_23 ?_
          exact jm_weakD F (lv' := [some (.ref (jm_a E 0 0)), some (.int p1), some (.int p2), none]) ⟨rfl, rfl, rfl, trivial⟩ (fun h => h)
        · refine jm_iconst F dX9_share_26 kc_0 ?_
          exact jm_weakD F (lv' := [some (.ref (jm_a E 0 0)), some (.int p1), some (.int p2), none]) ⟨rfl, rfl, rfl, trivial⟩ (fun h => h)
    · refine jm_istore_n (i := 3) (lv' := [some (.ref (jm_a E 0 0)), some (.int p1), some (.int p2), some (.int e2)]) F dX9_share_27 rfl (by decide) rfl rfl ?_
      refine jm_iload_n (i := 3) F dX9_share_28 rfl rfl ?_
      refine jm_if_eq F dX9_share_29 (fun c6 => ?_) (fun c6 => ?_)
      · refine jm_aload_n (i := 0) F dX9_share_38 rfl rfl ?_
        refine jm_getI F dX9_share_39 fl_X9_106 lo_X9 rfl ?_
        refine jm_if_ne F dX9_share_42 (fun c7 => ?_) (fun c7 => ?_)
        · refine jm_iload_n (i := 2) F dX9_share_45 rfl rfl ?_
          refine jm_i2l F dX9_share_46 ?_
          refine jm_goto F dX9_share_47 ?_
          exact jm_lret F dX9_share_65 (fun h => h)
        · refine jm_aload_n (i := 0) F dX9_share_50 rfl rfl ?_
          refine jm_iload_n (i := 1) F dX9_share_51 rfl rfl ?_
          refine jm_callV (As := [.int p1]) (st := []) (rv := fun r => some (.int r)) (mm := fun _ => M) F dX9_share_52 qX9_282 rfl lo_X9 rfl (fun r h => kM_manyRead E hE h) rfl (Nat.le_of_ble_eq_true rfl) ⟨Nat.le_of_ble_eq_true rfl, Nat.le_of_ble_eq_true rfl⟩ (fun r8 => ?_)
          refine jm_i2l F dX9_share_55 ?_
          refine jm_aload_n (i := 0) F dX9_share_56 rfl rfl ?_
          refine jm_getI F dX9_share_57 fl_X9_106 lo_X9 rfl ?_
          refine jm_i2l F dX9_share_60 ?_
          refine jm_iload_n (i := 2) F dX9_share_61 rfl rfl ?_
          refine jm_callS (As := [.long ((r8 : Int32).toInt64), .long ((M 0 0 14 : Int32).toInt64), .int p2]) (st := []) (rv := fun r => some (.long r)) (mm := fun _ => M) F dX9_share_62 qX9_373 rfl (fun r h => kM_partOf E hE h) rfl (Nat.le_of_ble_eq_true rfl) ⟨Nat.le_of_ble_eq_true rfl, Nat.le_of_ble_eq_true rfl⟩ (fun r9 => ?_)
          exact jm_lret F dX9_share_65 (fun h => h)
      · refine jm_aload_n (i := 0) F dX9_share_32 rfl rfl ?_
        refine jm_iload_n (i := 3) F dX9_share_33 rfl rfl ?_
        refine jm_callV (As := [.int e2]) (st := []) (rv := fun r => some (.long r.1)) (mm := fun r => r.2) F dX9_share_34 qX9_369 rfl lo_X9 rfl (fun r h => kM_lowestOf E hE h) rfl (Nat.le_of_ble_eq_true rfl) ⟨Nat.le_of_ble_eq_true rfl, Nat.le_of_ble_eq_true rfl⟩ (fun r10 => ?_)
        exact jm_lret F dX9_share_37 (fun h => h)
  exact G r h hz
theorem dX9_byHeart_0 : jm_d cX9_byHeart 0 (.aload_n 0) 1 1 := ⟨by decide +kernel, rfl⟩
theorem dX9_byHeart_1 : jm_d cX9_byHeart 1 (.iload_n 1) 1 2 := ⟨by decide +kernel, rfl⟩
theorem dX9_byHeart_2 : jm_d cX9_byHeart 2 (.iload_n 2) 1 3 := ⟨by decide +kernel, rfl⟩
theorem dX9_byHeart_3 : jm_d cX9_byHeart 3 (.invokevirtual 301) 3 6 := ⟨by decide +kernel, rfl⟩
theorem dX9_byHeart_6 : jm_b cX9_byHeart 6 (.ifCond .ne) 9 15 := ⟨9, by decide +kernel, rfl, by decide⟩
theorem dX9_byHeart_9 : jm_d cX9_byHeart 9 (.aload_n 0) 1 10 := ⟨by decide +kernel, rfl⟩
theorem dX9_byHeart_10 : jm_d cX9_byHeart 10 (.iconst (-1)) 1 11 := ⟨by decide +kernel, rfl⟩
theorem dX9_byHeart_11 : jm_d cX9_byHeart 11 (.invokevirtual 172) 3 14 := ⟨by decide +kernel, rfl⟩
theorem dX9_byHeart_14 : jm_d cX9_byHeart 14 (.ireturn) 1 15 := ⟨by decide +kernel, rfl⟩
theorem dX9_byHeart_15 : jm_d cX9_byHeart 15 (.iconst 0) 1 16 := ⟨by decide +kernel, rfl⟩
theorem dX9_byHeart_16 : jm_d cX9_byHeart 16 (.istore_n 3) 1 17 := ⟨by decide +kernel, rfl⟩
theorem dX9_byHeart_17 : jm_d cX9_byHeart 17 (.iconst 0) 1 18 := ⟨by decide +kernel, rfl⟩
theorem dX9_byHeart_18 : jm_d cX9_byHeart 18 (.istore 4) 2 20 := ⟨by decide +kernel, rfl⟩
theorem dX9_byHeart_20 : jm_d cX9_byHeart 20 (.iload 4) 2 22 := ⟨by decide +kernel, rfl⟩
theorem dX9_byHeart_22 : jm_d cX9_byHeart 22 (.aload_n 0) 1 23 := ⟨by decide +kernel, rfl⟩
theorem dX9_byHeart_23 : jm_d cX9_byHeart 23 (.getfield 106) 3 26 := ⟨by decide +kernel, rfl⟩
theorem dX9_byHeart_26 : jm_b cX9_byHeart 26 (.if_icmp .ge) 29 74 := ⟨48, by decide +kernel, rfl, by decide⟩
theorem dX9_byHeart_29 : jm_d cX9_byHeart 29 (.iload_n 3) 1 30 := ⟨by decide +kernel, rfl⟩
theorem dX9_byHeart_30 : jm_d cX9_byHeart 30 (.aload_n 0) 1 31 := ⟨by decide +kernel, rfl⟩
theorem dX9_byHeart_31 : jm_d cX9_byHeart 31 (.getfield 34) 3 34 := ⟨by decide +kernel, rfl⟩
theorem dX9_byHeart_34 : jm_d cX9_byHeart 34 (.iload 4) 2 36 := ⟨by decide +kernel, rfl⟩
theorem dX9_byHeart_36 : jm_d cX9_byHeart 36 (.iaload) 1 37 := ⟨by decide +kernel, rfl⟩
theorem dX9_byHeart_37 : jm_d cX9_byHeart 37 (.iload_n 1) 1 38 := ⟨by decide +kernel, rfl⟩
theorem dX9_byHeart_38 : jm_d cX9_byHeart 38 (.invokestatic 132) 3 41 := ⟨by decide +kernel, rfl⟩
theorem dX9_byHeart_41 : jm_b cX9_byHeart 41 (.ifCond .eq) 44 65 := ⟨24, by decide +kernel, rfl, by decide⟩
theorem dX9_byHeart_65 : jm_d cX9_byHeart 65 (.iconst 0) 1 66 := ⟨by decide +kernel, rfl⟩
theorem dX9_byHeart_66 : jm_d cX9_byHeart 66 (.ior) 1 67 := ⟨by decide +kernel, rfl⟩
theorem dX9_byHeart_67 : jm_d cX9_byHeart 67 (.istore_n 3) 1 68 := ⟨by decide +kernel, rfl⟩
theorem dX9_byHeart_68 : jm_d cX9_byHeart 68 (.iinc 4 1) 3 71 := ⟨by decide +kernel, rfl⟩
theorem dX9_byHeart_71 : jm_b cX9_byHeart 71 .goto 74 20 := ⟨(-51), by decide +kernel, rfl, by decide⟩
theorem dX9_byHeart_44 : jm_d cX9_byHeart 44 (.aload_n 0) 1 45 := ⟨by decide +kernel, rfl⟩
theorem dX9_byHeart_45 : jm_d cX9_byHeart 45 (.getfield 34) 3 48 := ⟨by decide +kernel, rfl⟩
theorem dX9_byHeart_48 : jm_d cX9_byHeart 48 (.iload 4) 2 50 := ⟨by decide +kernel, rfl⟩
theorem dX9_byHeart_50 : jm_d cX9_byHeart 50 (.iaload) 1 51 := ⟨by decide +kernel, rfl⟩
theorem dX9_byHeart_51 : jm_d cX9_byHeart 51 (.iload_n 2) 1 52 := ⟨by decide +kernel, rfl⟩
theorem dX9_byHeart_52 : jm_d cX9_byHeart 52 (.invokestatic 132) 3 55 := ⟨by decide +kernel, rfl⟩
theorem dX9_byHeart_55 : jm_b cX9_byHeart 55 (.ifCond .eq) 58 65 := ⟨10, by decide +kernel, rfl, by decide⟩
theorem dX9_byHeart_58 : jm_d cX9_byHeart 58 (.iconst 1) 1 59 := ⟨by decide +kernel, rfl⟩
theorem dX9_byHeart_59 : jm_d cX9_byHeart 59 (.iload 4) 2 61 := ⟨by decide +kernel, rfl⟩
theorem dX9_byHeart_61 : jm_d cX9_byHeart 61 (.ishl) 1 62 := ⟨by decide +kernel, rfl⟩
theorem dX9_byHeart_62 : jm_b cX9_byHeart 62 .goto 65 66 := ⟨4, by decide +kernel, rfl, by decide⟩
theorem dX9_byHeart_74 : jm_d cX9_byHeart 74 (.iload_n 3) 1 75 := ⟨by decide +kernel, rfl⟩
theorem dX9_byHeart_75 : jm_d cX9_byHeart 75 (.ireturn) 1 76 := ⟨by decide +kernel, rfl⟩
set_option maxHeartbeats 4000000 in
set_option maxRecDepth 100000 in
theorem kM_byHeart (E : jm_Ev) (hE : jm_dj E jm_LM) {M : jm_M} {p1 : Int32} {p2 : Int32}  {r : Int32 × jm_M} (h : sM_byHeart M p1 p2 = some r) : jm_Ct E jm_LM yX9_byHeart cX9_byHeart 5 (some .int) 3 65 [.ref (jm_a E 0 0), .int p1, .int p2] M (some (.int r.1)) r.2 := by
  refine jm_enter (lv := [some (.ref (jm_a E 0 0)), some (.int p1), some (.int p2), none, none]) hE (by decide) (Nat.le_of_ble_eq_true rfl) rfl ?_
  intro z w F hz
  have G : jm_G w 0 [some (.ref (jm_a E 0 0)), some (.int p1), some (.int p2), none, none] [] M (sM_byHeart M p1 p2) (fun e => z (some (.int e.1)) e.2) := by
    unfold sM_byHeart
    refine jm_aload_n (i := 0) F dX9_byHeart_0 rfl rfl ?_
    refine jm_iload_n (i := 1) F dX9_byHeart_1 rfl rfl ?_
    refine jm_iload_n (i := 2) F dX9_byHeart_2 rfl rfl ?_
    refine jm_callV (As := [.int p1, .int p2]) (st := []) (rv := fun r => some (.int r)) (mm := fun _ => M) F dX9_byHeart_3 qX9_301 rfl lo_X9 rfl (fun r h => kM_areTwo E hE h) rfl (Nat.le_of_ble_eq_true rfl) ⟨Nat.le_of_ble_eq_true rfl, Nat.le_of_ble_eq_true rfl⟩ (fun r1 => ?_)
    refine jm_if_ne F dX9_byHeart_6 (fun c2 => ?_) (fun c2 => ?_)
    · refine jm_aload_n (i := 0) F dX9_byHeart_9 rfl rfl ?_
      refine jm_iconst F dX9_byHeart_10 kc_m1 ?_
      refine jm_callV (As := [.int (-1)]) (st := []) (rv := fun r => some (.int r.1)) (mm := fun r => r.2) F dX9_byHeart_11 qX9_172 rfl lo_X9 rfl (fun r h => kM_no E hE h) rfl (Nat.le_of_ble_eq_true rfl) ⟨Nat.le_of_ble_eq_true rfl, Nat.le_of_ble_eq_true rfl⟩ (fun r3 => ?_)
      exact jm_iret F dX9_byHeart_14 (fun h => h)
    · refine jm_iconst F dX9_byHeart_15 kc_0 ?_
      refine jm_istore_n (i := 3) (lv' := [some (.ref (jm_a E 0 0)), some (.int p1), some (.int p2), some (.int 0), none]) F dX9_byHeart_16 rfl (by decide) rfl rfl ?_
      refine jm_iconst F dX9_byHeart_17 kc_0 ?_
      refine jm_istore (i := 4) (lv' := [some (.ref (jm_a E 0 0)), some (.int p1), some (.int p2), some (.int 0), some (.int 0)]) F dX9_byHeart_18 (by decide) rfl rfl ?_
      refine jm_bind (pcJ := 74) (lvJ := fun e15 => [none, none, none, some (.int e15), none]) (stJ := fun _ => []) (MJ := fun e15 => M) ?_ (fun e15 => ?_)
      · refine jm_weak F (lv' := [some (.ref (jm_a E 0 0)), some (.int p1), some (.int p2), some (.int 0), some (.int 0)]) ⟨rfl, rfl, rfl, rfl, rfl, trivial⟩ ?_
        refine jm_loopR (lvH := fun s4 => [some (.ref (jm_a E 0 0)), some (.int p1), some (.int p2), some (.int s4.1), some (.int s4.2)]) (MH := fun s4 => M) (fun s4 => ?_) jm_N (0, 0)
        unfold sM_byHeart_L20
        refine jm_iload F dX9_byHeart_20 rfl ?_
        refine jm_aload_n (i := 0) F dX9_byHeart_22 rfl rfl ?_
        refine jm_getI F dX9_byHeart_23 fl_X9_106 lo_X9 rfl ?_
        refine jm_icmp_ge F dX9_byHeart_26 (fun c5 => ?_) (fun c5 => ?_)
        · exact jm_weakD F (lv' := [none, none, none, some (.int s4.1), none]) ⟨rfl, trivial⟩ (fun h => h)
        · refine jm_iload_n (i := 3) F dX9_byHeart_29 rfl rfl ?_
          refine jm_aload_n (i := 0) F dX9_byHeart_30 rfl rfl ?_
          refine jm_getR F dX9_byHeart_31 fl_X9_34 lo_X9 rfl ?_
          refine jm_iload F dX9_byHeart_34 rfl ?_
          refine jm_iald F dX9_byHeart_36 la_X9_9 (fun v6 => ?_)
          refine jm_iload_n (i := 1) F dX9_byHeart_37 rfl rfl ?_
          refine jm_callS (As := [.int v6, .int p1]) (st := [.int s4.1]) (rv := fun r => some (.int r)) (mm := fun _ => M) F dX9_byHeart_38 qX9_132 rfl (fun r h => kM_has E hE h) rfl (Nat.le_of_ble_eq_true rfl) ⟨Nat.le_of_ble_eq_true rfl, Nat.le_of_ble_eq_true rfl⟩ (fun r7 => ?_)
          refine jm_if_eq F dX9_byHeart_41 (fun c8 => ?_) (fun c8 => ?_)
          · refine jm_iconst F dX9_byHeart_65 kc_0 ?_
            refine jm_ior F dX9_byHeart_66 ?_
            refine jm_nameI (f := fun x9 => [.int x9]) (fun x9 => ?_) rfl
            refine jm_istore_n (i := 3) (lv' := [some (.ref (jm_a E 0 0)), some (.int p1), some (.int p2), some (.int x9), some (.int s4.2)]) F dX9_byHeart_67 rfl (by decide) rfl rfl ?_
            refine jm_iinc (i := 4) (lv' := [some (.ref (jm_a E 0 0)), some (.int p1), some (.int p2), some (.int x9), some (.int (s4.2 + 1))]) F dX9_byHeart_68 kc_1 rfl (by decide) rfl rfl ?_
            refine jm_goto F dX9_byHeart_71 ?_
            exact jm_weakD F (lv' := [some (.ref (jm_a E 0 0)), some (.int p1), some (.int p2), some (.int x9), some (.int (s4.2 + 1))]) ⟨rfl, rfl, rfl, rfl, rfl, trivial⟩ (fun h => h)
          · refine jm_aload_n (i := 0) F dX9_byHeart_44 rfl rfl ?_
            refine jm_getR F dX9_byHeart_45 fl_X9_34 lo_X9 rfl ?_
            refine jm_iload F dX9_byHeart_48 rfl ?_
            refine jm_iald F dX9_byHeart_50 la_X9_9 (fun v10 => ?_)
            refine jm_iload_n (i := 2) F dX9_byHeart_51 rfl rfl ?_
            refine jm_callS (As := [.int v10, .int p2]) (st := [.int s4.1]) (rv := fun r => some (.int r)) (mm := fun _ => M) F dX9_byHeart_52 qX9_132 rfl (fun r h => kM_has E hE h) rfl (Nat.le_of_ble_eq_true rfl) ⟨Nat.le_of_ble_eq_true rfl, Nat.le_of_ble_eq_true rfl⟩ (fun r11 => ?_)
            refine jm_if_eq F dX9_byHeart_55 (fun c12 => ?_) (fun c12 => ?_)
            · refine jm_iconst F dX9_byHeart_65 kc_0 ?_
              refine jm_ior F dX9_byHeart_66 ?_
              refine jm_nameI (f := fun x13 => [.int x13]) (fun x13 => ?_) rfl
              refine jm_istore_n (i := 3) (lv' := [some (.ref (jm_a E 0 0)), some (.int p1), some (.int p2), some (.int x13), some (.int s4.2)]) F dX9_byHeart_67 rfl (by decide) rfl rfl ?_
              refine jm_iinc (i := 4) (lv' := [some (.ref (jm_a E 0 0)), some (.int p1), some (.int p2), some (.int x13), some (.int (s4.2 + 1))]) F dX9_byHeart_68 kc_1 rfl (by decide) rfl rfl ?_
              refine jm_goto F dX9_byHeart_71 ?_
              exact jm_weakD F (lv' := [some (.ref (jm_a E 0 0)), some (.int p1), some (.int p2), some (.int x13), some (.int (s4.2 + 1))]) ⟨rfl, rfl, rfl, rfl, rfl, trivial⟩ (fun h => h)
            · refine jm_iconst F dX9_byHeart_58 kc_1 ?_
              refine jm_iload F dX9_byHeart_59 rfl ?_
              refine jm_ishl F dX9_byHeart_61 ?_
              refine jm_goto F dX9_byHeart_62 ?_
              refine jm_ior F dX9_byHeart_66 ?_
              refine jm_nameI (f := fun x14 => [.int x14]) (fun x14 => ?_) rfl
              refine jm_istore_n (i := 3) (lv' := [some (.ref (jm_a E 0 0)), some (.int p1), some (.int p2), some (.int x14), some (.int s4.2)]) F dX9_byHeart_67 rfl (by decide) rfl rfl ?_
              refine jm_iinc (i := 4) (lv' := [some (.ref (jm_a E 0 0)), some (.int p1), some (.int p2), some (.int x14), some (.int (s4.2 + 1))]) F dX9_byHeart_68 kc_1 rfl (by decide) rfl rfl ?_
              refine jm_goto F dX9_byHeart_71 ?_
              exact jm_weakD F (lv' := [some (.ref (jm_a E 0 0)), some (.int p1), some (.int p2), some (.int x14), some (.int (s4.2 + 1))]) ⟨rfl, rfl, rfl, rfl, rfl, trivial⟩ (fun h => h)
      · refine jm_iload_n (i := 3) F dX9_byHeart_74 rfl rfl ?_
        exact jm_iret F dX9_byHeart_75 (fun h => h)
  exact G r h hz
theorem dX9_kinds_0 : jm_d cX9_kinds 0 (.iload_n 1) 1 1 := ⟨by decide +kernel, rfl⟩
theorem dX9_kinds_1 : jm_d cX9_kinds 1 (.iconst 0) 1 2 := ⟨by decide +kernel, rfl⟩
theorem dX9_kinds_2 : jm_d cX9_kinds 2 (.bipush 7) 2 4 := ⟨by decide +kernel, rfl⟩
theorem dX9_kinds_4 : jm_d cX9_kinds 4 (.invokestatic 98) 3 7 := ⟨by decide +kernel, rfl⟩
theorem dX9_kinds_7 : jm_b cX9_kinds 7 (.ifCond .eq) 10 25 := ⟨18, by decide +kernel, rfl, by decide⟩
theorem dX9_kinds_25 : jm_d cX9_kinds 25 (.aload_n 0) 1 26 := ⟨by decide +kernel, rfl⟩
theorem dX9_kinds_26 : jm_d cX9_kinds 26 (.bipush (-2)) 2 28 := ⟨by decide +kernel, rfl⟩
theorem dX9_kinds_28 : jm_d cX9_kinds 28 (.invokevirtual 172) 3 31 := ⟨by decide +kernel, rfl⟩
theorem dX9_kinds_31 : jm_d cX9_kinds 31 (.ireturn) 1 32 := ⟨by decide +kernel, rfl⟩
theorem dX9_kinds_10 : jm_d cX9_kinds 10 (.aload_n 0) 1 11 := ⟨by decide +kernel, rfl⟩
theorem dX9_kinds_11 : jm_d cX9_kinds 11 (.getfield 22) 3 14 := ⟨by decide +kernel, rfl⟩
theorem dX9_kinds_14 : jm_d cX9_kinds 14 (.aload_n 0) 1 15 := ⟨by decide +kernel, rfl⟩
theorem dX9_kinds_15 : jm_d cX9_kinds 15 (.getfield 106) 3 18 := ⟨by decide +kernel, rfl⟩
theorem dX9_kinds_18 : jm_d cX9_kinds 18 (.iload_n 1) 1 19 := ⟨by decide +kernel, rfl⟩
theorem dX9_kinds_19 : jm_d cX9_kinds 19 (.invokestatic 285) 3 22 := ⟨by decide +kernel, rfl⟩
theorem dX9_kinds_22 : jm_b cX9_kinds 22 .goto 25 31 := ⟨9, by decide +kernel, rfl, by decide⟩
set_option maxHeartbeats 4000000 in
set_option maxRecDepth 100000 in
theorem kM_kinds (E : jm_Ev) (hE : jm_dj E jm_LM) {M : jm_M} {p1 : Int32}  {r : Int32 × jm_M} (h : sM_kinds M p1 = some r) : jm_Ct E jm_LM yX9_kinds cX9_kinds 2 (some .int) 1 24 [.ref (jm_a E 0 0), .int p1] M (some (.int r.1)) r.2 := by
  refine jm_enter (lv := [some (.ref (jm_a E 0 0)), some (.int p1)]) hE (by decide) (Nat.le_of_ble_eq_true rfl) rfl ?_
  intro z w F hz
  have G : jm_G w 0 [some (.ref (jm_a E 0 0)), some (.int p1)] [] M (sM_kinds M p1) (fun e => z (some (.int e.1)) e.2) := by
    unfold sM_kinds
    refine jm_iload_n (i := 1) F dX9_kinds_0 rfl rfl ?_
    refine jm_iconst F dX9_kinds_1 kc_0 ?_
    refine jm_bipush F dX9_kinds_2 kb_7 ?_
    refine jm_callS (As := [.int p1, .int 0, .int 7]) (st := []) (rv := fun r => some (.int r)) (mm := fun _ => M) F dX9_kinds_4 qX9_98 rfl (fun r h => kM_isIn E hE h) rfl (Nat.le_of_ble_eq_true rfl) ⟨Nat.le_of_ble_eq_true rfl, Nat.le_of_ble_eq_true rfl⟩ (fun r1 => ?_)
    refine jm_if_eq F dX9_kinds_7 (fun c2 => ?_) (fun c2 => ?_)
    · refine jm_aload_n (i := 0) F dX9_kinds_25 rfl rfl ?_
      refine jm_bipush F dX9_kinds_26 kb_m2 ?_
      refine jm_callV (As := [.int (-2)]) (st := []) (rv := fun r => some (.int r.1)) (mm := fun r => r.2) F dX9_kinds_28 qX9_172 rfl lo_X9 rfl (fun r h => kM_no E hE h) rfl (Nat.le_of_ble_eq_true rfl) ⟨Nat.le_of_ble_eq_true rfl, Nat.le_of_ble_eq_true rfl⟩ (fun r3 => ?_)
      exact jm_iret F dX9_kinds_31 (fun h => h)
    · refine jm_aload_n (i := 0) F dX9_kinds_10 rfl rfl ?_
      refine jm_getR F dX9_kinds_11 fl_X9_22 lo_X9 rfl ?_
      refine jm_aload_n (i := 0) F dX9_kinds_14 rfl rfl ?_
      refine jm_getI F dX9_kinds_15 fl_X9_106 lo_X9 rfl ?_
      refine jm_iload_n (i := 1) F dX9_kinds_18 rfl rfl ?_
      refine jm_callS (As := [.ref (jm_a E 0 5), .int (M 0 0 14), .int p1]) (st := []) (rv := fun r => some (.int r)) (mm := fun _ => M) F dX9_kinds_19 qX9_285 rfl (fun r h => kM_manyIn E hE h) rfl (Nat.le_of_ble_eq_true rfl) ⟨Nat.le_of_ble_eq_true rfl, Nat.le_of_ble_eq_true rfl⟩ (fun r4 => ?_)
      refine jm_goto F dX9_kinds_22 ?_
      exact jm_iret F dX9_kinds_31 (fun h => h)
  exact G r h hz
theorem dX9_row_0 : jm_d cX9_row 0 (.iload_n 1) 1 1 := ⟨by decide +kernel, rfl⟩
theorem dX9_row_1 : jm_d cX9_row 1 (.bipush (-99)) 2 3 := ⟨by decide +kernel, rfl⟩
theorem dX9_row_3 : jm_d cX9_row 3 (.bipush 99) 2 5 := ⟨by decide +kernel, rfl⟩
theorem dX9_row_5 : jm_d cX9_row 5 (.invokestatic 166) 3 8 := ⟨by decide +kernel, rfl⟩
theorem dX9_row_8 : jm_d cX9_row 8 (.istore_n 2) 1 9 := ⟨by decide +kernel, rfl⟩
theorem dX9_row_9 : jm_d cX9_row 9 (.iload_n 2) 1 10 := ⟨by decide +kernel, rfl⟩
theorem dX9_row_10 : jm_b cX9_row 10 (.ifCond .ne) 13 25 := ⟨15, by decide +kernel, rfl, by decide⟩
theorem dX9_row_13 : jm_d cX9_row 13 (.aload_n 0) 1 14 := ⟨by decide +kernel, rfl⟩
theorem dX9_row_14 : jm_d cX9_row 14 (.getfield 353) 3 17 := ⟨by decide +kernel, rfl⟩
theorem dX9_row_17 : jm_d cX9_row 17 (.bipush 12) 2 19 := ⟨by decide +kernel, rfl⟩
theorem dX9_row_19 : jm_b cX9_row 19 (.if_icmp .ne) 22 25 := ⟨6, by decide +kernel, rfl, by decide⟩
theorem dX9_row_22 : jm_d cX9_row 22 (.bipush (-6)) 2 24 := ⟨by decide +kernel, rfl⟩
theorem dX9_row_24 : jm_d cX9_row 24 (.istore_n 2) 1 25 := ⟨by decide +kernel, rfl⟩
theorem dX9_row_25 : jm_d cX9_row 25 (.iload_n 2) 1 26 := ⟨by decide +kernel, rfl⟩
theorem dX9_row_26 : jm_b cX9_row 26 (.ifCond .eq) 29 35 := ⟨9, by decide +kernel, rfl, by decide⟩
theorem dX9_row_35 : jm_d cX9_row 35 (.aload_n 0) 1 36 := ⟨by decide +kernel, rfl⟩
theorem dX9_row_36 : jm_d cX9_row 36 (.getfield 85) 3 39 := ⟨by decide +kernel, rfl⟩
theorem dX9_row_39 : jm_d cX9_row 39 (.aload_n 0) 1 40 := ⟨by decide +kernel, rfl⟩
theorem dX9_row_40 : jm_d cX9_row 40 (.getfield 353) 3 43 := ⟨by decide +kernel, rfl⟩
theorem dX9_row_43 : jm_d cX9_row 43 (.iload_n 1) 1 44 := ⟨by decide +kernel, rfl⟩
theorem dX9_row_44 : jm_d cX9_row 44 (.iastore) 1 45 := ⟨by decide +kernel, rfl⟩
theorem dX9_row_45 : jm_d cX9_row 45 (.aload_n 0) 1 46 := ⟨by decide +kernel, rfl⟩
theorem dX9_row_46 : jm_d cX9_row 46 (.dup) 1 47 := ⟨by decide +kernel, rfl⟩
theorem dX9_row_47 : jm_d cX9_row 47 (.getfield 353) 3 50 := ⟨by decide +kernel, rfl⟩
theorem dX9_row_50 : jm_d cX9_row 50 (.iconst 1) 1 51 := ⟨by decide +kernel, rfl⟩
theorem dX9_row_51 : jm_d cX9_row 51 (.iadd) 1 52 := ⟨by decide +kernel, rfl⟩
theorem dX9_row_52 : jm_d cX9_row 52 (.putfield 353) 3 55 := ⟨by decide +kernel, rfl⟩
theorem dX9_row_55 : jm_d cX9_row 55 (.aload_n 0) 1 56 := ⟨by decide +kernel, rfl⟩
theorem dX9_row_56 : jm_d cX9_row 56 (.getfield 353) 3 59 := ⟨by decide +kernel, rfl⟩
theorem dX9_row_59 : jm_d cX9_row 59 (.ireturn) 1 60 := ⟨by decide +kernel, rfl⟩
theorem dX9_row_29 : jm_d cX9_row 29 (.aload_n 0) 1 30 := ⟨by decide +kernel, rfl⟩
theorem dX9_row_30 : jm_d cX9_row 30 (.iload_n 2) 1 31 := ⟨by decide +kernel, rfl⟩
theorem dX9_row_31 : jm_d cX9_row 31 (.invokevirtual 172) 3 34 := ⟨by decide +kernel, rfl⟩
theorem dX9_row_34 : jm_d cX9_row 34 (.ireturn) 1 35 := ⟨by decide +kernel, rfl⟩
set_option maxHeartbeats 4000000 in
set_option maxRecDepth 100000 in
theorem kM_row (E : jm_Ev) (hE : jm_dj E jm_LM) {M : jm_M} {p1 : Int32}  {r : Int32 × jm_M} (h : sM_row M p1 = some r) : jm_Ct E jm_LM yX9_row cX9_row 3 (some .int) 1 22 [.ref (jm_a E 0 0), .int p1] M (some (.int r.1)) r.2 := by
  refine jm_enter (lv := [some (.ref (jm_a E 0 0)), some (.int p1), none]) hE (by decide) (Nat.le_of_ble_eq_true rfl) rfl ?_
  intro z w F hz
  have G : jm_G w 0 [some (.ref (jm_a E 0 0)), some (.int p1), none] [] M (sM_row M p1) (fun e => z (some (.int e.1)) e.2) := by
    unfold sM_row
    refine jm_iload_n (i := 1) F dX9_row_0 rfl rfl ?_
    refine jm_bipush F dX9_row_1 kb_m99 ?_
    refine jm_bipush F dX9_row_3 kb_99 ?_
    refine jm_callS (As := [.int p1, .int (-99), .int 99]) (st := []) (rv := fun r => some (.int r)) (mm := fun _ => M) F dX9_row_5 qX9_166 rfl (fun r h => kM_bound E hE h) rfl (Nat.le_of_ble_eq_true rfl) ⟨Nat.le_of_ble_eq_true rfl, Nat.le_of_ble_eq_true rfl⟩ (fun r1 => ?_)
    refine jm_istore_n (i := 2) (lv' := [some (.ref (jm_a E 0 0)), some (.int p1), some (.int r1)]) F dX9_row_8 rfl (by decide) rfl rfl ?_
    refine jm_iload_n (i := 2) F dX9_row_9 rfl rfl ?_
    refine jm_bind (pcJ := 25) (lvJ := fun e2 => [some (.ref (jm_a E 0 0)), some (.int p1), some (.int e2)]) (stJ := fun e2 => []) (MJ := fun e2 => M) ?_ (fun e2 => ?_)
    · refine jm_if_ne F dX9_row_10 (fun c3 => ?_) (fun c3 => ?_)
      · refine jm_aload_n (i := 0) F dX9_row_13 rfl rfl ?_
        refine jm_getI F dX9_row_14 fl_X9_353 lo_X9 rfl ?_
        refine jm_bipush F dX9_row_17 kb_12 ?_
        refine jm_icmp_ne F dX9_row_19 (fun c4 => ?_) (fun c4 => ?_)
        · refine jm_bipush F dX9_row_22 kb_m6 ?_
          refine jm_istore_n (i := 2) (lv' := [some (.ref (jm_a E 0 0)), some (.int p1), some (.int (-6))]) F dX9_row_24 rfl (by decide) rfl rfl ?_
          exact jm_weakD F (lv' := [some (.ref (jm_a E 0 0)), some (.int p1), some (.int (-6))]) ⟨rfl, rfl, rfl, trivial⟩ (fun h => h)
        · exact jm_weakD F (lv' := [some (.ref (jm_a E 0 0)), some (.int p1), some (.int r1)]) ⟨rfl, rfl, rfl, trivial⟩ (fun h => h)
      · exact jm_weakD F (lv' := [some (.ref (jm_a E 0 0)), some (.int p1), some (.int r1)]) ⟨rfl, rfl, rfl, trivial⟩ (fun h => h)
    · refine jm_iload_n (i := 2) F dX9_row_25 rfl rfl ?_
      refine jm_if_eq F dX9_row_26 (fun c5 => ?_) (fun c5 => ?_)
      · refine jm_aload_n (i := 0) F dX9_row_35 rfl rfl ?_
        refine jm_getR F dX9_row_36 fl_X9_85 lo_X9 rfl ?_
        refine jm_aload_n (i := 0) F dX9_row_39 rfl rfl ?_
        refine jm_getI F dX9_row_40 fl_X9_353 lo_X9 rfl ?_
        refine jm_iload_n (i := 1) F dX9_row_43 rfl rfl ?_
        refine jm_iast F dX9_row_44 la_X9_41 (fun M6 => ?_)
        refine jm_aload_n (i := 0) F dX9_row_45 rfl rfl ?_
        refine jm_dup F dX9_row_46 rfl ?_
        refine jm_getI F dX9_row_47 fl_X9_353 lo_X9 rfl ?_
        refine jm_iconst F dX9_row_50 kc_1 ?_
        refine jm_iadd F dX9_row_51 ?_
        refine jm_putI F dX9_row_52 fp_X9_353 lo_X9 rfl (fun M7 => ?_)
        refine jm_aload_n (i := 0) F dX9_row_55 rfl rfl ?_
        refine jm_getI F dX9_row_56 fl_X9_353 lo_X9 rfl ?_
        exact jm_iret F dX9_row_59 (fun h => h)
      · refine jm_aload_n (i := 0) F dX9_row_29 rfl rfl ?_
        refine jm_iload_n (i := 2) F dX9_row_30 rfl rfl ?_
        refine jm_callV (As := [.int e2]) (st := []) (rv := fun r => some (.int r.1)) (mm := fun r => r.2) F dX9_row_31 qX9_172 rfl lo_X9 rfl (fun r h => kM_no E hE h) rfl (Nat.le_of_ble_eq_true rfl) ⟨Nat.le_of_ble_eq_true rfl, Nat.le_of_ble_eq_true rfl⟩ (fun r8 => ?_)
        exact jm_iret F dX9_row_34 (fun h => h)
  exact G r h hz
theorem dX9_judge_0 : jm_d cX9_judge 0 (.aload_n 0) 1 1 := ⟨by decide +kernel, rfl⟩
theorem dX9_judge_1 : jm_d cX9_judge 1 (.getfield 353) 3 4 := ⟨by decide +kernel, rfl⟩
theorem dX9_judge_4 : jm_d cX9_judge 4 (.istore_n 1) 1 5 := ⟨by decide +kernel, rfl⟩
theorem dX9_judge_5 : jm_d cX9_judge 5 (.aload_n 0) 1 6 := ⟨by decide +kernel, rfl⟩
theorem dX9_judge_6 : jm_d cX9_judge 6 (.iconst 0) 1 7 := ⟨by decide +kernel, rfl⟩
theorem dX9_judge_7 : jm_d cX9_judge 7 (.putfield 353) 3 10 := ⟨by decide +kernel, rfl⟩
theorem dX9_judge_10 : jm_d cX9_judge 10 (.iconst 0) 1 11 := ⟨by decide +kernel, rfl⟩
theorem dX9_judge_11 : jm_d cX9_judge 11 (.istore_n 2) 1 12 := ⟨by decide +kernel, rfl⟩
theorem dX9_judge_12 : jm_d cX9_judge 12 (.iload_n 2) 1 13 := ⟨by decide +kernel, rfl⟩
theorem dX9_judge_13 : jm_d cX9_judge 13 (.iload_n 1) 1 14 := ⟨by decide +kernel, rfl⟩
theorem dX9_judge_14 : jm_b cX9_judge 14 (.if_icmp .ge) 17 48 := ⟨34, by decide +kernel, rfl, by decide⟩
theorem dX9_judge_17 : jm_d cX9_judge 17 (.aload_n 0) 1 18 := ⟨by decide +kernel, rfl⟩
theorem dX9_judge_18 : jm_d cX9_judge 18 (.iload_n 2) 1 19 := ⟨by decide +kernel, rfl⟩
theorem dX9_judge_19 : jm_d cX9_judge 19 (.invokevirtual 102) 3 22 := ⟨by decide +kernel, rfl⟩
theorem dX9_judge_22 : jm_b cX9_judge 22 (.ifCond .eq) 25 40 := ⟨18, by decide +kernel, rfl, by decide⟩
theorem dX9_judge_40 : jm_d cX9_judge 40 (.iload_n 2) 1 41 := ⟨by decide +kernel, rfl⟩
theorem dX9_judge_41 : jm_d cX9_judge 41 (.ireturn) 1 42 := ⟨by decide +kernel, rfl⟩
theorem dX9_judge_25 : jm_d cX9_judge 25 (.aload_n 0) 1 26 := ⟨by decide +kernel, rfl⟩
theorem dX9_judge_26 : jm_d cX9_judge 26 (.getfield 13) 3 29 := ⟨by decide +kernel, rfl⟩
theorem dX9_judge_29 : jm_d cX9_judge 29 (.iload_n 2) 1 30 := ⟨by decide +kernel, rfl⟩
theorem dX9_judge_30 : jm_d cX9_judge 30 (.iaload) 1 31 := ⟨by decide +kernel, rfl⟩
theorem dX9_judge_31 : jm_d cX9_judge 31 (.aload_n 0) 1 32 := ⟨by decide +kernel, rfl⟩
theorem dX9_judge_32 : jm_d cX9_judge 32 (.getfield 85) 3 35 := ⟨by decide +kernel, rfl⟩
theorem dX9_judge_35 : jm_d cX9_judge 35 (.iload_n 2) 1 36 := ⟨by decide +kernel, rfl⟩
theorem dX9_judge_36 : jm_d cX9_judge 36 (.iaload) 1 37 := ⟨by decide +kernel, rfl⟩
theorem dX9_judge_37 : jm_b cX9_judge 37 (.if_icmp .eq) 40 42 := ⟨5, by decide +kernel, rfl, by decide⟩
theorem dX9_judge_42 : jm_d cX9_judge 42 (.iinc 2 1) 3 45 := ⟨by decide +kernel, rfl⟩
theorem dX9_judge_45 : jm_b cX9_judge 45 .goto 48 12 := ⟨(-33), by decide +kernel, rfl, by decide⟩
theorem dX9_judge_48 : jm_d cX9_judge 48 (.bipush (-9)) 2 50 := ⟨by decide +kernel, rfl⟩
theorem dX9_judge_50 : jm_d cX9_judge 50 (.ireturn) 1 51 := ⟨by decide +kernel, rfl⟩
set_option maxHeartbeats 4000000 in
set_option maxRecDepth 100000 in
theorem kM_judge (E : jm_Ev) (hE : jm_dj E jm_LM) {M : jm_M}  {r : Int32 × jm_M} (h : sM_judge M = some r) : jm_Ct E jm_LM yX9_judge cX9_judge 3 (some .int) 2 43 [.ref (jm_a E 0 0)] M (some (.int r.1)) r.2 := by
  refine jm_enter (lv := [some (.ref (jm_a E 0 0)), none, none]) hE (by decide) (Nat.le_of_ble_eq_true rfl) rfl ?_
  intro z w F hz
  have G : jm_G w 0 [some (.ref (jm_a E 0 0)), none, none] [] M (sM_judge M) (fun e => z (some (.int e.1)) e.2) := by
    unfold sM_judge
    refine jm_aload_n (i := 0) F dX9_judge_0 rfl rfl ?_
    refine jm_getI F dX9_judge_1 fl_X9_353 lo_X9 rfl ?_
    refine jm_nameI (f := fun x1 => [.int x1]) (fun x1 => ?_) rfl
    refine jm_istore_n (i := 1) (lv' := [some (.ref (jm_a E 0 0)), some (.int x1), none]) F dX9_judge_4 rfl (by decide) rfl rfl ?_
    refine jm_aload_n (i := 0) F dX9_judge_5 rfl rfl ?_
    refine jm_iconst F dX9_judge_6 kc_0 ?_
    refine jm_putI F dX9_judge_7 fp_X9_353 lo_X9 rfl (fun M2 => ?_)
    refine jm_iconst F dX9_judge_10 kc_0 ?_
    refine jm_istore_n (i := 2) (lv' := [some (.ref (jm_a E 0 0)), some (.int x1), some (.int 0)]) F dX9_judge_11 rfl (by decide) rfl rfl ?_
    refine jm_bindS (pcJ := 48) (lvJ := fun e10 => [none, none, none]) (stJ := fun _ => []) (MJ := fun e10 => M2) ?_ (fun e10 => ?_)
    · refine jm_weak F (lv' := [some (.ref (jm_a E 0 0)), some (.int x1), some (.int 0)]) ⟨rfl, rfl, rfl, trivial⟩ ?_
      refine jm_loopR (lvH := fun s3 => [some (.ref (jm_a E 0 0)), some (.int x1), some (.int s3)]) (MH := fun s3 => M2) (fun s3 => ?_) jm_N 0
      unfold sM_judge_L12
      refine jm_iload_n (i := 2) F dX9_judge_12 rfl rfl ?_
      refine jm_iload_n (i := 1) F dX9_judge_13 rfl rfl ?_
      refine jm_icmp_ge F dX9_judge_14 (fun c4 => ?_) (fun c4 => ?_)
      · exact jm_weakD F (lv' := [none, none, none]) trivial (fun h => h)
      · refine jm_aload_n (i := 0) F dX9_judge_17 rfl rfl ?_
        refine jm_iload_n (i := 2) F dX9_judge_18 rfl rfl ?_
        refine jm_callV (As := [.int s3]) (st := []) (rv := fun r => some (.int r)) (mm := fun _ => M2) F dX9_judge_19 qX9_102 rfl lo_X9 rfl (fun r h => kM_isPerson E hE h) rfl (Nat.le_of_ble_eq_true rfl) ⟨Nat.le_of_ble_eq_true rfl, Nat.le_of_ble_eq_true rfl⟩ (fun r5 => ?_)
        refine jm_if_eq F dX9_judge_22 (fun c6 => ?_) (fun c6 => ?_)
        · refine jm_iload_n (i := 2) F dX9_judge_40 rfl rfl ?_
          exact jm_iret F dX9_judge_41 (fun h => h)
        · refine jm_aload_n (i := 0) F dX9_judge_25 rfl rfl ?_
          refine jm_getR F dX9_judge_26 fl_X9_13 lo_X9 rfl ?_
          refine jm_iload_n (i := 2) F dX9_judge_29 rfl rfl ?_
          refine jm_iald F dX9_judge_30 la_X9_2 (fun v7 => ?_)
          refine jm_aload_n (i := 0) F dX9_judge_31 rfl rfl ?_
          refine jm_getR F dX9_judge_32 fl_X9_85 lo_X9 rfl ?_
          refine jm_iload_n (i := 2) F dX9_judge_35 rfl rfl ?_
          refine jm_iald F dX9_judge_36 la_X9_41 (fun v8 => ?_)
          refine jm_icmp_eq F dX9_judge_37 (fun c9 => ?_) (fun c9 => ?_)
          · refine jm_iinc (i := 2) (lv' := [some (.ref (jm_a E 0 0)), some (.int x1), some (.int (s3 + 1))]) F dX9_judge_42 kc_1 rfl (by decide) rfl rfl ?_
            refine jm_goto F dX9_judge_45 ?_
            exact jm_weakD F (lv' := [some (.ref (jm_a E 0 0)), some (.int x1), some (.int (s3 + 1))]) ⟨rfl, rfl, rfl, trivial⟩ (fun h => h)
          · refine jm_iload_n (i := 2) F dX9_judge_40 rfl rfl ?_
            exact jm_iret F dX9_judge_41 (fun h => h)
    · refine jm_bipush F dX9_judge_48 kb_m9 ?_
      exact jm_iret F dX9_judge_50 (fun h => h)
  exact G r h hz
theorem dX9_clear_0 : jm_d cX9_clear 0 (.aload_n 0) 1 1 := ⟨by decide +kernel, rfl⟩
theorem dX9_clear_1 : jm_d cX9_clear 1 (.getfield 353) 3 4 := ⟨by decide +kernel, rfl⟩
theorem dX9_clear_4 : jm_d cX9_clear 4 (.istore_n 1) 1 5 := ⟨by decide +kernel, rfl⟩
theorem dX9_clear_5 : jm_d cX9_clear 5 (.aload_n 0) 1 6 := ⟨by decide +kernel, rfl⟩
theorem dX9_clear_6 : jm_d cX9_clear 6 (.iconst 0) 1 7 := ⟨by decide +kernel, rfl⟩
theorem dX9_clear_7 : jm_d cX9_clear 7 (.putfield 353) 3 10 := ⟨by decide +kernel, rfl⟩
theorem dX9_clear_10 : jm_d cX9_clear 10 (.iload_n 1) 1 11 := ⟨by decide +kernel, rfl⟩
theorem dX9_clear_11 : jm_d cX9_clear 11 (.ireturn) 1 12 := ⟨by decide +kernel, rfl⟩
set_option maxHeartbeats 4000000 in
set_option maxRecDepth 100000 in
theorem kM_clear (E : jm_Ev) (hE : jm_dj E jm_LM) {M : jm_M}  {r : Int32 × jm_M} (h : sM_clear M = some r) : jm_Ct E jm_LM yX9_clear cX9_clear 2 (some .int) 0 0 [.ref (jm_a E 0 0)] M (some (.int r.1)) r.2 := by
  refine jm_enter (lv := [some (.ref (jm_a E 0 0)), none]) hE (by decide) (Nat.le_of_ble_eq_true rfl) rfl ?_
  intro z w F hz
  have G : jm_G w 0 [some (.ref (jm_a E 0 0)), none] [] M (sM_clear M) (fun e => z (some (.int e.1)) e.2) := by
    unfold sM_clear
    refine jm_aload_n (i := 0) F dX9_clear_0 rfl rfl ?_
    refine jm_getI F dX9_clear_1 fl_X9_353 lo_X9 rfl ?_
    refine jm_nameI (f := fun x1 => [.int x1]) (fun x1 => ?_) rfl
    refine jm_istore_n (i := 1) (lv' := [some (.ref (jm_a E 0 0)), some (.int x1)]) F dX9_clear_4 rfl (by decide) rfl rfl ?_
    refine jm_aload_n (i := 0) F dX9_clear_5 rfl rfl ?_
    refine jm_iconst F dX9_clear_6 kc_0 ?_
    refine jm_putI F dX9_clear_7 fp_X9_353 lo_X9 rfl (fun M2 => ?_)
    refine jm_iload_n (i := 1) F dX9_clear_10 rfl rfl ?_
    exact jm_iret F dX9_clear_11 (fun h => h)
  exact G r h hz
theorem dX9_draw_0 : jm_d cX9_draw 0 (.aload_n 0) 1 1 := ⟨by decide +kernel, rfl⟩
theorem dX9_draw_1 : jm_d cX9_draw 1 (.aload_n 0) 1 2 := ⟨by decide +kernel, rfl⟩
theorem dX9_draw_2 : jm_d cX9_draw 2 (.getfield 407) 3 5 := ⟨by decide +kernel, rfl⟩
theorem dX9_draw_5 : jm_d cX9_draw 5 (.ldc_w 410) 3 8 := ⟨by decide +kernel, rfl⟩
theorem dX9_draw_8 : jm_d cX9_draw 8 (.imul) 1 9 := ⟨by decide +kernel, rfl⟩
theorem dX9_draw_9 : jm_d cX9_draw 9 (.sipush 12345) 3 12 := ⟨by decide +kernel, rfl⟩
theorem dX9_draw_12 : jm_d cX9_draw 12 (.iadd) 1 13 := ⟨by decide +kernel, rfl⟩
theorem dX9_draw_13 : jm_d cX9_draw 13 (.putfield 407) 3 16 := ⟨by decide +kernel, rfl⟩
theorem dX9_draw_16 : jm_d cX9_draw 16 (.aload_n 0) 1 17 := ⟨by decide +kernel, rfl⟩
theorem dX9_draw_17 : jm_d cX9_draw 17 (.getfield 407) 3 20 := ⟨by decide +kernel, rfl⟩
theorem dX9_draw_20 : jm_d cX9_draw 20 (.ldc_w 411) 3 23 := ⟨by decide +kernel, rfl⟩
theorem dX9_draw_23 : jm_d cX9_draw 23 (.iand) 1 24 := ⟨by decide +kernel, rfl⟩
theorem dX9_draw_24 : jm_d cX9_draw 24 (.ldc_w 412) 3 27 := ⟨by decide +kernel, rfl⟩
theorem dX9_draw_27 : jm_d cX9_draw 27 (.idiv) 1 28 := ⟨by decide +kernel, rfl⟩
theorem dX9_draw_28 : jm_d cX9_draw 28 (.iload_n 1) 1 29 := ⟨by decide +kernel, rfl⟩
theorem dX9_draw_29 : jm_d cX9_draw 29 (.irem) 1 30 := ⟨by decide +kernel, rfl⟩
theorem dX9_draw_30 : jm_d cX9_draw 30 (.ireturn) 1 31 := ⟨by decide +kernel, rfl⟩
set_option maxHeartbeats 4000000 in
set_option maxRecDepth 100000 in
theorem kM_draw (E : jm_Ev) (hE : jm_dj E jm_LM) {M : jm_M} {p1 : Int32}  {r : Int32 × jm_M} (h : sM_draw M p1 = some r) : jm_Ct E jm_LM yX9_draw cX9_draw 2 (some .int) 0 0 [.ref (jm_a E 0 0), .int p1] M (some (.int r.1)) r.2 := by
  refine jm_enter (lv := [some (.ref (jm_a E 0 0)), some (.int p1)]) hE (by decide) (Nat.le_of_ble_eq_true rfl) rfl ?_
  intro z w F hz
  have G : jm_G w 0 [some (.ref (jm_a E 0 0)), some (.int p1)] [] M (sM_draw M p1) (fun e => z (some (.int e.1)) e.2) := by
    unfold sM_draw
    refine jm_aload_n (i := 0) F dX9_draw_0 rfl rfl ?_
    refine jm_aload_n (i := 0) F dX9_draw_1 rfl rfl ?_
    refine jm_getI F dX9_draw_2 fl_X9_407 lo_X9 rfl ?_
    refine jm_ldcw F dX9_draw_5 tw_1587 ?_
    refine jm_imul F dX9_draw_8 ?_
    refine jm_sipush F dX9_draw_9 ks_12345 ?_
    refine jm_iadd F dX9_draw_12 ?_
    refine jm_putI F dX9_draw_13 fp_X9_407 lo_X9 rfl (fun M1 => ?_)
    refine jm_aload_n (i := 0) F dX9_draw_16 rfl rfl ?_
    refine jm_getI F dX9_draw_17 fl_X9_407 lo_X9 rfl ?_
    refine jm_ldcw F dX9_draw_20 tw_1588 ?_
    refine jm_iand F dX9_draw_23 ?_
    refine jm_ldcw F dX9_draw_24 tw_1589 ?_
    refine jm_idiv F dX9_draw_27 (fun v2 => ?_)
    refine jm_iload_n (i := 1) F dX9_draw_28 rfl rfl ?_
    refine jm_irem F dX9_draw_29 (fun v3 => ?_)
    exact jm_iret F dX9_draw_30 (fun h => h)
  exact G r h hz
theorem dX9_allRead_0 : jm_d cX9_allRead 0 (.iconst 0) 1 1 := ⟨by decide +kernel, rfl⟩
theorem dX9_allRead_1 : jm_d cX9_allRead 1 (.istore_n 1) 1 2 := ⟨by decide +kernel, rfl⟩
theorem dX9_allRead_2 : jm_d cX9_allRead 2 (.iconst 0) 1 3 := ⟨by decide +kernel, rfl⟩
theorem dX9_allRead_3 : jm_d cX9_allRead 3 (.istore_n 2) 1 4 := ⟨by decide +kernel, rfl⟩
theorem dX9_allRead_4 : jm_d cX9_allRead 4 (.iload_n 2) 1 5 := ⟨by decide +kernel, rfl⟩
theorem dX9_allRead_5 : jm_d cX9_allRead 5 (.aload_n 0) 1 6 := ⟨by decide +kernel, rfl⟩
theorem dX9_allRead_6 : jm_d cX9_allRead 6 (.getfield 106) 3 9 := ⟨by decide +kernel, rfl⟩
theorem dX9_allRead_9 : jm_b cX9_allRead 9 (.if_icmp .ge) 12 30 := ⟨21, by decide +kernel, rfl, by decide⟩
theorem dX9_allRead_12 : jm_d cX9_allRead 12 (.iload_n 1) 1 13 := ⟨by decide +kernel, rfl⟩
theorem dX9_allRead_13 : jm_d cX9_allRead 13 (.aload_n 0) 1 14 := ⟨by decide +kernel, rfl⟩
theorem dX9_allRead_14 : jm_d cX9_allRead 14 (.getfield 34) 3 17 := ⟨by decide +kernel, rfl⟩
theorem dX9_allRead_17 : jm_d cX9_allRead 17 (.iload_n 2) 1 18 := ⟨by decide +kernel, rfl⟩
theorem dX9_allRead_18 : jm_d cX9_allRead 18 (.iaload) 1 19 := ⟨by decide +kernel, rfl⟩
theorem dX9_allRead_19 : jm_d cX9_allRead 19 (.invokestatic 109) 3 22 := ⟨by decide +kernel, rfl⟩
theorem dX9_allRead_22 : jm_d cX9_allRead 22 (.iadd) 1 23 := ⟨by decide +kernel, rfl⟩
theorem dX9_allRead_23 : jm_d cX9_allRead 23 (.istore_n 1) 1 24 := ⟨by decide +kernel, rfl⟩
theorem dX9_allRead_24 : jm_d cX9_allRead 24 (.iinc 2 1) 3 27 := ⟨by decide +kernel, rfl⟩
theorem dX9_allRead_27 : jm_b cX9_allRead 27 .goto 30 4 := ⟨(-23), by decide +kernel, rfl, by decide⟩
theorem dX9_allRead_30 : jm_d cX9_allRead 30 (.iload_n 1) 1 31 := ⟨by decide +kernel, rfl⟩
theorem dX9_allRead_31 : jm_d cX9_allRead 31 (.ireturn) 1 32 := ⟨by decide +kernel, rfl⟩
set_option maxHeartbeats 4000000 in
set_option maxRecDepth 100000 in
theorem kM_allRead (E : jm_Ev) (hE : jm_dj E jm_LM) {M : jm_M}  {r : Int32} (h : sM_allRead M = some r) : jm_Ct E jm_LM yX9_allRead cX9_allRead 3 (some .int) 1 22 [.ref (jm_a E 0 0)] M (some (.int r)) M := by
  refine jm_enter (lv := [some (.ref (jm_a E 0 0)), none, none]) hE (by decide) (Nat.le_of_ble_eq_true rfl) rfl ?_
  intro z w F hz
  have G : jm_G w 0 [some (.ref (jm_a E 0 0)), none, none] [] M (sM_allRead M) (fun e => z (some (.int e)) M) := by
    unfold sM_allRead
    refine jm_iconst F dX9_allRead_0 kc_0 ?_
    refine jm_istore_n (i := 1) (lv' := [some (.ref (jm_a E 0 0)), some (.int 0), none]) F dX9_allRead_1 rfl (by decide) rfl rfl ?_
    refine jm_iconst F dX9_allRead_2 kc_0 ?_
    refine jm_istore_n (i := 2) (lv' := [some (.ref (jm_a E 0 0)), some (.int 0), some (.int 0)]) F dX9_allRead_3 rfl (by decide) rfl rfl ?_
    refine jm_bind (pcJ := 30) (lvJ := fun e6 => [none, some (.int e6), none]) (stJ := fun _ => []) (MJ := fun e6 => M) ?_ (fun e6 => ?_)
    · refine jm_weak F (lv' := [some (.ref (jm_a E 0 0)), some (.int 0), some (.int 0)]) ⟨rfl, rfl, rfl, trivial⟩ ?_
      refine jm_loopR (lvH := fun s1 => [some (.ref (jm_a E 0 0)), some (.int s1.1), some (.int s1.2)]) (MH := fun s1 => M) (fun s1 => ?_) jm_N (0, 0)
      unfold sM_allRead_L4
      refine jm_iload_n (i := 2) F dX9_allRead_4 rfl rfl ?_
      refine jm_aload_n (i := 0) F dX9_allRead_5 rfl rfl ?_
      refine jm_getI F dX9_allRead_6 fl_X9_106 lo_X9 rfl ?_
      refine jm_icmp_ge F dX9_allRead_9 (fun c2 => ?_) (fun c2 => ?_)
      · exact jm_weakD F (lv' := [none, some (.int s1.1), none]) ⟨rfl, trivial⟩ (fun h => h)
      · refine jm_iload_n (i := 1) F dX9_allRead_12 rfl rfl ?_
        refine jm_aload_n (i := 0) F dX9_allRead_13 rfl rfl ?_
        refine jm_getR F dX9_allRead_14 fl_X9_34 lo_X9 rfl ?_
        refine jm_iload_n (i := 2) F dX9_allRead_17 rfl rfl ?_
        refine jm_iald F dX9_allRead_18 la_X9_9 (fun v3 => ?_)
        refine jm_callS (As := [.int v3]) (st := [.int s1.1]) (rv := fun r => some (.int r)) (mm := fun _ => M) F dX9_allRead_19 qX9_109 rfl (fun r h => kM_bits E hE h) rfl (Nat.le_of_ble_eq_true rfl) ⟨Nat.le_of_ble_eq_true rfl, Nat.le_of_ble_eq_true rfl⟩ (fun r4 => ?_)
        refine jm_iadd F dX9_allRead_22 ?_
        refine jm_nameI (f := fun x5 => [.int x5]) (fun x5 => ?_) rfl
        refine jm_istore_n (i := 1) (lv' := [some (.ref (jm_a E 0 0)), some (.int x5), some (.int s1.2)]) F dX9_allRead_23 rfl (by decide) rfl rfl ?_
        refine jm_iinc (i := 2) (lv' := [some (.ref (jm_a E 0 0)), some (.int x5), some (.int (s1.2 + 1))]) F dX9_allRead_24 kc_1 rfl (by decide) rfl rfl ?_
        refine jm_goto F dX9_allRead_27 ?_
        exact jm_weakD F (lv' := [some (.ref (jm_a E 0 0)), some (.int x5), some (.int (s1.2 + 1))]) ⟨rfl, rfl, rfl, trivial⟩ (fun h => h)
    · refine jm_iload_n (i := 1) F dX9_allRead_30 rfl rfl ?_
      exact jm_iret F dX9_allRead_31 (fun h => h)
  exact G r h hz
theorem dX9_manyDown_0 : jm_d cX9_manyDown 0 (.iconst 0) 1 1 := ⟨by decide +kernel, rfl⟩
theorem dX9_manyDown_1 : jm_d cX9_manyDown 1 (.istore_n 1) 1 2 := ⟨by decide +kernel, rfl⟩
theorem dX9_manyDown_2 : jm_d cX9_manyDown 2 (.iconst 0) 1 3 := ⟨by decide +kernel, rfl⟩
theorem dX9_manyDown_3 : jm_d cX9_manyDown 3 (.istore_n 2) 1 4 := ⟨by decide +kernel, rfl⟩
theorem dX9_manyDown_4 : jm_d cX9_manyDown 4 (.iload_n 2) 1 5 := ⟨by decide +kernel, rfl⟩
theorem dX9_manyDown_5 : jm_d cX9_manyDown 5 (.aload_n 0) 1 6 := ⟨by decide +kernel, rfl⟩
theorem dX9_manyDown_6 : jm_d cX9_manyDown 6 (.getfield 91) 3 9 := ⟨by decide +kernel, rfl⟩
theorem dX9_manyDown_9 : jm_b cX9_manyDown 9 (.if_icmp .ge) 12 53 := ⟨44, by decide +kernel, rfl, by decide⟩
theorem dX9_manyDown_12 : jm_d cX9_manyDown 12 (.iload_n 2) 1 13 := ⟨by decide +kernel, rfl⟩
theorem dX9_manyDown_13 : jm_d cX9_manyDown 13 (.iconst 1) 1 14 := ⟨by decide +kernel, rfl⟩
theorem dX9_manyDown_14 : jm_d cX9_manyDown 14 (.iadd) 1 15 := ⟨by decide +kernel, rfl⟩
theorem dX9_manyDown_15 : jm_d cX9_manyDown 15 (.istore_n 3) 1 16 := ⟨by decide +kernel, rfl⟩
theorem dX9_manyDown_16 : jm_d cX9_manyDown 16 (.iload_n 3) 1 17 := ⟨by decide +kernel, rfl⟩
theorem dX9_manyDown_17 : jm_d cX9_manyDown 17 (.aload_n 0) 1 18 := ⟨by decide +kernel, rfl⟩
theorem dX9_manyDown_18 : jm_d cX9_manyDown 18 (.getfield 91) 3 21 := ⟨by decide +kernel, rfl⟩
theorem dX9_manyDown_21 : jm_b cX9_manyDown 21 (.if_icmp .ge) 24 47 := ⟨26, by decide +kernel, rfl, by decide⟩
theorem dX9_manyDown_24 : jm_d cX9_manyDown 24 (.iload_n 1) 1 25 := ⟨by decide +kernel, rfl⟩
theorem dX9_manyDown_25 : jm_d cX9_manyDown 25 (.aload_n 0) 1 26 := ⟨by decide +kernel, rfl⟩
theorem dX9_manyDown_26 : jm_d cX9_manyDown 26 (.iload_n 2) 1 27 := ⟨by decide +kernel, rfl⟩
theorem dX9_manyDown_27 : jm_d cX9_manyDown 27 (.iload_n 3) 1 28 := ⟨by decide +kernel, rfl⟩
theorem dX9_manyDown_28 : jm_d cX9_manyDown 28 (.invokevirtual 313) 3 31 := ⟨by decide +kernel, rfl⟩
theorem dX9_manyDown_31 : jm_b cX9_manyDown 31 (.ifCond .eq) 34 38 := ⟨7, by decide +kernel, rfl, by decide⟩
theorem dX9_manyDown_38 : jm_d cX9_manyDown 38 (.iconst 0) 1 39 := ⟨by decide +kernel, rfl⟩
theorem dX9_manyDown_39 : jm_d cX9_manyDown 39 (.iadd) 1 40 := ⟨by decide +kernel, rfl⟩
theorem dX9_manyDown_40 : jm_d cX9_manyDown 40 (.istore_n 1) 1 41 := ⟨by decide +kernel, rfl⟩
theorem dX9_manyDown_41 : jm_d cX9_manyDown 41 (.iinc 3 1) 3 44 := ⟨by decide +kernel, rfl⟩
theorem dX9_manyDown_44 : jm_b cX9_manyDown 44 .goto 47 16 := ⟨(-28), by decide +kernel, rfl, by decide⟩
theorem dX9_manyDown_34 : jm_d cX9_manyDown 34 (.iconst 1) 1 35 := ⟨by decide +kernel, rfl⟩
theorem dX9_manyDown_35 : jm_b cX9_manyDown 35 .goto 38 39 := ⟨4, by decide +kernel, rfl, by decide⟩
theorem dX9_manyDown_47 : jm_d cX9_manyDown 47 (.iinc 2 1) 3 50 := ⟨by decide +kernel, rfl⟩
theorem dX9_manyDown_50 : jm_b cX9_manyDown 50 .goto 53 4 := ⟨(-46), by decide +kernel, rfl, by decide⟩
theorem dX9_manyDown_53 : jm_d cX9_manyDown 53 (.iload_n 1) 1 54 := ⟨by decide +kernel, rfl⟩
theorem dX9_manyDown_54 : jm_d cX9_manyDown 54 (.ireturn) 1 55 := ⟨by decide +kernel, rfl⟩
set_option maxHeartbeats 4000000 in
set_option maxRecDepth 100000 in
theorem kM_manyDown (E : jm_Ev) (hE : jm_dj E jm_LM) {M : jm_M}  {r : Int32} (h : sM_manyDown M = some r) : jm_Ct E jm_LM yX9_manyDown cX9_manyDown 4 (some .int) 7 162 [.ref (jm_a E 0 0)] M (some (.int r)) M := by
  refine jm_enter (lv := [some (.ref (jm_a E 0 0)), none, none, none]) hE (by decide) (Nat.le_of_ble_eq_true rfl) rfl ?_
  intro z w F hz
  have G : jm_G w 0 [some (.ref (jm_a E 0 0)), none, none, none] [] M (sM_manyDown M) (fun e => z (some (.int e)) M) := by
    unfold sM_manyDown
    refine jm_iconst F dX9_manyDown_0 kc_0 ?_
    refine jm_istore_n (i := 1) (lv' := [some (.ref (jm_a E 0 0)), some (.int 0), none, none]) F dX9_manyDown_1 rfl (by decide) rfl rfl ?_
    refine jm_iconst F dX9_manyDown_2 kc_0 ?_
    refine jm_istore_n (i := 2) (lv' := [some (.ref (jm_a E 0 0)), some (.int 0), some (.int 0), none]) F dX9_manyDown_3 rfl (by decide) rfl rfl ?_
    refine jm_bind (pcJ := 53) (lvJ := fun e11 => [none, some (.int e11), none, none]) (stJ := fun _ => []) (MJ := fun e11 => M) ?_ (fun e11 => ?_)
    · refine jm_weak F (lv' := [some (.ref (jm_a E 0 0)), some (.int 0), some (.int 0), none]) ⟨rfl, rfl, rfl, trivial⟩ ?_
      refine jm_loopR (lvH := fun s1 => [some (.ref (jm_a E 0 0)), some (.int s1.1), some (.int s1.2), none]) (MH := fun s1 => M) (fun s1 => ?_) jm_N (0, 0)
      unfold sM_manyDown_L4
      refine jm_iload_n (i := 2) F dX9_manyDown_4 rfl rfl ?_
      refine jm_aload_n (i := 0) F dX9_manyDown_5 rfl rfl ?_
      refine jm_getI F dX9_manyDown_6 fl_X9_91 lo_X9 rfl ?_
      refine jm_icmp_ge F dX9_manyDown_9 (fun c2 => ?_) (fun c2 => ?_)
      · exact jm_weakD F (lv' := [none, some (.int s1.1), none, none]) ⟨rfl, trivial⟩ (fun h => h)
      · refine jm_iload_n (i := 2) F dX9_manyDown_12 rfl rfl ?_
        refine jm_iconst F dX9_manyDown_13 kc_1 ?_
        refine jm_iadd F dX9_manyDown_14 ?_
        refine jm_nameI (f := fun x3 => [.int x3]) (fun x3 => ?_) rfl
        refine jm_istore_n (i := 3) (lv' := [some (.ref (jm_a E 0 0)), some (.int s1.1), some (.int s1.2), some (.int x3)]) F dX9_manyDown_15 rfl (by decide) rfl rfl ?_
        refine jm_bind (pcJ := 47) (lvJ := fun e10 => [some (.ref (jm_a E 0 0)), some (.int e10), some (.int s1.2), none]) (stJ := fun _ => []) (MJ := fun e10 => M) ?_ (fun e10 => ?_)
        · refine jm_weak F (lv' := [some (.ref (jm_a E 0 0)), some (.int s1.1), some (.int s1.2), some (.int x3)]) ⟨rfl, rfl, rfl, rfl, trivial⟩ ?_
          refine jm_loopR (lvH := fun s4 => [some (.ref (jm_a E 0 0)), some (.int s4.1), some (.int s1.2), some (.int s4.2)]) (MH := fun s4 => M) (fun s4 => ?_) jm_N (s1.1, x3)
          unfold sM_manyDown_L16
          refine jm_iload_n (i := 3) F dX9_manyDown_16 rfl rfl ?_
          refine jm_aload_n (i := 0) F dX9_manyDown_17 rfl rfl ?_
          refine jm_getI F dX9_manyDown_18 fl_X9_91 lo_X9 rfl ?_
          refine jm_icmp_ge F dX9_manyDown_21 (fun c5 => ?_) (fun c5 => ?_)
          · exact jm_weakD F (lv' := [some (.ref (jm_a E 0 0)), some (.int s4.1), some (.int s1.2), none]) ⟨rfl, rfl, rfl, trivial⟩ (fun h => h)
          · refine jm_iload_n (i := 1) F dX9_manyDown_24 rfl rfl ?_
            refine jm_aload_n (i := 0) F dX9_manyDown_25 rfl rfl ?_
            refine jm_iload_n (i := 2) F dX9_manyDown_26 rfl rfl ?_
            refine jm_iload_n (i := 3) F dX9_manyDown_27 rfl rfl ?_
            refine jm_callV (As := [.int s1.2, .int s4.2]) (st := [.int s4.1]) (rv := fun r => some (.int r)) (mm := fun _ => M) F dX9_manyDown_28 qX9_313 rfl lo_X9 rfl (fun r h => kM_comesDown E hE h) rfl (Nat.le_of_ble_eq_true rfl) ⟨Nat.le_of_ble_eq_true rfl, Nat.le_of_ble_eq_true rfl⟩ (fun r6 => ?_)
            refine jm_if_eq F dX9_manyDown_31 (fun c7 => ?_) (fun c7 => ?_)
            · refine jm_iconst F dX9_manyDown_38 kc_0 ?_
              refine jm_iadd F dX9_manyDown_39 ?_
              refine jm_nameI (f := fun x8 => [.int x8]) (fun x8 => ?_) rfl
              refine jm_istore_n (i := 1) (lv' := [some (.ref (jm_a E 0 0)), some (.int x8), some (.int s1.2), some (.int s4.2)]) F dX9_manyDown_40 rfl (by decide) rfl rfl ?_
              refine jm_iinc (i := 3) (lv' := [some (.ref (jm_a E 0 0)), some (.int x8), some (.int s1.2), some (.int (s4.2 + 1))]) F dX9_manyDown_41 kc_1 rfl (by decide) rfl rfl ?_
              refine jm_goto F dX9_manyDown_44 ?_
              exact jm_weakD F (lv' := [some (.ref (jm_a E 0 0)), some (.int x8), some (.int s1.2), some (.int (s4.2 + 1))]) ⟨rfl, rfl, rfl, rfl, trivial⟩ (fun h => h)
            · refine jm_iconst F dX9_manyDown_34 kc_1 ?_
              refine jm_goto F dX9_manyDown_35 ?_
              refine jm_iadd F dX9_manyDown_39 ?_
              refine jm_nameI (f := fun x9 => [.int x9]) (fun x9 => ?_) rfl
              refine jm_istore_n (i := 1) (lv' := [some (.ref (jm_a E 0 0)), some (.int x9), some (.int s1.2), some (.int s4.2)]) F dX9_manyDown_40 rfl (by decide) rfl rfl ?_
              refine jm_iinc (i := 3) (lv' := [some (.ref (jm_a E 0 0)), some (.int x9), some (.int s1.2), some (.int (s4.2 + 1))]) F dX9_manyDown_41 kc_1 rfl (by decide) rfl rfl ?_
              refine jm_goto F dX9_manyDown_44 ?_
              exact jm_weakD F (lv' := [some (.ref (jm_a E 0 0)), some (.int x9), some (.int s1.2), some (.int (s4.2 + 1))]) ⟨rfl, rfl, rfl, rfl, trivial⟩ (fun h => h)
        · refine jm_iinc (i := 2) (lv' := [some (.ref (jm_a E 0 0)), some (.int e10), some (.int (s1.2 + 1)), none]) F dX9_manyDown_47 kc_1 rfl (by decide) rfl rfl ?_
          refine jm_goto F dX9_manyDown_50 ?_
          exact jm_weakD F (lv' := [some (.ref (jm_a E 0 0)), some (.int e10), some (.int (s1.2 + 1)), none]) ⟨rfl, rfl, rfl, trivial⟩ (fun h => h)
    · refine jm_iload_n (i := 1) F dX9_manyDown_53 rfl rfl ?_
      exact jm_iret F dX9_manyDown_54 (fun h => h)
  exact G r h hz
theorem dX9_lots_0 : jm_d cX9_lots 0 (.iload_n 1) 1 1 := ⟨by decide +kernel, rfl⟩
theorem dX9_lots_1 : jm_d cX9_lots 1 (.iconst 1) 1 2 := ⟨by decide +kernel, rfl⟩
theorem dX9_lots_2 : jm_d cX9_lots 2 (.bipush 20) 2 4 := ⟨by decide +kernel, rfl⟩
theorem dX9_lots_4 : jm_d cX9_lots 4 (.invokestatic 166) 3 7 := ⟨by decide +kernel, rfl⟩
theorem dX9_lots_7 : jm_d cX9_lots 7 (.istore 4) 2 9 := ⟨by decide +kernel, rfl⟩
theorem dX9_lots_9 : jm_d cX9_lots 9 (.iload 4) 2 11 := ⟨by decide +kernel, rfl⟩
theorem dX9_lots_11 : jm_b cX9_lots 11 (.ifCond .ne) 14 27 := ⟨16, by decide +kernel, rfl, by decide⟩
theorem dX9_lots_14 : jm_d cX9_lots 14 (.iload_n 3) 1 15 := ⟨by decide +kernel, rfl⟩
theorem dX9_lots_15 : jm_d cX9_lots 15 (.iconst 0) 1 16 := ⟨by decide +kernel, rfl⟩
theorem dX9_lots_16 : jm_d cX9_lots 16 (.iconst 1) 1 17 := ⟨by decide +kernel, rfl⟩
theorem dX9_lots_17 : jm_d cX9_lots 17 (.invokestatic 98) 3 20 := ⟨by decide +kernel, rfl⟩
theorem dX9_lots_20 : jm_b cX9_lots 20 (.ifCond .ne) 23 27 := ⟨7, by decide +kernel, rfl, by decide⟩
theorem dX9_lots_23 : jm_d cX9_lots 23 (.bipush (-2)) 2 25 := ⟨by decide +kernel, rfl⟩
theorem dX9_lots_25 : jm_d cX9_lots 25 (.istore 4) 2 27 := ⟨by decide +kernel, rfl⟩
theorem dX9_lots_27 : jm_d cX9_lots 27 (.iload 4) 2 29 := ⟨by decide +kernel, rfl⟩
theorem dX9_lots_29 : jm_b cX9_lots 29 (.ifCond .eq) 32 39 := ⟨10, by decide +kernel, rfl, by decide⟩
theorem dX9_lots_39 : jm_d cX9_lots 39 (.aload_n 0) 1 40 := ⟨by decide +kernel, rfl⟩
theorem dX9_lots_40 : jm_d cX9_lots 40 (.iload_n 2) 1 41 := ⟨by decide +kernel, rfl⟩
theorem dX9_lots_41 : jm_d cX9_lots 41 (.putfield 407) 3 44 := ⟨by decide +kernel, rfl⟩
theorem dX9_lots_44 : jm_d cX9_lots 44 (.iconst 0) 1 45 := ⟨by decide +kernel, rfl⟩
theorem dX9_lots_45 : jm_d cX9_lots 45 (.istore 5) 2 47 := ⟨by decide +kernel, rfl⟩
theorem dX9_lots_47 : jm_d cX9_lots 47 (.iconst 0) 1 48 := ⟨by decide +kernel, rfl⟩
theorem dX9_lots_48 : jm_d cX9_lots 48 (.istore 6) 2 50 := ⟨by decide +kernel, rfl⟩
theorem dX9_lots_50 : jm_d cX9_lots 50 (.iload 6) 2 52 := ⟨by decide +kernel, rfl⟩
theorem dX9_lots_52 : jm_d cX9_lots 52 (.iload_n 1) 1 53 := ⟨by decide +kernel, rfl⟩
theorem dX9_lots_53 : jm_b cX9_lots 53 (.if_icmp .ge) 56 158 := ⟨105, by decide +kernel, rfl, by decide⟩
theorem dX9_lots_56 : jm_d cX9_lots 56 (.iload_n 3) 1 57 := ⟨by decide +kernel, rfl⟩
theorem dX9_lots_57 : jm_b cX9_lots 57 (.ifCond .ne) 60 67 := ⟨10, by decide +kernel, rfl, by decide⟩
theorem dX9_lots_60 : jm_d cX9_lots 60 (.aload_n 0) 1 61 := ⟨by decide +kernel, rfl⟩
theorem dX9_lots_61 : jm_d cX9_lots 61 (.invokevirtual 413) 3 64 := ⟨by decide +kernel, rfl⟩
theorem dX9_lots_64 : jm_b cX9_lots 64 .goto 67 68 := ⟨4, by decide +kernel, rfl, by decide⟩
theorem dX9_lots_67 : jm_d cX9_lots 67 (.iconst 0) 1 68 := ⟨by decide +kernel, rfl⟩
theorem dX9_lots_68 : jm_d cX9_lots 68 (.istore 7) 2 70 := ⟨by decide +kernel, rfl⟩
theorem dX9_lots_70 : jm_d cX9_lots 70 (.aload_n 0) 1 71 := ⟨by decide +kernel, rfl⟩
theorem dX9_lots_71 : jm_d cX9_lots 71 (.invokevirtual 307) 3 74 := ⟨by decide +kernel, rfl⟩
theorem dX9_lots_74 : jm_d cX9_lots 74 (.iconst 0) 1 75 := ⟨by decide +kernel, rfl⟩
theorem dX9_lots_75 : jm_d cX9_lots 75 (.istore 8) 2 77 := ⟨by decide +kernel, rfl⟩
theorem dX9_lots_77 : jm_d cX9_lots 77 (.iload 8) 2 79 := ⟨by decide +kernel, rfl⟩
theorem dX9_lots_79 : jm_d cX9_lots 79 (.aload_n 0) 1 80 := ⟨by decide +kernel, rfl⟩
theorem dX9_lots_80 : jm_d cX9_lots 80 (.getfield 106) 3 83 := ⟨by decide +kernel, rfl⟩
theorem dX9_lots_83 : jm_b cX9_lots 83 (.if_icmp .ge) 86 119 := ⟨36, by decide +kernel, rfl, by decide⟩
theorem dX9_lots_86 : jm_d cX9_lots 86 (.aload_n 0) 1 87 := ⟨by decide +kernel, rfl⟩
theorem dX9_lots_87 : jm_d cX9_lots 87 (.getfield 31) 3 90 := ⟨by decide +kernel, rfl⟩
theorem dX9_lots_90 : jm_d cX9_lots 90 (.iload 8) 2 92 := ⟨by decide +kernel, rfl⟩
theorem dX9_lots_92 : jm_d cX9_lots 92 (.aload_n 0) 1 93 := ⟨by decide +kernel, rfl⟩
theorem dX9_lots_93 : jm_d cX9_lots 93 (.getfield 91) 3 96 := ⟨by decide +kernel, rfl⟩
theorem dX9_lots_96 : jm_b cX9_lots 96 (.ifCond .ne) 99 104 := ⟨8, by decide +kernel, rfl, by decide⟩
theorem dX9_lots_99 : jm_d cX9_lots 99 (.bipush 9) 2 101 := ⟨by decide +kernel, rfl⟩
theorem dX9_lots_101 : jm_b cX9_lots 101 .goto 104 112 := ⟨11, by decide +kernel, rfl, by decide⟩
theorem dX9_lots_104 : jm_d cX9_lots 104 (.aload_n 0) 1 105 := ⟨by decide +kernel, rfl⟩
theorem dX9_lots_105 : jm_d cX9_lots 105 (.aload_n 0) 1 106 := ⟨by decide +kernel, rfl⟩
theorem dX9_lots_106 : jm_d cX9_lots 106 (.getfield 91) 3 109 := ⟨by decide +kernel, rfl⟩
theorem dX9_lots_109 : jm_d cX9_lots 109 (.invokevirtual 416) 3 112 := ⟨by decide +kernel, rfl⟩
theorem dX9_lots_112 : jm_d cX9_lots 112 (.iastore) 1 113 := ⟨by decide +kernel, rfl⟩
theorem dX9_lots_113 : jm_d cX9_lots 113 (.iinc 8 1) 3 116 := ⟨by decide +kernel, rfl⟩
theorem dX9_lots_116 : jm_b cX9_lots 116 .goto 119 77 := ⟨(-39), by decide +kernel, rfl, by decide⟩
theorem dX9_lots_119 : jm_d cX9_lots 119 (.aload_n 0) 1 120 := ⟨by decide +kernel, rfl⟩
theorem dX9_lots_120 : jm_d cX9_lots 120 (.bipush 8) 2 122 := ⟨by decide +kernel, rfl⟩
theorem dX9_lots_122 : jm_d cX9_lots 122 (.invokevirtual 229) 3 125 := ⟨by decide +kernel, rfl⟩
theorem dX9_lots_125 : jm_d cX9_lots 125 (.iload 5) 2 127 := ⟨by decide +kernel, rfl⟩
theorem dX9_lots_127 : jm_d cX9_lots 127 (.iload_n 3) 1 128 := ⟨by decide +kernel, rfl⟩
theorem dX9_lots_128 : jm_b cX9_lots 128 (.ifCond .ne) 131 138 := ⟨10, by decide +kernel, rfl, by decide⟩
theorem dX9_lots_131 : jm_d cX9_lots 131 (.aload_n 0) 1 132 := ⟨by decide +kernel, rfl⟩
theorem dX9_lots_132 : jm_d cX9_lots 132 (.invokevirtual 413) 3 135 := ⟨by decide +kernel, rfl⟩
theorem dX9_lots_135 : jm_b cX9_lots 135 .goto 138 142 := ⟨7, by decide +kernel, rfl, by decide⟩
theorem dX9_lots_138 : jm_d cX9_lots 138 (.aload_n 0) 1 139 := ⟨by decide +kernel, rfl⟩
theorem dX9_lots_139 : jm_d cX9_lots 139 (.invokevirtual 419) 3 142 := ⟨by decide +kernel, rfl⟩
theorem dX9_lots_142 : jm_d cX9_lots 142 (.iload 7) 2 144 := ⟨by decide +kernel, rfl⟩
theorem dX9_lots_144 : jm_d cX9_lots 144 (.isub) 1 145 := ⟨by decide +kernel, rfl⟩
theorem dX9_lots_145 : jm_d cX9_lots 145 (.iadd) 1 146 := ⟨by decide +kernel, rfl⟩
theorem dX9_lots_146 : jm_d cX9_lots 146 (.istore 5) 2 148 := ⟨by decide +kernel, rfl⟩
theorem dX9_lots_148 : jm_d cX9_lots 148 (.aload_n 0) 1 149 := ⟨by decide +kernel, rfl⟩
theorem dX9_lots_149 : jm_d cX9_lots 149 (.invokevirtual 310) 3 152 := ⟨by decide +kernel, rfl⟩
theorem dX9_lots_152 : jm_d cX9_lots 152 (.iinc 6 1) 3 155 := ⟨by decide +kernel, rfl⟩
theorem dX9_lots_155 : jm_b cX9_lots 155 .goto 158 50 := ⟨(-105), by decide +kernel, rfl, by decide⟩
theorem dX9_lots_158 : jm_d cX9_lots 158 (.iload 5) 2 160 := ⟨by decide +kernel, rfl⟩
theorem dX9_lots_160 : jm_d cX9_lots 160 (.ireturn) 1 161 := ⟨by decide +kernel, rfl⟩
theorem dX9_lots_32 : jm_d cX9_lots 32 (.aload_n 0) 1 33 := ⟨by decide +kernel, rfl⟩
theorem dX9_lots_33 : jm_d cX9_lots 33 (.iload 4) 2 35 := ⟨by decide +kernel, rfl⟩
theorem dX9_lots_35 : jm_d cX9_lots 35 (.invokevirtual 172) 3 38 := ⟨by decide +kernel, rfl⟩
theorem dX9_lots_38 : jm_d cX9_lots 38 (.ireturn) 1 39 := ⟨by decide +kernel, rfl⟩
set_option maxHeartbeats 4000000 in
set_option maxRecDepth 100000 in
theorem kM_lots (E : jm_Ev) (hE : jm_dj E jm_LM) {M : jm_M} {p1 : Int32} {p2 : Int32} {p3 : Int32}  {r : Int32 × jm_M} (h : sM_lots M p1 p2 p3 = some r) : jm_Ct E jm_LM yX9_lots cX9_lots 9 (some .int) 8 185 [.ref (jm_a E 0 0), .int p1, .int p2, .int p3] M (some (.int r.1)) r.2 := by
  refine jm_enter (lv := [some (.ref (jm_a E 0 0)), some (.int p1), some (.int p2), some (.int p3), none, none, none, none, none]) hE (by decide) (Nat.le_of_ble_eq_true rfl) rfl ?_
  intro z w F hz
  have G : jm_G w 0 [some (.ref (jm_a E 0 0)), some (.int p1), some (.int p2), some (.int p3), none, none, none, none, none] [] M (sM_lots M p1 p2 p3) (fun e => z (some (.int e.1)) e.2) := by
    unfold sM_lots
    refine jm_iload_n (i := 1) F dX9_lots_0 rfl rfl ?_
    refine jm_iconst F dX9_lots_1 kc_1 ?_
    refine jm_bipush F dX9_lots_2 kb_20 ?_
    refine jm_callS (As := [.int p1, .int 1, .int 20]) (st := []) (rv := fun r => some (.int r)) (mm := fun _ => M) F dX9_lots_4 qX9_166 rfl (fun r h => kM_bound E hE h) rfl (Nat.le_of_ble_eq_true rfl) ⟨Nat.le_of_ble_eq_true rfl, Nat.le_of_ble_eq_true rfl⟩ (fun r1 => ?_)
    refine jm_istore (i := 4) (lv' := [some (.ref (jm_a E 0 0)), some (.int p1), some (.int p2), some (.int p3), some (.int r1), none, none, none, none]) F dX9_lots_7 (by decide) rfl rfl ?_
    refine jm_iload F dX9_lots_9 rfl ?_
    refine jm_bind (pcJ := 27) (lvJ := fun e2 => [some (.ref (jm_a E 0 0)), some (.int p1), some (.int p2), some (.int p3), some (.int e2), none, none, none, none]) (stJ := fun e2 => []) (MJ := fun e2 => M) ?_ (fun e2 => ?_)
    · refine jm_if_ne F dX9_lots_11 (fun c3 => ?_) (fun c3 => ?_)
      · refine jm_iload_n (i := 3) F dX9_lots_14 rfl rfl ?_
        refine jm_iconst F dX9_lots_15 kc_0 ?_
        refine jm_iconst F dX9_lots_16 kc_1 ?_
        refine jm_callS (As := [.int p3, .int 0, .int 1]) (st := []) (rv := fun r => some (.int r)) (mm := fun _ => M) F dX9_lots_17 qX9_98 rfl (fun r h => kM_isIn E hE h) rfl (Nat.le_of_ble_eq_true rfl) ⟨Nat.le_of_ble_eq_true rfl, Nat.le_of_ble_eq_true rfl⟩ (fun r4 => ?_)
        refine jm_if_ne F dX9_lots_20 (fun c5 => ?_) (fun c5 => ?_)
        · refine jm_bipush F dX9_lots_23 kb_m2 ?_
          refine jm_istore (i := 4) (lv' := [some (.ref (jm_a E 0 0)), some (.int p1), some (.int p2), some (.int p3), some (.int (-2)), none, none, none, none]) F dX9_lots_25 (by decide) rfl rfl ?_
          exact jm_weakD F (lv' := [some (.ref (jm_a E 0 0)), some (.int p1), some (.int p2), some (.int p3), some (.int (-2)), none, none, none, none]) ⟨rfl, rfl, rfl, rfl, rfl, trivial⟩ (fun h => h)
        · exact jm_weakD F (lv' := [some (.ref (jm_a E 0 0)), some (.int p1), some (.int p2), some (.int p3), some (.int r1), none, none, none, none]) ⟨rfl, rfl, rfl, rfl, rfl, trivial⟩ (fun h => h)
      · exact jm_weakD F (lv' := [some (.ref (jm_a E 0 0)), some (.int p1), some (.int p2), some (.int p3), some (.int r1), none, none, none, none]) ⟨rfl, rfl, rfl, rfl, rfl, trivial⟩ (fun h => h)
    · refine jm_iload F dX9_lots_27 rfl ?_
      refine jm_if_eq F dX9_lots_29 (fun c6 => ?_) (fun c6 => ?_)
      · refine jm_aload_n (i := 0) F dX9_lots_39 rfl rfl ?_
        refine jm_iload_n (i := 2) F dX9_lots_40 rfl rfl ?_
        refine jm_putI F dX9_lots_41 fp_X9_407 lo_X9 rfl (fun M7 => ?_)
        refine jm_iconst F dX9_lots_44 kc_0 ?_
        refine jm_istore (i := 5) (lv' := [some (.ref (jm_a E 0 0)), some (.int p1), some (.int p2), some (.int p3), some (.int e2), some (.int 0), none, none, none]) F dX9_lots_45 (by decide) rfl rfl ?_
        refine jm_iconst F dX9_lots_47 kc_0 ?_
        refine jm_istore (i := 6) (lv' := [some (.ref (jm_a E 0 0)), some (.int p1), some (.int p2), some (.int p3), some (.int e2), some (.int 0), some (.int 0), none, none]) F dX9_lots_48 (by decide) rfl rfl ?_
        refine jm_bind (pcJ := 158) (lvJ := fun e28 => [none, none, none, none, none, some (.int e28.1), none, none, none]) (stJ := fun _ => []) (MJ := fun e28 => e28.2) ?_ (fun e28 => ?_)
        · refine jm_weak F (lv' := [some (.ref (jm_a E 0 0)), some (.int p1), none, some (.int p3), none, some (.int 0), some (.int 0), none, none]) ⟨rfl, rfl, rfl, rfl, rfl, trivial⟩ ?_
          refine jm_loopR (lvH := fun s8 => [some (.ref (jm_a E 0 0)), some (.int p1), none, some (.int p3), none, some (.int s8.1), some (.int s8.2.1), none, none]) (MH := fun s8 => s8.2.2) (fun s8 => ?_) jm_N (0, 0, M7)
          unfold sM_lots_L50
          refine jm_iload F dX9_lots_50 rfl ?_
          refine jm_iload_n (i := 1) F dX9_lots_52 rfl rfl ?_
          refine jm_icmp_ge F dX9_lots_53 (fun c9 => ?_) (fun c9 => ?_)
          · exact jm_weakD F (lv' := [none, none, none, none, none, some (.int s8.1), none, none, none]) ⟨rfl, trivial⟩ (fun h => h)
          · refine jm_iload_n (i := 3) F dX9_lots_56 rfl rfl ?_
            refine jm_bind (pcJ := 68) (lvJ := fun e10 => [some (.ref (jm_a E 0 0)), some (.int p1), none, some (.int p3), none, some (.int s8.1), some (.int s8.2.1), none, none]) (stJ := fun e10 => [.int e10]) (MJ := fun e10 => s8.2.2) ?_ (fun e10 => ?_)
            · refine jm_if_ne F dX9_lots_57 (fun c11 => ?_) (fun c11 => ?_)
              · refine jm_aload_n (i := 0) F dX9_lots_60 rfl rfl ?_
                refine jm_callV (As := []) (st := []) (rv := fun r => some (.int r)) (mm := fun _ => s8.2.2) F dX9_lots_61 qX9_413 rfl lo_X9 rfl (fun r h => kM_allRead E hE h) rfl (Nat.le_of_ble_eq_true rfl) ⟨Nat.le_of_ble_eq_true rfl, Nat.le_of_ble_eq_true rfl⟩ (fun r12 => ?_)
                refine jm_goto F dX9_lots_64 ?_
                exact jm_weakD F (lv' := [some (.ref (jm_a E 0 0)), some (.int p1), none, some (.int p3), none, some (.int s8.1), some (.int s8.2.1), none, none]) ⟨rfl, rfl, rfl, rfl, rfl, trivial⟩ (fun h => h)
              · refine jm_iconst F dX9_lots_67 kc_0 ?_
                exact jm_weakD F (lv' := [some (.ref (jm_a E 0 0)), some (.int p1), none, some (.int p3), none, some (.int s8.1), some (.int s8.2.1), none, none]) ⟨rfl, rfl, rfl, rfl, rfl, trivial⟩ (fun h => h)
            · refine jm_istore (i := 7) (lv' := [some (.ref (jm_a E 0 0)), some (.int p1), none, some (.int p3), none, some (.int s8.1), some (.int s8.2.1), some (.int e10), none]) F dX9_lots_68 (by decide) rfl rfl ?_
              refine jm_aload_n (i := 0) F dX9_lots_70 rfl rfl ?_
              refine jm_callV (As := []) (st := []) (rv := fun _ => none) (mm := fun r => r) F dX9_lots_71 qX9_307 rfl lo_X9 rfl (fun r h => kM_minds E hE h) rfl (Nat.le_of_ble_eq_true rfl) ⟨Nat.le_of_ble_eq_true rfl, Nat.le_of_ble_eq_true rfl⟩ (fun r13 => ?_)
              refine jm_iconst F dX9_lots_74 kc_0 ?_
              refine jm_istore (i := 8) (lv' := [some (.ref (jm_a E 0 0)), some (.int p1), none, some (.int p3), none, some (.int s8.1), some (.int s8.2.1), some (.int e10), some (.int 0)]) F dX9_lots_75 (by decide) rfl rfl ?_
              refine jm_bind (pcJ := 119) (lvJ := fun e20 => [some (.ref (jm_a E 0 0)), some (.int p1), none, some (.int p3), none, some (.int s8.1), some (.int s8.2.1), some (.int e10), none]) (stJ := fun _ => []) (MJ := fun e20 => e20) ?_ (fun e20 => ?_)
              · refine jm_weak F (lv' := [some (.ref (jm_a E 0 0)), some (.int p1), none, some (.int p3), none, some (.int s8.1), some (.int s8.2.1), some (.int e10), some (.int 0)]) ⟨rfl, rfl, rfl, rfl, rfl, rfl, rfl, trivial⟩ ?_
                refine jm_loopR (lvH := fun s14 => [some (.ref (jm_a E 0 0)), some (.int p1), none, some (.int p3), none, some (.int s8.1), some (.int s8.2.1), some (.int e10), some (.int s14.1)]) (MH := fun s14 => s14.2) (fun s14 => ?_) jm_N (0, r13)
                unfold sM_lots_L77
                refine jm_iload F dX9_lots_77 rfl ?_
                refine jm_aload_n (i := 0) F dX9_lots_79 rfl rfl ?_
                refine jm_getI F dX9_lots_80 fl_X9_106 lo_X9 rfl ?_
                refine jm_icmp_ge F dX9_lots_83 (fun c15 => ?_) (fun c15 => ?_)
                · exact jm_weakD F (lv' := [some (.ref (jm_a E 0 0)), some (.int p1), none, some (.int p3), none, some (.int s8.1), some (.int s8.2.1), some (.int e10), none]) ⟨rfl, rfl, rfl, rfl, rfl, rfl, trivial⟩ (fun h => h)
                · refine jm_aload_n (i := 0) F dX9_lots_86 rfl rfl ?_
                  refine jm_getR F dX9_lots_87 fl_X9_31 lo_X9 rfl ?_
                  refine jm_iload F dX9_lots_90 rfl ?_
                  refine jm_aload_n (i := 0) F dX9_lots_92 rfl rfl ?_
                  refine jm_getI F dX9_lots_93 fl_X9_91 lo_X9 rfl ?_
                  refine jm_bind (pcJ := 112) (lvJ := fun e16 => [some (.ref (jm_a E 0 0)), some (.int p1), none, some (.int p3), none, some (.int s8.1), some (.int s8.2.1), some (.int e10), some (.int s14.1)]) (stJ := fun e16 => [.int e16.1, .int s14.1, .ref (jm_a E 0 8)]) (MJ := fun e16 => e16.2) ?_ (fun e16 => ?_)
                  · refine jm_if_ne F dX9_lots_96 (fun c17 => ?_) (fun c17 => ?_)
                    · refine jm_bipush F dX9_lots_99 kb_9 ?_
                      refine jm_goto F dX9_lots_101 ?_
                      exact jm_weakD F (lv' := [some (.ref (jm_a E 0 0)), some (.int p1), none, some (.int p3), none, some (.int s8.1), some (.int s8.2.1), some (.int e10), some (.int s14.1)]) ⟨rfl, rfl, rfl, rfl, rfl, rfl, rfl, trivial⟩ (fun h => h)
                    · refine jm_aload_n (i := 0) F dX9_lots_104 rfl rfl ?_
                      refine jm_aload_n (i := 0) F dX9_lots_105 rfl rfl ?_
                      refine jm_getI F dX9_lots_106 fl_X9_91 lo_X9 rfl ?_
                      refine jm_callV (As := [.int (s14.2 0 0 13)]) (st := [.int s14.1, .ref (jm_a E 0 8)]) (rv := fun r => some (.int r.1)) (mm := fun r => r.2) F dX9_lots_109 qX9_416 rfl lo_X9 rfl (fun r h => kM_draw E hE h) rfl (Nat.le_of_ble_eq_true rfl) ⟨Nat.le_of_ble_eq_true rfl, Nat.le_of_ble_eq_true rfl⟩ (fun r18 => ?_)
                      exact jm_weakD F (lv' := [some (.ref (jm_a E 0 0)), some (.int p1), none, some (.int p3), none, some (.int s8.1), some (.int s8.2.1), some (.int e10), some (.int s14.1)]) ⟨rfl, rfl, rfl, rfl, rfl, rfl, rfl, trivial⟩ (fun h => h)
                  · refine jm_iast F dX9_lots_112 la_X9_8 (fun M19 => ?_)
                    refine jm_iinc (i := 8) (lv' := [some (.ref (jm_a E 0 0)), some (.int p1), none, some (.int p3), none, some (.int s8.1), some (.int s8.2.1), some (.int e10), some (.int (s14.1 + 1))]) F dX9_lots_113 kc_1 rfl (by decide) rfl rfl ?_
                    refine jm_goto F dX9_lots_116 ?_
                    exact jm_weakD F (lv' := [some (.ref (jm_a E 0 0)), some (.int p1), none, some (.int p3), none, some (.int s8.1), some (.int s8.2.1), some (.int e10), some (.int (s14.1 + 1))]) ⟨rfl, rfl, rfl, rfl, rfl, rfl, rfl, trivial⟩ (fun h => h)
              · refine jm_aload_n (i := 0) F dX9_lots_119 rfl rfl ?_
                refine jm_bipush F dX9_lots_120 kb_8 ?_
                refine jm_callV (As := [.int 8]) (st := []) (rv := fun _ => none) (mm := fun r => r) F dX9_lots_122 qX9_229 rfl lo_X9 rfl (fun r h => kM_goes E hE h) rfl (Nat.le_of_ble_eq_true rfl) ⟨Nat.le_of_ble_eq_true rfl, Nat.le_of_ble_eq_true rfl⟩ (fun r21 => ?_)
                refine jm_iload F dX9_lots_125 rfl ?_
                refine jm_iload_n (i := 3) F dX9_lots_127 rfl rfl ?_
                refine jm_bind (pcJ := 142) (lvJ := fun e22 => [some (.ref (jm_a E 0 0)), some (.int p1), none, some (.int p3), none, none, some (.int s8.2.1), some (.int e10), none]) (stJ := fun e22 => [.int e22, .int s8.1]) (MJ := fun e22 => r21) ?_ (fun e22 => ?_)
                · refine jm_if_ne F dX9_lots_128 (fun c23 => ?_) (fun c23 => ?_)
                  · refine jm_aload_n (i := 0) F dX9_lots_131 rfl rfl ?_
                    refine jm_callV (As := []) (st := [.int s8.1]) (rv := fun r => some (.int r)) (mm := fun _ => r21) F dX9_lots_132 qX9_413 rfl lo_X9 rfl (fun r h => kM_allRead E hE h) rfl (Nat.le_of_ble_eq_true rfl) ⟨Nat.le_of_ble_eq_true rfl, Nat.le_of_ble_eq_true rfl⟩ (fun r24 => ?_)
                    refine jm_goto F dX9_lots_135 ?_
                    exact jm_weakD F (lv' := [some (.ref (jm_a E 0 0)), some (.int p1), none, some (.int p3), none, none, some (.int s8.2.1), some (.int e10), none]) ⟨rfl, rfl, rfl, rfl, rfl, trivial⟩ (fun h => h)
                  · refine jm_aload_n (i := 0) F dX9_lots_138 rfl rfl ?_
                    refine jm_callV (As := []) (st := [.int s8.1]) (rv := fun r => some (.int r)) (mm := fun _ => r21) F dX9_lots_139 qX9_419 rfl lo_X9 rfl (fun r h => kM_manyDown E hE h) rfl (Nat.le_of_ble_eq_true rfl) ⟨Nat.le_of_ble_eq_true rfl, Nat.le_of_ble_eq_true rfl⟩ (fun r25 => ?_)
                    exact jm_weakD F (lv' := [some (.ref (jm_a E 0 0)), some (.int p1), none, some (.int p3), none, none, some (.int s8.2.1), some (.int e10), none]) ⟨rfl, rfl, rfl, rfl, rfl, trivial⟩ (fun h => h)
                · refine jm_iload F dX9_lots_142 rfl ?_
                  refine jm_isub F dX9_lots_144 ?_
                  refine jm_iadd F dX9_lots_145 ?_
                  refine jm_nameI (f := fun x26 => [.int x26]) (fun x26 => ?_) rfl
                  refine jm_istore (i := 5) (lv' := [some (.ref (jm_a E 0 0)), some (.int p1), none, some (.int p3), none, some (.int x26), some (.int s8.2.1), some (.int e10), none]) F dX9_lots_146 (by decide) rfl rfl ?_
                  refine jm_aload_n (i := 0) F dX9_lots_148 rfl rfl ?_
                  refine jm_callV (As := []) (st := []) (rv := fun _ => none) (mm := fun r => r) F dX9_lots_149 qX9_310 rfl lo_X9 rfl (fun r h => kM_forgets E hE h) rfl (Nat.le_of_ble_eq_true rfl) ⟨Nat.le_of_ble_eq_true rfl, Nat.le_of_ble_eq_true rfl⟩ (fun r27 => ?_)
                  refine jm_iinc (i := 6) (lv' := [some (.ref (jm_a E 0 0)), some (.int p1), none, some (.int p3), none, some (.int x26), some (.int (s8.2.1 + 1)), some (.int e10), none]) F dX9_lots_152 kc_1 rfl (by decide) rfl rfl ?_
                  refine jm_goto F dX9_lots_155 ?_
                  exact jm_weakD F (lv' := [some (.ref (jm_a E 0 0)), some (.int p1), none, some (.int p3), none, some (.int x26), some (.int (s8.2.1 + 1)), none, none]) ⟨rfl, rfl, rfl, rfl, rfl, trivial⟩ (fun h => h)
        · refine jm_iload F dX9_lots_158 rfl ?_
          exact jm_iret F dX9_lots_160 (fun h => h)
      · refine jm_aload_n (i := 0) F dX9_lots_32 rfl rfl ?_
        refine jm_iload F dX9_lots_33 rfl ?_
        refine jm_callV (As := [.int e2]) (st := []) (rv := fun r => some (.int r.1)) (mm := fun r => r.2) F dX9_lots_35 qX9_172 rfl lo_X9 rfl (fun r h => kM_no E hE h) rfl (Nat.le_of_ble_eq_true rfl) ⟨Nat.le_of_ble_eq_true rfl, Nat.le_of_ble_eq_true rfl⟩ (fun r29 => ?_)
        exact jm_iret F dX9_lots_38 (fun h => h)
  exact G r h hz
theorem dX9_allWeights_0 : jm_d cX9_allWeights 0 (.iconst 0) 1 1 := ⟨by decide +kernel, rfl⟩
theorem dX9_allWeights_1 : jm_d cX9_allWeights 1 (.istore_n 1) 1 2 := ⟨by decide +kernel, rfl⟩
theorem dX9_allWeights_2 : jm_d cX9_allWeights 2 (.iconst 0) 1 3 := ⟨by decide +kernel, rfl⟩
theorem dX9_allWeights_3 : jm_d cX9_allWeights 3 (.istore_n 2) 1 4 := ⟨by decide +kernel, rfl⟩
theorem dX9_allWeights_4 : jm_d cX9_allWeights 4 (.iload_n 2) 1 5 := ⟨by decide +kernel, rfl⟩
theorem dX9_allWeights_5 : jm_d cX9_allWeights 5 (.aload_n 0) 1 6 := ⟨by decide +kernel, rfl⟩
theorem dX9_allWeights_6 : jm_d cX9_allWeights 6 (.getfield 91) 3 9 := ⟨by decide +kernel, rfl⟩
theorem dX9_allWeights_9 : jm_b cX9_allWeights 9 (.if_icmp .ge) 12 27 := ⟨18, by decide +kernel, rfl, by decide⟩
theorem dX9_allWeights_12 : jm_d cX9_allWeights 12 (.iload_n 1) 1 13 := ⟨by decide +kernel, rfl⟩
theorem dX9_allWeights_13 : jm_d cX9_allWeights 13 (.aload_n 0) 1 14 := ⟨by decide +kernel, rfl⟩
theorem dX9_allWeights_14 : jm_d cX9_allWeights 14 (.getfield 13) 3 17 := ⟨by decide +kernel, rfl⟩
theorem dX9_allWeights_17 : jm_d cX9_allWeights 17 (.iload_n 2) 1 18 := ⟨by decide +kernel, rfl⟩
theorem dX9_allWeights_18 : jm_d cX9_allWeights 18 (.iaload) 1 19 := ⟨by decide +kernel, rfl⟩
theorem dX9_allWeights_19 : jm_d cX9_allWeights 19 (.iadd) 1 20 := ⟨by decide +kernel, rfl⟩
theorem dX9_allWeights_20 : jm_d cX9_allWeights 20 (.istore_n 1) 1 21 := ⟨by decide +kernel, rfl⟩
theorem dX9_allWeights_21 : jm_d cX9_allWeights 21 (.iinc 2 1) 3 24 := ⟨by decide +kernel, rfl⟩
theorem dX9_allWeights_24 : jm_b cX9_allWeights 24 .goto 27 4 := ⟨(-20), by decide +kernel, rfl, by decide⟩
theorem dX9_allWeights_27 : jm_d cX9_allWeights 27 (.iload_n 1) 1 28 := ⟨by decide +kernel, rfl⟩
theorem dX9_allWeights_28 : jm_d cX9_allWeights 28 (.ireturn) 1 29 := ⟨by decide +kernel, rfl⟩
set_option maxHeartbeats 4000000 in
set_option maxRecDepth 100000 in
theorem kM_allWeights (E : jm_Ev) (hE : jm_dj E jm_LM) {M : jm_M}  {r : Int32} (h : sM_allWeights M = some r) : jm_Ct E jm_LM yX9_allWeights cX9_allWeights 3 (some .int) 0 0 [.ref (jm_a E 0 0)] M (some (.int r)) M := by
  refine jm_enter (lv := [some (.ref (jm_a E 0 0)), none, none]) hE (by decide) (Nat.le_of_ble_eq_true rfl) rfl ?_
  intro z w F hz
  have G : jm_G w 0 [some (.ref (jm_a E 0 0)), none, none] [] M (sM_allWeights M) (fun e => z (some (.int e)) M) := by
    unfold sM_allWeights
    refine jm_iconst F dX9_allWeights_0 kc_0 ?_
    refine jm_istore_n (i := 1) (lv' := [some (.ref (jm_a E 0 0)), some (.int 0), none]) F dX9_allWeights_1 rfl (by decide) rfl rfl ?_
    refine jm_iconst F dX9_allWeights_2 kc_0 ?_
    refine jm_istore_n (i := 2) (lv' := [some (.ref (jm_a E 0 0)), some (.int 0), some (.int 0)]) F dX9_allWeights_3 rfl (by decide) rfl rfl ?_
    refine jm_bind (pcJ := 27) (lvJ := fun e5 => [none, some (.int e5), none]) (stJ := fun _ => []) (MJ := fun e5 => M) ?_ (fun e5 => ?_)
    · refine jm_weak F (lv' := [some (.ref (jm_a E 0 0)), some (.int 0), some (.int 0)]) ⟨rfl, rfl, rfl, trivial⟩ ?_
      refine jm_loopR (lvH := fun s1 => [some (.ref (jm_a E 0 0)), some (.int s1.1), some (.int s1.2)]) (MH := fun s1 => M) (fun s1 => ?_) jm_N (0, 0)
      unfold sM_allWeights_L4
      refine jm_iload_n (i := 2) F dX9_allWeights_4 rfl rfl ?_
      refine jm_aload_n (i := 0) F dX9_allWeights_5 rfl rfl ?_
      refine jm_getI F dX9_allWeights_6 fl_X9_91 lo_X9 rfl ?_
      refine jm_icmp_ge F dX9_allWeights_9 (fun c2 => ?_) (fun c2 => ?_)
      · exact jm_weakD F (lv' := [none, some (.int s1.1), none]) ⟨rfl, trivial⟩ (fun h => h)
      · refine jm_iload_n (i := 1) F dX9_allWeights_12 rfl rfl ?_
        refine jm_aload_n (i := 0) F dX9_allWeights_13 rfl rfl ?_
        refine jm_getR F dX9_allWeights_14 fl_X9_13 lo_X9 rfl ?_
        refine jm_iload_n (i := 2) F dX9_allWeights_17 rfl rfl ?_
        refine jm_iald F dX9_allWeights_18 la_X9_2 (fun v3 => ?_)
        refine jm_iadd F dX9_allWeights_19 ?_
        refine jm_nameI (f := fun x4 => [.int x4]) (fun x4 => ?_) rfl
        refine jm_istore_n (i := 1) (lv' := [some (.ref (jm_a E 0 0)), some (.int x4), some (.int s1.2)]) F dX9_allWeights_20 rfl (by decide) rfl rfl ?_
        refine jm_iinc (i := 2) (lv' := [some (.ref (jm_a E 0 0)), some (.int x4), some (.int (s1.2 + 1))]) F dX9_allWeights_21 kc_1 rfl (by decide) rfl rfl ?_
        refine jm_goto F dX9_allWeights_24 ?_
        exact jm_weakD F (lv' := [some (.ref (jm_a E 0 0)), some (.int x4), some (.int (s1.2 + 1))]) ⟨rfl, rfl, rfl, trivial⟩ (fun h => h)
    · refine jm_iload_n (i := 1) F dX9_allWeights_27 rfl rfl ?_
      exact jm_iret F dX9_allWeights_28 (fun h => h)
  exact G r h hz
theorem dX9_count_0 : jm_d cX9_count 0 (.iload_n 1) 1 1 := ⟨by decide +kernel, rfl⟩
theorem dX9_count_1 : jm_d cX9_count 1 (.bipush 11) 2 3 := ⟨by decide +kernel, rfl⟩
theorem dX9_count_3 : jm_d cX9_count 3 (.bipush 16) 2 5 := ⟨by decide +kernel, rfl⟩
theorem dX9_count_5 : jm_d cX9_count 5 (.invokestatic 98) 3 8 := ⟨by decide +kernel, rfl⟩
theorem dX9_count_8 : jm_b cX9_count 8 (.ifCond .eq) 11 21 := ⟨13, by decide +kernel, rfl, by decide⟩
theorem dX9_count_21 : jm_d cX9_count 21 (.iload_n 1) 1 22 := ⟨by decide +kernel, rfl⟩
theorem dX9_count_22 : decode cX9_count 22 = .ok (.tableswitch 95 0 8 #[50, 55, 60, 65, 70, 75, 80, 85, 90], 50) := by decide +kernel
theorem dX9_count_72 : jm_d cX9_count 72 (.aload_n 0) 1 73 := ⟨by decide +kernel, rfl⟩
theorem dX9_count_73 : jm_d cX9_count 73 (.getfield 91) 3 76 := ⟨by decide +kernel, rfl⟩
theorem dX9_count_76 : jm_d cX9_count 76 (.ireturn) 1 77 := ⟨by decide +kernel, rfl⟩
theorem dX9_count_77 : jm_d cX9_count 77 (.aload_n 0) 1 78 := ⟨by decide +kernel, rfl⟩
theorem dX9_count_78 : jm_d cX9_count 78 (.getfield 106) 3 81 := ⟨by decide +kernel, rfl⟩
theorem dX9_count_81 : jm_d cX9_count 81 (.ireturn) 1 82 := ⟨by decide +kernel, rfl⟩
theorem dX9_count_82 : jm_d cX9_count 82 (.aload_n 0) 1 83 := ⟨by decide +kernel, rfl⟩
theorem dX9_count_83 : jm_d cX9_count 83 (.getfield 116) 3 86 := ⟨by decide +kernel, rfl⟩
theorem dX9_count_86 : jm_d cX9_count 86 (.ireturn) 1 87 := ⟨by decide +kernel, rfl⟩
theorem dX9_count_87 : jm_d cX9_count 87 (.aload_n 0) 1 88 := ⟨by decide +kernel, rfl⟩
theorem dX9_count_88 : jm_d cX9_count 88 (.getfield 122) 3 91 := ⟨by decide +kernel, rfl⟩
theorem dX9_count_91 : jm_d cX9_count 91 (.ireturn) 1 92 := ⟨by decide +kernel, rfl⟩
theorem dX9_count_92 : jm_d cX9_count 92 (.aload_n 0) 1 93 := ⟨by decide +kernel, rfl⟩
theorem dX9_count_93 : jm_d cX9_count 93 (.invokevirtual 422) 3 96 := ⟨by decide +kernel, rfl⟩
theorem dX9_count_96 : jm_d cX9_count 96 (.ireturn) 1 97 := ⟨by decide +kernel, rfl⟩
theorem dX9_count_97 : jm_d cX9_count 97 (.aload_n 0) 1 98 := ⟨by decide +kernel, rfl⟩
theorem dX9_count_98 : jm_d cX9_count 98 (.getfield 169) 3 101 := ⟨by decide +kernel, rfl⟩
theorem dX9_count_101 : jm_d cX9_count 101 (.ireturn) 1 102 := ⟨by decide +kernel, rfl⟩
theorem dX9_count_102 : jm_d cX9_count 102 (.aload_n 0) 1 103 := ⟨by decide +kernel, rfl⟩
theorem dX9_count_103 : jm_d cX9_count 103 (.getfield 353) 3 106 := ⟨by decide +kernel, rfl⟩
theorem dX9_count_106 : jm_d cX9_count 106 (.ireturn) 1 107 := ⟨by decide +kernel, rfl⟩
theorem dX9_count_107 : jm_d cX9_count 107 (.aload_n 0) 1 108 := ⟨by decide +kernel, rfl⟩
theorem dX9_count_108 : jm_d cX9_count 108 (.getfield 260) 3 111 := ⟨by decide +kernel, rfl⟩
theorem dX9_count_111 : jm_d cX9_count 111 (.ireturn) 1 112 := ⟨by decide +kernel, rfl⟩
theorem dX9_count_112 : jm_d cX9_count 112 (.aload_n 0) 1 113 := ⟨by decide +kernel, rfl⟩
theorem dX9_count_113 : jm_d cX9_count 113 (.invokevirtual 419) 3 116 := ⟨by decide +kernel, rfl⟩
theorem dX9_count_116 : jm_d cX9_count 116 (.ireturn) 1 117 := ⟨by decide +kernel, rfl⟩
theorem dX9_count_117 : jm_d cX9_count 117 (.bipush (-9)) 2 119 := ⟨by decide +kernel, rfl⟩
theorem dX9_count_119 : jm_d cX9_count 119 (.ireturn) 1 120 := ⟨by decide +kernel, rfl⟩
theorem dX9_count_11 : jm_d cX9_count 11 (.aload_n 0) 1 12 := ⟨by decide +kernel, rfl⟩
theorem dX9_count_12 : jm_d cX9_count 12 (.getfield 7) 3 15 := ⟨by decide +kernel, rfl⟩
theorem dX9_count_15 : jm_d cX9_count 15 (.iload_n 1) 1 16 := ⟨by decide +kernel, rfl⟩
theorem dX9_count_16 : jm_d cX9_count 16 (.bipush 10) 2 18 := ⟨by decide +kernel, rfl⟩
theorem dX9_count_18 : jm_d cX9_count 18 (.isub) 1 19 := ⟨by decide +kernel, rfl⟩
theorem dX9_count_19 : jm_d cX9_count 19 (.iaload) 1 20 := ⟨by decide +kernel, rfl⟩
theorem dX9_count_20 : jm_d cX9_count 20 (.ireturn) 1 21 := ⟨by decide +kernel, rfl⟩
set_option maxHeartbeats 4000000 in
set_option maxRecDepth 100000 in
theorem kM_count (E : jm_Ev) (hE : jm_dj E jm_LM) {M : jm_M} {p1 : Int32}  {r : Int32} (h : sM_count M p1 = some r) : jm_Ct E jm_LM yX9_count cX9_count 2 (some .int) 8 185 [.ref (jm_a E 0 0), .int p1] M (some (.int r)) M := by
  refine jm_enter (lv := [some (.ref (jm_a E 0 0)), some (.int p1)]) hE (by decide) (Nat.le_of_ble_eq_true rfl) rfl ?_
  intro z w F hz
  have G : jm_G w 0 [some (.ref (jm_a E 0 0)), some (.int p1)] [] M (sM_count M p1) (fun e => z (some (.int e)) M) := by
    unfold sM_count
    refine jm_iload_n (i := 1) F dX9_count_0 rfl rfl ?_
    refine jm_bipush F dX9_count_1 kb_11 ?_
    refine jm_bipush F dX9_count_3 kb_16 ?_
    refine jm_callS (As := [.int p1, .int 11, .int 16]) (st := []) (rv := fun r => some (.int r)) (mm := fun _ => M) F dX9_count_5 qX9_98 rfl (fun r h => kM_isIn E hE h) rfl (Nat.le_of_ble_eq_true rfl) ⟨Nat.le_of_ble_eq_true rfl, Nat.le_of_ble_eq_true rfl⟩ (fun r1 => ?_)
    refine jm_if_eq F dX9_count_8 (fun c2 => ?_) (fun c2 => ?_)
    · refine jm_iload_n (i := 1) F dX9_count_21 rfl rfl ?_
      refine jm_ite (fun c3 => ?_) (fun c3 => ?_)
      · refine jm_tsw (tgt := 72) F dX9_count_22 c3 (by decide) (by decide) rfl (by decide) ?_
        refine jm_aload_n (i := 0) F dX9_count_72 rfl rfl ?_
        refine jm_getI F dX9_count_73 fl_X9_91 lo_X9 rfl ?_
        exact jm_iret F dX9_count_76 (fun h => h)
      · refine jm_ite (fun c4 => ?_) (fun c4 => ?_)
        · refine jm_tsw (tgt := 77) F dX9_count_22 c4 (by decide) (by decide) rfl (by decide) ?_
          refine jm_aload_n (i := 0) F dX9_count_77 rfl rfl ?_
          refine jm_getI F dX9_count_78 fl_X9_106 lo_X9 rfl ?_
          exact jm_iret F dX9_count_81 (fun h => h)
        · refine jm_ite (fun c5 => ?_) (fun c5 => ?_)
          · refine jm_tsw (tgt := 82) F dX9_count_22 c5 (by decide) (by decide) rfl (by decide) ?_
            refine jm_aload_n (i := 0) F dX9_count_82 rfl rfl ?_
            refine jm_getI F dX9_count_83 fl_X9_116 lo_X9 rfl ?_
            exact jm_iret F dX9_count_86 (fun h => h)
          · refine jm_ite (fun c6 => ?_) (fun c6 => ?_)
            · refine jm_tsw (tgt := 87) F dX9_count_22 c6 (by decide) (by decide) rfl (by decide) ?_
              refine jm_aload_n (i := 0) F dX9_count_87 rfl rfl ?_
              refine jm_getI F dX9_count_88 fl_X9_122 lo_X9 rfl ?_
              exact jm_iret F dX9_count_91 (fun h => h)
            · refine jm_ite (fun c7 => ?_) (fun c7 => ?_)
              · refine jm_tsw (tgt := 92) F dX9_count_22 c7 (by decide) (by decide) rfl (by decide) ?_
                refine jm_aload_n (i := 0) F dX9_count_92 rfl rfl ?_
                refine jm_callV (As := []) (st := []) (rv := fun r => some (.int r)) (mm := fun _ => M) F dX9_count_93 qX9_422 rfl lo_X9 rfl (fun r h => kM_allWeights E hE h) rfl (Nat.le_of_ble_eq_true rfl) ⟨Nat.le_of_ble_eq_true rfl, Nat.le_of_ble_eq_true rfl⟩ (fun r8 => ?_)
                exact jm_iret F dX9_count_96 (fun h => h)
              · refine jm_ite (fun c9 => ?_) (fun c9 => ?_)
                · refine jm_tsw (tgt := 97) F dX9_count_22 c9 (by decide) (by decide) rfl (by decide) ?_
                  refine jm_aload_n (i := 0) F dX9_count_97 rfl rfl ?_
                  refine jm_getI F dX9_count_98 fl_X9_169 lo_X9 rfl ?_
                  exact jm_iret F dX9_count_101 (fun h => h)
                · refine jm_ite (fun c10 => ?_) (fun c10 => ?_)
                  · refine jm_tsw (tgt := 102) F dX9_count_22 c10 (by decide) (by decide) rfl (by decide) ?_
                    refine jm_aload_n (i := 0) F dX9_count_102 rfl rfl ?_
                    refine jm_getI F dX9_count_103 fl_X9_353 lo_X9 rfl ?_
                    exact jm_iret F dX9_count_106 (fun h => h)
                  · refine jm_ite (fun c11 => ?_) (fun c11 => ?_)
                    · refine jm_tsw (tgt := 107) F dX9_count_22 c11 (by decide) (by decide) rfl (by decide) ?_
                      refine jm_aload_n (i := 0) F dX9_count_107 rfl rfl ?_
                      refine jm_getI F dX9_count_108 fl_X9_260 lo_X9 rfl ?_
                      exact jm_iret F dX9_count_111 (fun h => h)
                    · refine jm_ite (fun c12 => ?_) (fun c12 => ?_)
                      · refine jm_tsw (tgt := 112) F dX9_count_22 c12 (by decide) (by decide) rfl (by decide) ?_
                        refine jm_aload_n (i := 0) F dX9_count_112 rfl rfl ?_
                        refine jm_callV (As := []) (st := []) (rv := fun r => some (.int r)) (mm := fun _ => M) F dX9_count_113 qX9_419 rfl lo_X9 rfl (fun r h => kM_manyDown E hE h) rfl (Nat.le_of_ble_eq_true rfl) ⟨Nat.le_of_ble_eq_true rfl, Nat.le_of_ble_eq_true rfl⟩ (fun r13 => ?_)
                        exact jm_iret F dX9_count_116 (fun h => h)
                      · refine jm_tsd (tgt := 117) F dX9_count_22 (by
                            have e0 := jm_ne c3 (a := 0) (by decide)
                            have e1 := jm_ne c4 (a := 1) (by decide)
                            have e2 := jm_ne c5 (a := 2) (by decide)
                            have e3 := jm_ne c6 (a := 3) (by decide)
                            have e4 := jm_ne c7 (a := 4) (by decide)
                            have e5 := jm_ne c9 (a := 5) (by decide)
                            have e6 := jm_ne c10 (a := 6) (by decide)
                            have e7 := jm_ne c11 (a := 7) (by decide)
                            have e8 := jm_ne c12 (a := 8) (by decide)
                            omega) (by decide) ?_
                        refine jm_bipush F dX9_count_117 kb_m9 ?_
                        exact jm_iret F dX9_count_119 (fun h => h)
    · refine jm_aload_n (i := 0) F dX9_count_11 rfl rfl ?_
      refine jm_getR F dX9_count_12 fl_X9_7 lo_X9 rfl ?_
      refine jm_iload_n (i := 1) F dX9_count_15 rfl rfl ?_
      refine jm_bipush F dX9_count_16 kb_10 ?_
      refine jm_isub F dX9_count_18 ?_
      refine jm_iald F dX9_count_19 la_X9_1 (fun v14 => ?_)
      exact jm_iret F dX9_count_20 (fun h => h)
  exact G r h hz
