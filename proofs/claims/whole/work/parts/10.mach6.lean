theorem dX9_goesWeek_0 : jm_d cX9_goesWeek 0 (.aload_n 0) 1 1 := ⟨by decide +kernel, rfl⟩
theorem dX9_goesWeek_1 : jm_d cX9_goesWeek 1 (.dup) 1 2 := ⟨by decide +kernel, rfl⟩
theorem dX9_goesWeek_2 : jm_d cX9_goesWeek 2 (.getfield 116) 3 5 := ⟨by decide +kernel, rfl⟩
theorem dX9_goesWeek_5 : jm_d cX9_goesWeek 5 (.iconst 1) 1 6 := ⟨by decide +kernel, rfl⟩
theorem dX9_goesWeek_6 : jm_d cX9_goesWeek 6 (.iadd) 1 7 := ⟨by decide +kernel, rfl⟩
theorem dX9_goesWeek_7 : jm_d cX9_goesWeek 7 (.putfield 116) 3 10 := ⟨by decide +kernel, rfl⟩
theorem dX9_goesWeek_10 : jm_d cX9_goesWeek 10 (.iconst 0) 1 11 := ⟨by decide +kernel, rfl⟩
theorem dX9_goesWeek_11 : jm_d cX9_goesWeek 11 (.istore_n 1) 1 12 := ⟨by decide +kernel, rfl⟩
theorem dX9_goesWeek_12 : jm_d cX9_goesWeek 12 (.iload_n 1) 1 13 := ⟨by decide +kernel, rfl⟩
theorem dX9_goesWeek_13 : jm_d cX9_goesWeek 13 (.aload_n 0) 1 14 := ⟨by decide +kernel, rfl⟩
theorem dX9_goesWeek_14 : jm_d cX9_goesWeek 14 (.getfield 91) 3 17 := ⟨by decide +kernel, rfl⟩
theorem dX9_goesWeek_17 : jm_b cX9_goesWeek 17 (.if_icmp .ge) 20 31 := ⟨14, by decide +kernel, rfl, by decide⟩
theorem dX9_goesWeek_20 : jm_d cX9_goesWeek 20 (.aload_n 0) 1 21 := ⟨by decide +kernel, rfl⟩
theorem dX9_goesWeek_21 : jm_d cX9_goesWeek 21 (.iload_n 1) 1 22 := ⟨by decide +kernel, rfl⟩
theorem dX9_goesWeek_22 : jm_d cX9_goesWeek 22 (.invokevirtual 159) 3 25 := ⟨by decide +kernel, rfl⟩
theorem dX9_goesWeek_25 : jm_d cX9_goesWeek 25 (.iinc 1 1) 3 28 := ⟨by decide +kernel, rfl⟩
theorem dX9_goesWeek_28 : jm_b cX9_goesWeek 28 .goto 31 12 := ⟨(-16), by decide +kernel, rfl, by decide⟩
theorem dX9_goesWeek_31 : jm_d cX9_goesWeek 31 (.return_) 1 32 := ⟨by decide +kernel, rfl⟩
set_option maxHeartbeats 4000000 in
set_option maxRecDepth 100000 in
theorem kM_goesWeek (E : jm_Ev) (hE : jm_dj E jm_LM) {M : jm_M}  {r : jm_M} (h : sM_goesWeek M = some r) : jm_Ct E jm_LM yX9_goesWeek cX9_goesWeek 2 none 3 70 [.ref (jm_a E 0 0)] M none r := by
  refine jm_enter (lv := [some (.ref (jm_a E 0 0)), none]) hE (by decide) (Nat.le_of_ble_eq_true rfl) rfl ?_
  intro z w F hz
  have G : jm_G w 0 [some (.ref (jm_a E 0 0)), none] [] M (sM_goesWeek M) (fun e => z none e) := by
    unfold sM_goesWeek
    refine jm_aload_n (i := 0) F dX9_goesWeek_0 rfl rfl ?_
    refine jm_dup F dX9_goesWeek_1 rfl ?_
    refine jm_getI F dX9_goesWeek_2 fl_X9_116 lo_X9 rfl ?_
    refine jm_iconst F dX9_goesWeek_5 kc_1 ?_
    refine jm_iadd F dX9_goesWeek_6 ?_
    refine jm_putI F dX9_goesWeek_7 fp_X9_116 lo_X9 rfl (fun M1 => ?_)
    refine jm_iconst F dX9_goesWeek_10 kc_0 ?_
    refine jm_istore_n (i := 1) (lv' := [some (.ref (jm_a E 0 0)), some (.int 0)]) F dX9_goesWeek_11 rfl (by decide) rfl rfl ?_
    refine jm_bind (pcJ := 31) (lvJ := fun e5 => [none, none]) (stJ := fun _ => []) (MJ := fun e5 => e5) ?_ (fun e5 => ?_)
    · refine jm_weak F (lv' := [some (.ref (jm_a E 0 0)), some (.int 0)]) ⟨rfl, rfl, trivial⟩ ?_
      refine jm_loopR (lvH := fun s2 => [some (.ref (jm_a E 0 0)), some (.int s2.1)]) (MH := fun s2 => s2.2) (fun s2 => ?_) jm_N (0, M1)
      unfold sM_goesWeek_L12
      refine jm_iload_n (i := 1) F dX9_goesWeek_12 rfl rfl ?_
      refine jm_aload_n (i := 0) F dX9_goesWeek_13 rfl rfl ?_
      refine jm_getI F dX9_goesWeek_14 fl_X9_91 lo_X9 rfl ?_
      refine jm_icmp_ge F dX9_goesWeek_17 (fun c3 => ?_) (fun c3 => ?_)
      · exact jm_weakD F (lv' := [none, none]) trivial (fun h => h)
      · refine jm_aload_n (i := 0) F dX9_goesWeek_20 rfl rfl ?_
        refine jm_iload_n (i := 1) F dX9_goesWeek_21 rfl rfl ?_
        refine jm_callV (As := [.int s2.1]) (st := []) (rv := fun _ => none) (mm := fun r => r) F dX9_goesWeek_22 qX9_159 rfl lo_X9 rfl (fun r h => kM_goesPerson E hE h) rfl (Nat.le_of_ble_eq_true rfl) ⟨Nat.le_of_ble_eq_true rfl, Nat.le_of_ble_eq_true rfl⟩ (fun r4 => ?_)
        refine jm_iinc (i := 1) (lv' := [some (.ref (jm_a E 0 0)), some (.int (s2.1 + 1))]) F dX9_goesWeek_25 kc_1 rfl (by decide) rfl rfl ?_
        refine jm_goto F dX9_goesWeek_28 ?_
        exact jm_weakD F (lv' := [some (.ref (jm_a E 0 0)), some (.int (s2.1 + 1))]) ⟨rfl, rfl, trivial⟩ (fun h => h)
    · exact jm_vret F dX9_goesWeek_31 (fun h => h)
  exact G r h hz
theorem dX9_goes_0 : jm_d cX9_goes 0 (.iconst 0) 1 1 := ⟨by decide +kernel, rfl⟩
theorem dX9_goes_1 : jm_d cX9_goes 1 (.istore_n 2) 1 2 := ⟨by decide +kernel, rfl⟩
theorem dX9_goes_2 : jm_d cX9_goes 2 (.iload_n 2) 1 3 := ⟨by decide +kernel, rfl⟩
theorem dX9_goes_3 : jm_d cX9_goes 3 (.iload_n 1) 1 4 := ⟨by decide +kernel, rfl⟩
theorem dX9_goes_4 : jm_b cX9_goes 4 (.if_icmp .ge) 7 17 := ⟨13, by decide +kernel, rfl, by decide⟩
theorem dX9_goes_7 : jm_d cX9_goes 7 (.aload_n 0) 1 8 := ⟨by decide +kernel, rfl⟩
theorem dX9_goes_8 : jm_d cX9_goes 8 (.invokevirtual 163) 3 11 := ⟨by decide +kernel, rfl⟩
theorem dX9_goes_11 : jm_d cX9_goes 11 (.iinc 2 1) 3 14 := ⟨by decide +kernel, rfl⟩
theorem dX9_goes_14 : jm_b cX9_goes 14 .goto 17 2 := ⟨(-12), by decide +kernel, rfl, by decide⟩
theorem dX9_goes_17 : jm_d cX9_goes 17 (.return_) 1 18 := ⟨by decide +kernel, rfl⟩
set_option maxHeartbeats 4000000 in
set_option maxRecDepth 100000 in
theorem kM_goes (E : jm_Ev) (hE : jm_dj E jm_LM) {M : jm_M} {p1 : Int32}  {r : jm_M} (h : sM_goes M p1 = some r) : jm_Ct E jm_LM yX9_goes cX9_goes 3 none 4 91 [.ref (jm_a E 0 0), .int p1] M none r := by
  refine jm_enter (lv := [some (.ref (jm_a E 0 0)), some (.int p1), none]) hE (by decide) (Nat.le_of_ble_eq_true rfl) rfl ?_
  intro z w F hz
  have G : jm_G w 0 [some (.ref (jm_a E 0 0)), some (.int p1), none] [] M (sM_goes M p1) (fun e => z none e) := by
    unfold sM_goes
    refine jm_iconst F dX9_goes_0 kc_0 ?_
    refine jm_istore_n (i := 2) (lv' := [some (.ref (jm_a E 0 0)), some (.int p1), some (.int 0)]) F dX9_goes_1 rfl (by decide) rfl rfl ?_
    refine jm_bind (pcJ := 17) (lvJ := fun e4 => [none, none, none]) (stJ := fun _ => []) (MJ := fun e4 => e4) ?_ (fun e4 => ?_)
    · refine jm_weak F (lv' := [some (.ref (jm_a E 0 0)), some (.int p1), some (.int 0)]) ⟨rfl, rfl, rfl, trivial⟩ ?_
      refine jm_loopR (lvH := fun s1 => [some (.ref (jm_a E 0 0)), some (.int p1), some (.int s1.1)]) (MH := fun s1 => s1.2) (fun s1 => ?_) jm_N (0, M)
      unfold sM_goes_L2
      refine jm_iload_n (i := 2) F dX9_goes_2 rfl rfl ?_
      refine jm_iload_n (i := 1) F dX9_goes_3 rfl rfl ?_
      refine jm_icmp_ge F dX9_goes_4 (fun c2 => ?_) (fun c2 => ?_)
      · exact jm_weakD F (lv' := [none, none, none]) trivial (fun h => h)
      · refine jm_aload_n (i := 0) F dX9_goes_7 rfl rfl ?_
        refine jm_callV (As := []) (st := []) (rv := fun _ => none) (mm := fun r => r) F dX9_goes_8 qX9_163 rfl lo_X9 rfl (fun r h => kM_goesWeek E hE h) rfl (Nat.le_of_ble_eq_true rfl) ⟨Nat.le_of_ble_eq_true rfl, Nat.le_of_ble_eq_true rfl⟩ (fun r3 => ?_)
        refine jm_iinc (i := 2) (lv' := [some (.ref (jm_a E 0 0)), some (.int p1), some (.int (s1.1 + 1))]) F dX9_goes_11 kc_1 rfl (by decide) rfl rfl ?_
        refine jm_goto F dX9_goes_14 ?_
        exact jm_weakD F (lv' := [some (.ref (jm_a E 0 0)), some (.int p1), some (.int (s1.1 + 1))]) ⟨rfl, rfl, rfl, trivial⟩ (fun h => h)
    · exact jm_vret F dX9_goes_17 (fun h => h)
  exact G r h hz
theorem dX9_feed_0 : jm_d cX9_feed 0 (.iload_n 1) 1 1 := ⟨by decide +kernel, rfl⟩
theorem dX9_feed_1 : jm_d cX9_feed 1 (.iconst 0) 1 2 := ⟨by decide +kernel, rfl⟩
theorem dX9_feed_2 : jm_d cX9_feed 2 (.sipush 255) 3 5 := ⟨by decide +kernel, rfl⟩
theorem dX9_feed_5 : jm_d cX9_feed 5 (.invokestatic 166) 3 8 := ⟨by decide +kernel, rfl⟩
theorem dX9_feed_8 : jm_d cX9_feed 8 (.istore_n 2) 1 9 := ⟨by decide +kernel, rfl⟩
theorem dX9_feed_9 : jm_d cX9_feed 9 (.iload_n 2) 1 10 := ⟨by decide +kernel, rfl⟩
theorem dX9_feed_10 : jm_b cX9_feed 10 (.ifCond .ne) 13 25 := ⟨15, by decide +kernel, rfl, by decide⟩
theorem dX9_feed_13 : jm_d cX9_feed 13 (.aload_n 0) 1 14 := ⟨by decide +kernel, rfl⟩
theorem dX9_feed_14 : jm_d cX9_feed 14 (.getfield 169) 3 17 := ⟨by decide +kernel, rfl⟩
theorem dX9_feed_17 : jm_d cX9_feed 17 (.bipush 96) 2 19 := ⟨by decide +kernel, rfl⟩
theorem dX9_feed_19 : jm_b cX9_feed 19 (.if_icmp .ne) 22 25 := ⟨6, by decide +kernel, rfl, by decide⟩
theorem dX9_feed_22 : jm_d cX9_feed 22 (.bipush (-6)) 2 24 := ⟨by decide +kernel, rfl⟩
theorem dX9_feed_24 : jm_d cX9_feed 24 (.istore_n 2) 1 25 := ⟨by decide +kernel, rfl⟩
theorem dX9_feed_25 : jm_d cX9_feed 25 (.iload_n 2) 1 26 := ⟨by decide +kernel, rfl⟩
theorem dX9_feed_26 : jm_b cX9_feed 26 (.ifCond .eq) 29 35 := ⟨9, by decide +kernel, rfl, by decide⟩
theorem dX9_feed_35 : jm_d cX9_feed 35 (.aload_n 0) 1 36 := ⟨by decide +kernel, rfl⟩
theorem dX9_feed_36 : jm_d cX9_feed 36 (.getfield 49) 3 39 := ⟨by decide +kernel, rfl⟩
theorem dX9_feed_39 : jm_d cX9_feed 39 (.aload_n 0) 1 40 := ⟨by decide +kernel, rfl⟩
theorem dX9_feed_40 : jm_d cX9_feed 40 (.getfield 169) 3 43 := ⟨by decide +kernel, rfl⟩
theorem dX9_feed_43 : jm_d cX9_feed 43 (.iload_n 1) 1 44 := ⟨by decide +kernel, rfl⟩
theorem dX9_feed_44 : jm_d cX9_feed 44 (.iastore) 1 45 := ⟨by decide +kernel, rfl⟩
theorem dX9_feed_45 : jm_d cX9_feed 45 (.aload_n 0) 1 46 := ⟨by decide +kernel, rfl⟩
theorem dX9_feed_46 : jm_d cX9_feed 46 (.dup) 1 47 := ⟨by decide +kernel, rfl⟩
theorem dX9_feed_47 : jm_d cX9_feed 47 (.getfield 169) 3 50 := ⟨by decide +kernel, rfl⟩
theorem dX9_feed_50 : jm_d cX9_feed 50 (.iconst 1) 1 51 := ⟨by decide +kernel, rfl⟩
theorem dX9_feed_51 : jm_d cX9_feed 51 (.iadd) 1 52 := ⟨by decide +kernel, rfl⟩
theorem dX9_feed_52 : jm_d cX9_feed 52 (.putfield 169) 3 55 := ⟨by decide +kernel, rfl⟩
theorem dX9_feed_55 : jm_d cX9_feed 55 (.aload_n 0) 1 56 := ⟨by decide +kernel, rfl⟩
theorem dX9_feed_56 : jm_d cX9_feed 56 (.getfield 169) 3 59 := ⟨by decide +kernel, rfl⟩
theorem dX9_feed_59 : jm_d cX9_feed 59 (.ireturn) 1 60 := ⟨by decide +kernel, rfl⟩
theorem dX9_feed_29 : jm_d cX9_feed 29 (.aload_n 0) 1 30 := ⟨by decide +kernel, rfl⟩
theorem dX9_feed_30 : jm_d cX9_feed 30 (.iload_n 2) 1 31 := ⟨by decide +kernel, rfl⟩
theorem dX9_feed_31 : jm_d cX9_feed 31 (.invokevirtual 172) 3 34 := ⟨by decide +kernel, rfl⟩
theorem dX9_feed_34 : jm_d cX9_feed 34 (.ireturn) 1 35 := ⟨by decide +kernel, rfl⟩
set_option maxHeartbeats 4000000 in
set_option maxRecDepth 100000 in
theorem kM_feed (E : jm_Ev) (hE : jm_dj E jm_LM) {M : jm_M} {p1 : Int32}  {r : Int32 × jm_M} (h : sM_feed M p1 = some r) : jm_Ct E jm_LM yX9_feed cX9_feed 3 (some .int) 1 22 [.ref (jm_a E 0 0), .int p1] M (some (.int r.1)) r.2 := by
  refine jm_enter (lv := [some (.ref (jm_a E 0 0)), some (.int p1), none]) hE (by decide) (Nat.le_of_ble_eq_true rfl) rfl ?_
  intro z w F hz
  have G : jm_G w 0 [some (.ref (jm_a E 0 0)), some (.int p1), none] [] M (sM_feed M p1) (fun e => z (some (.int e.1)) e.2) := by
    unfold sM_feed
    refine jm_iload_n (i := 1) F dX9_feed_0 rfl rfl ?_
    refine jm_iconst F dX9_feed_1 kc_0 ?_
    refine jm_sipush F dX9_feed_2 ks_255 ?_
    refine jm_callS (As := [.int p1, .int 0, .int 255]) (st := []) (rv := fun r => some (.int r)) (mm := fun _ => M) F dX9_feed_5 qX9_166 rfl (fun r h => kM_bound E hE h) rfl (Nat.le_of_ble_eq_true rfl) ⟨Nat.le_of_ble_eq_true rfl, Nat.le_of_ble_eq_true rfl⟩ (fun r1 => ?_)
    refine jm_istore_n (i := 2) (lv' := [some (.ref (jm_a E 0 0)), some (.int p1), some (.int r1)]) F dX9_feed_8 rfl (by decide) rfl rfl ?_
    refine jm_iload_n (i := 2) F dX9_feed_9 rfl rfl ?_
    refine jm_bind (pcJ := 25) (lvJ := fun e2 => [some (.ref (jm_a E 0 0)), some (.int p1), some (.int e2)]) (stJ := fun e2 => []) (MJ := fun e2 => M) ?_ (fun e2 => ?_)
    · refine jm_if_ne F dX9_feed_10 (fun c3 => ?_) (fun c3 => ?_)
      · refine jm_aload_n (i := 0) F dX9_feed_13 rfl rfl ?_
        refine jm_getI F dX9_feed_14 fl_X9_169 lo_X9 rfl ?_
        refine jm_bipush F dX9_feed_17 kb_96 ?_
        refine jm_icmp_ne F dX9_feed_19 (fun c4 => ?_) (fun c4 => ?_)
        · refine jm_bipush F dX9_feed_22 kb_m6 ?_
          refine jm_istore_n (i := 2) (lv' := [some (.ref (jm_a E 0 0)), some (.int p1), some (.int (-6))]) F dX9_feed_24 rfl (by decide) rfl rfl ?_
          exact jm_weakD F (lv' := [some (.ref (jm_a E 0 0)), some (.int p1), some (.int (-6))]) ⟨rfl, rfl, rfl, trivial⟩ (fun h => h)
        · exact jm_weakD F (lv' := [some (.ref (jm_a E 0 0)), some (.int p1), some (.int r1)]) ⟨rfl, rfl, rfl, trivial⟩ (fun h => h)
      · exact jm_weakD F (lv' := [some (.ref (jm_a E 0 0)), some (.int p1), some (.int r1)]) ⟨rfl, rfl, rfl, trivial⟩ (fun h => h)
    · refine jm_iload_n (i := 2) F dX9_feed_25 rfl rfl ?_
      refine jm_if_eq F dX9_feed_26 (fun c5 => ?_) (fun c5 => ?_)
      · refine jm_aload_n (i := 0) F dX9_feed_35 rfl rfl ?_
        refine jm_getR F dX9_feed_36 fl_X9_49 lo_X9 rfl ?_
        refine jm_aload_n (i := 0) F dX9_feed_39 rfl rfl ?_
        refine jm_getI F dX9_feed_40 fl_X9_169 lo_X9 rfl ?_
        refine jm_iload_n (i := 1) F dX9_feed_43 rfl rfl ?_
        refine jm_iast F dX9_feed_44 la_X9_19 (fun M6 => ?_)
        refine jm_aload_n (i := 0) F dX9_feed_45 rfl rfl ?_
        refine jm_dup F dX9_feed_46 rfl ?_
        refine jm_getI F dX9_feed_47 fl_X9_169 lo_X9 rfl ?_
        refine jm_iconst F dX9_feed_50 kc_1 ?_
        refine jm_iadd F dX9_feed_51 ?_
        refine jm_putI F dX9_feed_52 fp_X9_169 lo_X9 rfl (fun M7 => ?_)
        refine jm_aload_n (i := 0) F dX9_feed_55 rfl rfl ?_
        refine jm_getI F dX9_feed_56 fl_X9_169 lo_X9 rfl ?_
        exact jm_iret F dX9_feed_59 (fun h => h)
      · refine jm_aload_n (i := 0) F dX9_feed_29 rfl rfl ?_
        refine jm_iload_n (i := 2) F dX9_feed_30 rfl rfl ?_
        refine jm_callV (As := [.int e2]) (st := []) (rv := fun r => some (.int r.1)) (mm := fun r => r.2) F dX9_feed_31 qX9_172 rfl lo_X9 rfl (fun r h => kM_no E hE h) rfl (Nat.le_of_ble_eq_true rfl) ⟨Nat.le_of_ble_eq_true rfl, Nat.le_of_ble_eq_true rfl⟩ (fun r8 => ?_)
        exact jm_iret F dX9_feed_34 (fun h => h)
  exact G r h hz
theorem dX9_sign_0 : jm_d cX9_sign 0 (.aload_n 0) 1 1 := ⟨by decide +kernel, rfl⟩
theorem dX9_sign_1 : jm_d cX9_sign 1 (.getfield 175) 3 4 := ⟨by decide +kernel, rfl⟩
theorem dX9_sign_4 : jm_d cX9_sign 4 (.aload_n 0) 1 5 := ⟨by decide +kernel, rfl⟩
theorem dX9_sign_5 : jm_d cX9_sign 5 (.getfield 169) 3 8 := ⟨by decide +kernel, rfl⟩
theorem dX9_sign_8 : jm_b cX9_sign 8 (.if_icmp .ge) 11 23 := ⟨15, by decide +kernel, rfl, by decide⟩
theorem dX9_sign_23 : jm_d cX9_sign 23 (.iconst (-1)) 1 24 := ⟨by decide +kernel, rfl⟩
theorem dX9_sign_24 : jm_d cX9_sign 24 (.ireturn) 1 25 := ⟨by decide +kernel, rfl⟩
theorem dX9_sign_11 : jm_d cX9_sign 11 (.aload_n 0) 1 12 := ⟨by decide +kernel, rfl⟩
theorem dX9_sign_12 : jm_d cX9_sign 12 (.getfield 49) 3 15 := ⟨by decide +kernel, rfl⟩
theorem dX9_sign_15 : jm_d cX9_sign 15 (.aload_n 0) 1 16 := ⟨by decide +kernel, rfl⟩
theorem dX9_sign_16 : jm_d cX9_sign 16 (.getfield 175) 3 19 := ⟨by decide +kernel, rfl⟩
theorem dX9_sign_19 : jm_d cX9_sign 19 (.iaload) 1 20 := ⟨by decide +kernel, rfl⟩
theorem dX9_sign_20 : jm_b cX9_sign 20 .goto 23 24 := ⟨4, by decide +kernel, rfl, by decide⟩
set_option maxHeartbeats 4000000 in
set_option maxRecDepth 100000 in
theorem kM_sign (E : jm_Ev) (hE : jm_dj E jm_LM) {M : jm_M}  {r : Int32} (h : sM_sign M = some r) : jm_Ct E jm_LM yX9_sign cX9_sign 1 (some .int) 0 0 [.ref (jm_a E 0 0)] M (some (.int r)) M := by
  refine jm_enter (lv := [some (.ref (jm_a E 0 0))]) hE (by decide) (Nat.le_of_ble_eq_true rfl) rfl ?_
  intro z w F hz
  have G : jm_G w 0 [some (.ref (jm_a E 0 0))] [] M (sM_sign M) (fun e => z (some (.int e)) M) := by
    unfold sM_sign
    refine jm_aload_n (i := 0) F dX9_sign_0 rfl rfl ?_
    refine jm_getI F dX9_sign_1 fl_X9_175 lo_X9 rfl ?_
    refine jm_aload_n (i := 0) F dX9_sign_4 rfl rfl ?_
    refine jm_getI F dX9_sign_5 fl_X9_169 lo_X9 rfl ?_
    refine jm_icmp_ge F dX9_sign_8 (fun c1 => ?_) (fun c1 => ?_)
    · refine jm_iconst F dX9_sign_23 kc_m1 ?_
      exact jm_iret F dX9_sign_24 (fun h => h)
    · refine jm_aload_n (i := 0) F dX9_sign_11 rfl rfl ?_
      refine jm_getR F dX9_sign_12 fl_X9_49 lo_X9 rfl ?_
      refine jm_aload_n (i := 0) F dX9_sign_15 rfl rfl ?_
      refine jm_getI F dX9_sign_16 fl_X9_175 lo_X9 rfl ?_
      refine jm_iald F dX9_sign_19 la_X9_19 (fun v2 => ?_)
      refine jm_goto F dX9_sign_20 ?_
      exact jm_iret F dX9_sign_24 (fun h => h)
  exact G r h hz
theorem dX9_number_0 : jm_d cX9_number 0 (.iconst 0) 1 1 := ⟨by decide +kernel, rfl⟩
theorem dX9_number_1 : jm_d cX9_number 1 (.istore_n 2) 1 2 := ⟨by decide +kernel, rfl⟩
theorem dX9_number_2 : jm_d cX9_number 2 (.iconst 0) 1 3 := ⟨by decide +kernel, rfl⟩
theorem dX9_number_3 : jm_d cX9_number 3 (.istore_n 3) 1 4 := ⟨by decide +kernel, rfl⟩
theorem dX9_number_4 : jm_d cX9_number 4 (.iload_n 3) 1 5 := ⟨by decide +kernel, rfl⟩
theorem dX9_number_5 : jm_d cX9_number 5 (.iload_n 1) 1 6 := ⟨by decide +kernel, rfl⟩
theorem dX9_number_6 : jm_b cX9_number 6 (.if_icmp .ge) 9 55 := ⟨49, by decide +kernel, rfl, by decide⟩
theorem dX9_number_9 : jm_d cX9_number 9 (.aload_n 0) 1 10 := ⟨by decide +kernel, rfl⟩
theorem dX9_number_10 : jm_d cX9_number 10 (.invokevirtual 178) 3 13 := ⟨by decide +kernel, rfl⟩
theorem dX9_number_13 : jm_d cX9_number 13 (.bipush 48) 2 15 := ⟨by decide +kernel, rfl⟩
theorem dX9_number_15 : jm_d cX9_number 15 (.bipush 57) 2 17 := ⟨by decide +kernel, rfl⟩
theorem dX9_number_17 : jm_d cX9_number 17 (.invokestatic 98) 3 20 := ⟨by decide +kernel, rfl⟩
theorem dX9_number_20 : jm_b cX9_number 20 (.ifCond .ne) 23 26 := ⟨6, by decide +kernel, rfl, by decide⟩
theorem dX9_number_23 : jm_d cX9_number 23 (.bipush (-9)) 2 25 := ⟨by decide +kernel, rfl⟩
theorem dX9_number_25 : jm_d cX9_number 25 (.ireturn) 1 26 := ⟨by decide +kernel, rfl⟩
theorem dX9_number_26 : jm_d cX9_number 26 (.bipush 10) 2 28 := ⟨by decide +kernel, rfl⟩
theorem dX9_number_28 : jm_d cX9_number 28 (.iload_n 2) 1 29 := ⟨by decide +kernel, rfl⟩
theorem dX9_number_29 : jm_d cX9_number 29 (.imul) 1 30 := ⟨by decide +kernel, rfl⟩
theorem dX9_number_30 : jm_d cX9_number 30 (.aload_n 0) 1 31 := ⟨by decide +kernel, rfl⟩
theorem dX9_number_31 : jm_d cX9_number 31 (.invokevirtual 178) 3 34 := ⟨by decide +kernel, rfl⟩
theorem dX9_number_34 : jm_d cX9_number 34 (.iadd) 1 35 := ⟨by decide +kernel, rfl⟩
theorem dX9_number_35 : jm_d cX9_number 35 (.bipush 48) 2 37 := ⟨by decide +kernel, rfl⟩
theorem dX9_number_37 : jm_d cX9_number 37 (.isub) 1 38 := ⟨by decide +kernel, rfl⟩
theorem dX9_number_38 : jm_d cX9_number 38 (.istore_n 2) 1 39 := ⟨by decide +kernel, rfl⟩
theorem dX9_number_39 : jm_d cX9_number 39 (.aload_n 0) 1 40 := ⟨by decide +kernel, rfl⟩
theorem dX9_number_40 : jm_d cX9_number 40 (.dup) 1 41 := ⟨by decide +kernel, rfl⟩
theorem dX9_number_41 : jm_d cX9_number 41 (.getfield 175) 3 44 := ⟨by decide +kernel, rfl⟩
theorem dX9_number_44 : jm_d cX9_number 44 (.iconst 1) 1 45 := ⟨by decide +kernel, rfl⟩
theorem dX9_number_45 : jm_d cX9_number 45 (.iadd) 1 46 := ⟨by decide +kernel, rfl⟩
theorem dX9_number_46 : jm_d cX9_number 46 (.putfield 175) 3 49 := ⟨by decide +kernel, rfl⟩
theorem dX9_number_49 : jm_d cX9_number 49 (.iinc 3 1) 3 52 := ⟨by decide +kernel, rfl⟩
theorem dX9_number_52 : jm_b cX9_number 52 .goto 55 4 := ⟨(-48), by decide +kernel, rfl, by decide⟩
theorem dX9_number_55 : jm_d cX9_number 55 (.iload_n 2) 1 56 := ⟨by decide +kernel, rfl⟩
theorem dX9_number_56 : jm_d cX9_number 56 (.ireturn) 1 57 := ⟨by decide +kernel, rfl⟩
set_option maxHeartbeats 4000000 in
set_option maxRecDepth 100000 in
theorem kM_number (E : jm_Ev) (hE : jm_dj E jm_LM) {M : jm_M} {p1 : Int32}  {r : Int32 × jm_M} (h : sM_number M p1 = some r) : jm_Ct E jm_LM yX9_number cX9_number 4 (some .int) 1 22 [.ref (jm_a E 0 0), .int p1] M (some (.int r.1)) r.2 := by
  refine jm_enter (lv := [some (.ref (jm_a E 0 0)), some (.int p1), none, none]) hE (by decide) (Nat.le_of_ble_eq_true rfl) rfl ?_
  intro z w F hz
  have G : jm_G w 0 [some (.ref (jm_a E 0 0)), some (.int p1), none, none] [] M (sM_number M p1) (fun e => z (some (.int e.1)) e.2) := by
    unfold sM_number
    refine jm_iconst F dX9_number_0 kc_0 ?_
    refine jm_istore_n (i := 2) (lv' := [some (.ref (jm_a E 0 0)), some (.int p1), some (.int 0), none]) F dX9_number_1 rfl (by decide) rfl rfl ?_
    refine jm_iconst F dX9_number_2 kc_0 ?_
    refine jm_istore_n (i := 3) (lv' := [some (.ref (jm_a E 0 0)), some (.int p1), some (.int 0), some (.int 0)]) F dX9_number_3 rfl (by decide) rfl rfl ?_
    refine jm_bindS (pcJ := 55) (lvJ := fun e9 => [none, none, some (.int e9.1), none]) (stJ := fun _ => []) (MJ := fun e9 => e9.2) ?_ (fun e9 => ?_)
    · refine jm_weak F (lv' := [some (.ref (jm_a E 0 0)), some (.int p1), some (.int 0), some (.int 0)]) ⟨rfl, rfl, rfl, rfl, trivial⟩ ?_
      refine jm_loopR (lvH := fun s1 => [some (.ref (jm_a E 0 0)), some (.int p1), some (.int s1.1), some (.int s1.2.1)]) (MH := fun s1 => s1.2.2) (fun s1 => ?_) jm_N (0, 0, M)
      unfold sM_number_L4
      refine jm_iload_n (i := 3) F dX9_number_4 rfl rfl ?_
      refine jm_iload_n (i := 1) F dX9_number_5 rfl rfl ?_
      refine jm_icmp_ge F dX9_number_6 (fun c2 => ?_) (fun c2 => ?_)
      · exact jm_weakD F (lv' := [none, none, some (.int s1.1), none]) ⟨rfl, trivial⟩ (fun h => h)
      · refine jm_aload_n (i := 0) F dX9_number_9 rfl rfl ?_
        refine jm_callV (As := []) (st := []) (rv := fun r => some (.int r)) (mm := fun _ => s1.2.2) F dX9_number_10 qX9_178 rfl lo_X9 rfl (fun r h => kM_sign E hE h) rfl (Nat.le_of_ble_eq_true rfl) ⟨Nat.le_of_ble_eq_true rfl, Nat.le_of_ble_eq_true rfl⟩ (fun r3 => ?_)
        refine jm_bipush F dX9_number_13 kb_48 ?_
        refine jm_bipush F dX9_number_15 kb_57 ?_
        refine jm_callS (As := [.int r3, .int 48, .int 57]) (st := []) (rv := fun r => some (.int r)) (mm := fun _ => s1.2.2) F dX9_number_17 qX9_98 rfl (fun r h => kM_isIn E hE h) rfl (Nat.le_of_ble_eq_true rfl) ⟨Nat.le_of_ble_eq_true rfl, Nat.le_of_ble_eq_true rfl⟩ (fun r4 => ?_)
        refine jm_if_ne F dX9_number_20 (fun c5 => ?_) (fun c5 => ?_)
        · refine jm_bipush F dX9_number_23 kb_m9 ?_
          exact jm_iret F dX9_number_25 (fun h => h)
        · refine jm_bipush F dX9_number_26 kb_10 ?_
          refine jm_iload_n (i := 2) F dX9_number_28 rfl rfl ?_
          refine jm_imul F dX9_number_29 ?_
          refine jm_aload_n (i := 0) F dX9_number_30 rfl rfl ?_
          refine jm_callV (As := []) (st := [.int (10 * s1.1)]) (rv := fun r => some (.int r)) (mm := fun _ => s1.2.2) F dX9_number_31 qX9_178 rfl lo_X9 rfl (fun r h => kM_sign E hE h) rfl (Nat.le_of_ble_eq_true rfl) ⟨Nat.le_of_ble_eq_true rfl, Nat.le_of_ble_eq_true rfl⟩ (fun r6 => ?_)
          refine jm_iadd F dX9_number_34 ?_
          refine jm_bipush F dX9_number_35 kb_48 ?_
          refine jm_isub F dX9_number_37 ?_
          refine jm_nameI (f := fun x7 => [.int x7]) (fun x7 => ?_) rfl
          refine jm_istore_n (i := 2) (lv' := [some (.ref (jm_a E 0 0)), some (.int p1), some (.int x7), some (.int s1.2.1)]) F dX9_number_38 rfl (by decide) rfl rfl ?_
          refine jm_aload_n (i := 0) F dX9_number_39 rfl rfl ?_
          refine jm_dup F dX9_number_40 rfl ?_
          refine jm_getI F dX9_number_41 fl_X9_175 lo_X9 rfl ?_
          refine jm_iconst F dX9_number_44 kc_1 ?_
          refine jm_iadd F dX9_number_45 ?_
          refine jm_putI F dX9_number_46 fp_X9_175 lo_X9 rfl (fun M8 => ?_)
          refine jm_iinc (i := 3) (lv' := [some (.ref (jm_a E 0 0)), some (.int p1), some (.int x7), some (.int (s1.2.1 + 1))]) F dX9_number_49 kc_1 rfl (by decide) rfl rfl ?_
          refine jm_goto F dX9_number_52 ?_
          exact jm_weakD F (lv' := [some (.ref (jm_a E 0 0)), some (.int p1), some (.int x7), some (.int (s1.2.1 + 1))]) ⟨rfl, rfl, rfl, rfl, trivial⟩ (fun h => h)
    · refine jm_iload_n (i := 2) F dX9_number_55 rfl rfl ?_
      exact jm_iret F dX9_number_56 (fun h => h)
  exact G r h hz
theorem dX9_readsDigits_0 : jm_d cX9_readsDigits 0 (.aload_n 0) 1 1 := ⟨by decide +kernel, rfl⟩
theorem dX9_readsDigits_1 : jm_d cX9_readsDigits 1 (.getfield 58) 3 4 := ⟨by decide +kernel, rfl⟩
theorem dX9_readsDigits_4 : jm_d cX9_readsDigits 4 (.aload_n 0) 1 5 := ⟨by decide +kernel, rfl⟩
theorem dX9_readsDigits_5 : jm_d cX9_readsDigits 5 (.getfield 182) 3 8 := ⟨by decide +kernel, rfl⟩
theorem dX9_readsDigits_8 : jm_d cX9_readsDigits 8 (.aload_n 0) 1 9 := ⟨by decide +kernel, rfl⟩
theorem dX9_readsDigits_9 : jm_d cX9_readsDigits 9 (.iload_n 1) 1 10 := ⟨by decide +kernel, rfl⟩
theorem dX9_readsDigits_10 : jm_d cX9_readsDigits 10 (.invokevirtual 185) 3 13 := ⟨by decide +kernel, rfl⟩
theorem dX9_readsDigits_13 : jm_d cX9_readsDigits 13 (.iastore) 1 14 := ⟨by decide +kernel, rfl⟩
theorem dX9_readsDigits_14 : jm_d cX9_readsDigits 14 (.aload_n 0) 1 15 := ⟨by decide +kernel, rfl⟩
theorem dX9_readsDigits_15 : jm_d cX9_readsDigits 15 (.dup) 1 16 := ⟨by decide +kernel, rfl⟩
theorem dX9_readsDigits_16 : jm_d cX9_readsDigits 16 (.getfield 182) 3 19 := ⟨by decide +kernel, rfl⟩
theorem dX9_readsDigits_19 : jm_d cX9_readsDigits 19 (.iconst 1) 1 20 := ⟨by decide +kernel, rfl⟩
theorem dX9_readsDigits_20 : jm_d cX9_readsDigits 20 (.iadd) 1 21 := ⟨by decide +kernel, rfl⟩
theorem dX9_readsDigits_21 : jm_d cX9_readsDigits 21 (.putfield 182) 3 24 := ⟨by decide +kernel, rfl⟩
theorem dX9_readsDigits_24 : jm_d cX9_readsDigits 24 (.aload_n 0) 1 25 := ⟨by decide +kernel, rfl⟩
theorem dX9_readsDigits_25 : jm_d cX9_readsDigits 25 (.getfield 58) 3 28 := ⟨by decide +kernel, rfl⟩
theorem dX9_readsDigits_28 : jm_d cX9_readsDigits 28 (.aload_n 0) 1 29 := ⟨by decide +kernel, rfl⟩
theorem dX9_readsDigits_29 : jm_d cX9_readsDigits 29 (.getfield 182) 3 32 := ⟨by decide +kernel, rfl⟩
theorem dX9_readsDigits_32 : jm_d cX9_readsDigits 32 (.iconst 1) 1 33 := ⟨by decide +kernel, rfl⟩
theorem dX9_readsDigits_33 : jm_d cX9_readsDigits 33 (.isub) 1 34 := ⟨by decide +kernel, rfl⟩
theorem dX9_readsDigits_34 : jm_d cX9_readsDigits 34 (.iaload) 1 35 := ⟨by decide +kernel, rfl⟩
theorem dX9_readsDigits_35 : jm_b cX9_readsDigits 35 (.ifCond .lt) 38 42 := ⟨7, by decide +kernel, rfl, by decide⟩
theorem dX9_readsDigits_42 : jm_d cX9_readsDigits 42 (.iconst 0) 1 43 := ⟨by decide +kernel, rfl⟩
theorem dX9_readsDigits_43 : jm_d cX9_readsDigits 43 (.ireturn) 1 44 := ⟨by decide +kernel, rfl⟩
theorem dX9_readsDigits_38 : jm_d cX9_readsDigits 38 (.iconst 1) 1 39 := ⟨by decide +kernel, rfl⟩
theorem dX9_readsDigits_39 : jm_b cX9_readsDigits 39 .goto 42 43 := ⟨4, by decide +kernel, rfl, by decide⟩
set_option maxHeartbeats 4000000 in
set_option maxRecDepth 100000 in
theorem kM_readsDigits (E : jm_Ev) (hE : jm_dj E jm_LM) {M : jm_M} {p1 : Int32}  {r : Int32 × jm_M} (h : sM_readsDigits M p1 = some r) : jm_Ct E jm_LM yX9_readsDigits cX9_readsDigits 2 (some .boolean) 2 45 [.ref (jm_a E 0 0), .int p1] M (some (.int r.1)) r.2 := by
  refine jm_enter (lv := [some (.ref (jm_a E 0 0)), some (.int p1)]) hE (by decide) (Nat.le_of_ble_eq_true rfl) rfl ?_
  intro z w F hz
  have G : jm_G w 0 [some (.ref (jm_a E 0 0)), some (.int p1)] [] M (sM_readsDigits M p1) (fun e => z (some (.int e.1)) e.2) := by
    unfold sM_readsDigits
    refine jm_aload_n (i := 0) F dX9_readsDigits_0 rfl rfl ?_
    refine jm_getR F dX9_readsDigits_1 fl_X9_58 lo_X9 rfl ?_
    refine jm_aload_n (i := 0) F dX9_readsDigits_4 rfl rfl ?_
    refine jm_getI F dX9_readsDigits_5 fl_X9_182 lo_X9 rfl ?_
    refine jm_aload_n (i := 0) F dX9_readsDigits_8 rfl rfl ?_
    refine jm_iload_n (i := 1) F dX9_readsDigits_9 rfl rfl ?_
    refine jm_callV (As := [.int p1]) (st := [.int (M 0 0 29), .ref (jm_a E 0 22)]) (rv := fun r => some (.int r.1)) (mm := fun r => r.2) F dX9_readsDigits_10 qX9_185 rfl lo_X9 rfl (fun r h => kM_number E hE h) rfl (Nat.le_of_ble_eq_true rfl) ⟨Nat.le_of_ble_eq_true rfl, Nat.le_of_ble_eq_true rfl⟩ (fun r1 => ?_)
    refine jm_iast F dX9_readsDigits_13 la_X9_22 (fun M2 => ?_)
    refine jm_aload_n (i := 0) F dX9_readsDigits_14 rfl rfl ?_
    refine jm_dup F dX9_readsDigits_15 rfl ?_
    refine jm_getI F dX9_readsDigits_16 fl_X9_182 lo_X9 rfl ?_
    refine jm_iconst F dX9_readsDigits_19 kc_1 ?_
    refine jm_iadd F dX9_readsDigits_20 ?_
    refine jm_putI F dX9_readsDigits_21 fp_X9_182 lo_X9 rfl (fun M3 => ?_)
    refine jm_aload_n (i := 0) F dX9_readsDigits_24 rfl rfl ?_
    refine jm_getR F dX9_readsDigits_25 fl_X9_58 lo_X9 rfl ?_
    refine jm_aload_n (i := 0) F dX9_readsDigits_28 rfl rfl ?_
    refine jm_getI F dX9_readsDigits_29 fl_X9_182 lo_X9 rfl ?_
    refine jm_iconst F dX9_readsDigits_32 kc_1 ?_
    refine jm_isub F dX9_readsDigits_33 ?_
    refine jm_iald F dX9_readsDigits_34 la_X9_22 (fun v4 => ?_)
    refine jm_if_lt F dX9_readsDigits_35 (fun c5 => ?_) (fun c5 => ?_)
    · refine jm_iconst F dX9_readsDigits_42 kc_0 ?_
      exact jm_zret F dX9_readsDigits_43 (Or.inl rfl) (fun h => h)
    · refine jm_iconst F dX9_readsDigits_38 kc_1 ?_
      refine jm_goto F dX9_readsDigits_39 ?_
      exact jm_zret F dX9_readsDigits_43 (Or.inr rfl) (fun h => h)
  exact G r h hz
theorem dX9_readsTitle_0 : jm_d cX9_readsTitle 0 (.aload_n 0) 1 1 := ⟨by decide +kernel, rfl⟩
theorem dX9_readsTitle_1 : jm_d cX9_readsTitle 1 (.getfield 61) 3 4 := ⟨by decide +kernel, rfl⟩
theorem dX9_readsTitle_4 : jm_d cX9_readsTitle 4 (.aload_n 0) 1 5 := ⟨by decide +kernel, rfl⟩
theorem dX9_readsTitle_5 : jm_d cX9_readsTitle 5 (.getfield 188) 3 8 := ⟨by decide +kernel, rfl⟩
theorem dX9_readsTitle_8 : jm_d cX9_readsTitle 8 (.aload_n 0) 1 9 := ⟨by decide +kernel, rfl⟩
theorem dX9_readsTitle_9 : jm_d cX9_readsTitle 9 (.getfield 175) 3 12 := ⟨by decide +kernel, rfl⟩
theorem dX9_readsTitle_12 : jm_d cX9_readsTitle 12 (.iastore) 1 13 := ⟨by decide +kernel, rfl⟩
theorem dX9_readsTitle_13 : jm_d cX9_readsTitle 13 (.aload_n 0) 1 14 := ⟨by decide +kernel, rfl⟩
theorem dX9_readsTitle_14 : jm_d cX9_readsTitle 14 (.invokevirtual 178) 3 17 := ⟨by decide +kernel, rfl⟩
theorem dX9_readsTitle_17 : jm_d cX9_readsTitle 17 (.bipush 97) 2 19 := ⟨by decide +kernel, rfl⟩
theorem dX9_readsTitle_19 : jm_d cX9_readsTitle 19 (.bipush 122) 2 21 := ⟨by decide +kernel, rfl⟩
theorem dX9_readsTitle_21 : jm_d cX9_readsTitle 21 (.invokestatic 98) 3 24 := ⟨by decide +kernel, rfl⟩
theorem dX9_readsTitle_24 : jm_b cX9_readsTitle 24 (.ifCond .eq) 27 40 := ⟨16, by decide +kernel, rfl, by decide⟩
theorem dX9_readsTitle_27 : jm_d cX9_readsTitle 27 (.aload_n 0) 1 28 := ⟨by decide +kernel, rfl⟩
theorem dX9_readsTitle_28 : jm_d cX9_readsTitle 28 (.dup) 1 29 := ⟨by decide +kernel, rfl⟩
theorem dX9_readsTitle_29 : jm_d cX9_readsTitle 29 (.getfield 175) 3 32 := ⟨by decide +kernel, rfl⟩
theorem dX9_readsTitle_32 : jm_d cX9_readsTitle 32 (.iconst 1) 1 33 := ⟨by decide +kernel, rfl⟩
theorem dX9_readsTitle_33 : jm_d cX9_readsTitle 33 (.iadd) 1 34 := ⟨by decide +kernel, rfl⟩
theorem dX9_readsTitle_34 : jm_d cX9_readsTitle 34 (.putfield 175) 3 37 := ⟨by decide +kernel, rfl⟩
theorem dX9_readsTitle_37 : jm_b cX9_readsTitle 37 .goto 40 13 := ⟨(-24), by decide +kernel, rfl, by decide⟩
theorem dX9_readsTitle_40 : jm_d cX9_readsTitle 40 (.aload_n 0) 1 41 := ⟨by decide +kernel, rfl⟩
theorem dX9_readsTitle_41 : jm_d cX9_readsTitle 41 (.getfield 64) 3 44 := ⟨by decide +kernel, rfl⟩
theorem dX9_readsTitle_44 : jm_d cX9_readsTitle 44 (.aload_n 0) 1 45 := ⟨by decide +kernel, rfl⟩
theorem dX9_readsTitle_45 : jm_d cX9_readsTitle 45 (.getfield 188) 3 48 := ⟨by decide +kernel, rfl⟩
theorem dX9_readsTitle_48 : jm_d cX9_readsTitle 48 (.aload_n 0) 1 49 := ⟨by decide +kernel, rfl⟩
theorem dX9_readsTitle_49 : jm_d cX9_readsTitle 49 (.getfield 175) 3 52 := ⟨by decide +kernel, rfl⟩
theorem dX9_readsTitle_52 : jm_d cX9_readsTitle 52 (.aload_n 0) 1 53 := ⟨by decide +kernel, rfl⟩
theorem dX9_readsTitle_53 : jm_d cX9_readsTitle 53 (.getfield 61) 3 56 := ⟨by decide +kernel, rfl⟩
theorem dX9_readsTitle_56 : jm_d cX9_readsTitle 56 (.aload_n 0) 1 57 := ⟨by decide +kernel, rfl⟩
theorem dX9_readsTitle_57 : jm_d cX9_readsTitle 57 (.getfield 188) 3 60 := ⟨by decide +kernel, rfl⟩
theorem dX9_readsTitle_60 : jm_d cX9_readsTitle 60 (.iaload) 1 61 := ⟨by decide +kernel, rfl⟩
theorem dX9_readsTitle_61 : jm_d cX9_readsTitle 61 (.isub) 1 62 := ⟨by decide +kernel, rfl⟩
theorem dX9_readsTitle_62 : jm_d cX9_readsTitle 62 (.iastore) 1 63 := ⟨by decide +kernel, rfl⟩
theorem dX9_readsTitle_63 : jm_d cX9_readsTitle 63 (.aload_n 0) 1 64 := ⟨by decide +kernel, rfl⟩
theorem dX9_readsTitle_64 : jm_d cX9_readsTitle 64 (.getfield 64) 3 67 := ⟨by decide +kernel, rfl⟩
theorem dX9_readsTitle_67 : jm_d cX9_readsTitle 67 (.aload_n 0) 1 68 := ⟨by decide +kernel, rfl⟩
theorem dX9_readsTitle_68 : jm_d cX9_readsTitle 68 (.getfield 188) 3 71 := ⟨by decide +kernel, rfl⟩
theorem dX9_readsTitle_71 : jm_d cX9_readsTitle 71 (.iaload) 1 72 := ⟨by decide +kernel, rfl⟩
theorem dX9_readsTitle_72 : jm_b cX9_readsTitle 72 (.ifCond .le) 75 79 := ⟨7, by decide +kernel, rfl, by decide⟩
theorem dX9_readsTitle_79 : jm_d cX9_readsTitle 79 (.iconst 0) 1 80 := ⟨by decide +kernel, rfl⟩
theorem dX9_readsTitle_80 : jm_d cX9_readsTitle 80 (.ireturn) 1 81 := ⟨by decide +kernel, rfl⟩
theorem dX9_readsTitle_75 : jm_d cX9_readsTitle 75 (.iconst 1) 1 76 := ⟨by decide +kernel, rfl⟩
theorem dX9_readsTitle_76 : jm_b cX9_readsTitle 76 .goto 79 80 := ⟨4, by decide +kernel, rfl, by decide⟩
set_option maxHeartbeats 4000000 in
set_option maxRecDepth 100000 in
theorem kM_readsTitle (E : jm_Ev) (hE : jm_dj E jm_LM) {M : jm_M}  {r : Int32 × jm_M} (h : sM_readsTitle M = some r) : jm_Ct E jm_LM yX9_readsTitle cX9_readsTitle 1 (some .boolean) 1 22 [.ref (jm_a E 0 0)] M (some (.int r.1)) r.2 := by
  refine jm_enter (lv := [some (.ref (jm_a E 0 0))]) hE (by decide) (Nat.le_of_ble_eq_true rfl) rfl ?_
  intro z w F hz
  have G : jm_G w 0 [some (.ref (jm_a E 0 0))] [] M (sM_readsTitle M) (fun e => z (some (.int e.1)) e.2) := by
    unfold sM_readsTitle
    refine jm_aload_n (i := 0) F dX9_readsTitle_0 rfl rfl ?_
    refine jm_getR F dX9_readsTitle_1 fl_X9_61 lo_X9 rfl ?_
    refine jm_aload_n (i := 0) F dX9_readsTitle_4 rfl rfl ?_
    refine jm_getI F dX9_readsTitle_5 fl_X9_188 lo_X9 rfl ?_
    refine jm_aload_n (i := 0) F dX9_readsTitle_8 rfl rfl ?_
    refine jm_getI F dX9_readsTitle_9 fl_X9_175 lo_X9 rfl ?_
    refine jm_iast F dX9_readsTitle_12 la_X9_23 (fun M1 => ?_)
    refine jm_bind (pcJ := 40) (lvJ := fun e7 => [some (.ref (jm_a E 0 0))]) (stJ := fun _ => []) (MJ := fun e7 => e7) ?_ (fun e7 => ?_)
    · refine jm_weak F (lv' := [some (.ref (jm_a E 0 0))]) ⟨rfl, trivial⟩ ?_
      refine jm_loopR (lvH := fun s2 => [some (.ref (jm_a E 0 0))]) (MH := fun s2 => s2) (fun s2 => ?_) jm_N M1
      unfold sM_readsTitle_L13
      refine jm_aload_n (i := 0) F dX9_readsTitle_13 rfl rfl ?_
      refine jm_callV (As := []) (st := []) (rv := fun r => some (.int r)) (mm := fun _ => s2) F dX9_readsTitle_14 qX9_178 rfl lo_X9 rfl (fun r h => kM_sign E hE h) rfl (Nat.le_of_ble_eq_true rfl) ⟨Nat.le_of_ble_eq_true rfl, Nat.le_of_ble_eq_true rfl⟩ (fun r3 => ?_)
      refine jm_bipush F dX9_readsTitle_17 kb_97 ?_
      refine jm_bipush F dX9_readsTitle_19 kb_122 ?_
      refine jm_callS (As := [.int r3, .int 97, .int 122]) (st := []) (rv := fun r => some (.int r)) (mm := fun _ => s2) F dX9_readsTitle_21 qX9_98 rfl (fun r h => kM_isIn E hE h) rfl (Nat.le_of_ble_eq_true rfl) ⟨Nat.le_of_ble_eq_true rfl, Nat.le_of_ble_eq_true rfl⟩ (fun r4 => ?_)
      refine jm_if_eq F dX9_readsTitle_24 (fun c5 => ?_) (fun c5 => ?_)
      · exact jm_weakD F (lv' := [some (.ref (jm_a E 0 0))]) ⟨rfl, trivial⟩ (fun h => h)
      · refine jm_aload_n (i := 0) F dX9_readsTitle_27 rfl rfl ?_
        refine jm_dup F dX9_readsTitle_28 rfl ?_
        refine jm_getI F dX9_readsTitle_29 fl_X9_175 lo_X9 rfl ?_
        refine jm_iconst F dX9_readsTitle_32 kc_1 ?_
        refine jm_iadd F dX9_readsTitle_33 ?_
        refine jm_putI F dX9_readsTitle_34 fp_X9_175 lo_X9 rfl (fun M6 => ?_)
        refine jm_goto F dX9_readsTitle_37 ?_
        exact jm_weakD F (lv' := [some (.ref (jm_a E 0 0))]) ⟨rfl, trivial⟩ (fun h => h)
    · refine jm_aload_n (i := 0) F dX9_readsTitle_40 rfl rfl ?_
      refine jm_getR F dX9_readsTitle_41 fl_X9_64 lo_X9 rfl ?_
      refine jm_aload_n (i := 0) F dX9_readsTitle_44 rfl rfl ?_
      refine jm_getI F dX9_readsTitle_45 fl_X9_188 lo_X9 rfl ?_
      refine jm_aload_n (i := 0) F dX9_readsTitle_48 rfl rfl ?_
      refine jm_getI F dX9_readsTitle_49 fl_X9_175 lo_X9 rfl ?_
      refine jm_aload_n (i := 0) F dX9_readsTitle_52 rfl rfl ?_
      refine jm_getR F dX9_readsTitle_53 fl_X9_61 lo_X9 rfl ?_
      refine jm_aload_n (i := 0) F dX9_readsTitle_56 rfl rfl ?_
      refine jm_getI F dX9_readsTitle_57 fl_X9_188 lo_X9 rfl ?_
      refine jm_iald F dX9_readsTitle_60 la_X9_23 (fun v8 => ?_)
      refine jm_isub F dX9_readsTitle_61 ?_
      refine jm_iast F dX9_readsTitle_62 la_X9_24 (fun M9 => ?_)
      refine jm_aload_n (i := 0) F dX9_readsTitle_63 rfl rfl ?_
      refine jm_getR F dX9_readsTitle_64 fl_X9_64 lo_X9 rfl ?_
      refine jm_aload_n (i := 0) F dX9_readsTitle_67 rfl rfl ?_
      refine jm_getI F dX9_readsTitle_68 fl_X9_188 lo_X9 rfl ?_
      refine jm_iald F dX9_readsTitle_71 la_X9_24 (fun v10 => ?_)
      refine jm_if_le F dX9_readsTitle_72 (fun c11 => ?_) (fun c11 => ?_)
      · refine jm_iconst F dX9_readsTitle_79 kc_0 ?_
        exact jm_zret F dX9_readsTitle_80 (Or.inl rfl) (fun h => h)
      · refine jm_iconst F dX9_readsTitle_75 kc_1 ?_
        refine jm_goto F dX9_readsTitle_76 ?_
        exact jm_zret F dX9_readsTitle_80 (Or.inr rfl) (fun h => h)
  exact G r h hz
theorem dX9_stepOf_0 : jm_d cX9_stepOf 0 (.iload_n 0) 1 1 := ⟨by decide +kernel, rfl⟩
theorem dX9_stepOf_1 : decode cX9_stepOf 1 = .ok (.tableswitch 117 97 117 #[99, 117, 103, 107, 117, 117, 117, 111, 117, 117, 117, 101, 117, 117, 114, 117, 117, 117, 117, 105, 109], 99) := by decide +kernel
theorem dX9_stepOf_100 : jm_d cX9_stepOf 100 (.iconst 0) 1 101 := ⟨by decide +kernel, rfl⟩
theorem dX9_stepOf_101 : jm_d cX9_stepOf 101 (.ireturn) 1 102 := ⟨by decide +kernel, rfl⟩
theorem dX9_stepOf_118 : jm_d cX9_stepOf 118 (.bipush (-9)) 2 120 := ⟨by decide +kernel, rfl⟩
theorem dX9_stepOf_120 : jm_d cX9_stepOf 120 (.ireturn) 1 121 := ⟨by decide +kernel, rfl⟩
theorem dX9_stepOf_104 : jm_d cX9_stepOf 104 (.iconst 2) 1 105 := ⟨by decide +kernel, rfl⟩
theorem dX9_stepOf_105 : jm_d cX9_stepOf 105 (.ireturn) 1 106 := ⟨by decide +kernel, rfl⟩
theorem dX9_stepOf_108 : jm_d cX9_stepOf 108 (.iconst 4) 1 109 := ⟨by decide +kernel, rfl⟩
theorem dX9_stepOf_109 : jm_d cX9_stepOf 109 (.ireturn) 1 110 := ⟨by decide +kernel, rfl⟩
theorem dX9_stepOf_112 : jm_d cX9_stepOf 112 (.bipush 6) 2 114 := ⟨by decide +kernel, rfl⟩
theorem dX9_stepOf_114 : jm_d cX9_stepOf 114 (.ireturn) 1 115 := ⟨by decide +kernel, rfl⟩
theorem dX9_stepOf_102 : jm_d cX9_stepOf 102 (.iconst 1) 1 103 := ⟨by decide +kernel, rfl⟩
theorem dX9_stepOf_103 : jm_d cX9_stepOf 103 (.ireturn) 1 104 := ⟨by decide +kernel, rfl⟩
theorem dX9_stepOf_115 : jm_d cX9_stepOf 115 (.bipush 7) 2 117 := ⟨by decide +kernel, rfl⟩
theorem dX9_stepOf_117 : jm_d cX9_stepOf 117 (.ireturn) 1 118 := ⟨by decide +kernel, rfl⟩
theorem dX9_stepOf_106 : jm_d cX9_stepOf 106 (.iconst 3) 1 107 := ⟨by decide +kernel, rfl⟩
theorem dX9_stepOf_107 : jm_d cX9_stepOf 107 (.ireturn) 1 108 := ⟨by decide +kernel, rfl⟩
theorem dX9_stepOf_110 : jm_d cX9_stepOf 110 (.iconst 5) 1 111 := ⟨by decide +kernel, rfl⟩
theorem dX9_stepOf_111 : jm_d cX9_stepOf 111 (.ireturn) 1 112 := ⟨by decide +kernel, rfl⟩
set_option maxHeartbeats 4000000 in
set_option maxRecDepth 100000 in
theorem kM_stepOf (E : jm_Ev) (hE : jm_dj E jm_LM) {p1 : Int32} {M : jm_M}  {r : Int32} (h : sM_stepOf p1 = some r) : jm_Ct E jm_LM yX9_stepOf cX9_stepOf 1 (some .int) 0 0 [.int p1] M (some (.int r)) M := by
  refine jm_enter (lv := [some (.int p1)]) hE (by decide) (Nat.le_of_ble_eq_true rfl) rfl ?_
  intro z w F hz
  have G : jm_G w 0 [some (.int p1)] [] M (sM_stepOf p1) (fun e => z (some (.int e)) M) := by
    unfold sM_stepOf
    refine jm_iload_n (i := 0) F dX9_stepOf_0 rfl rfl ?_
    refine jm_ite (fun c1 => ?_) (fun c1 => ?_)
    · refine jm_tsw (tgt := 100) F dX9_stepOf_1 c1 (by decide) (by decide) rfl (by decide) ?_
      refine jm_iconst F dX9_stepOf_100 kc_0 ?_
      exact jm_iret F dX9_stepOf_101 (fun h => h)
    · refine jm_ite (fun c2 => ?_) (fun c2 => ?_)
      · refine jm_tsw (tgt := 118) F dX9_stepOf_1 c2 (by decide) (by decide) rfl (by decide) ?_
        refine jm_bipush F dX9_stepOf_118 kb_m9 ?_
        exact jm_iret F dX9_stepOf_120 (fun h => h)
      · refine jm_ite (fun c3 => ?_) (fun c3 => ?_)
        · refine jm_tsw (tgt := 104) F dX9_stepOf_1 c3 (by decide) (by decide) rfl (by decide) ?_
          refine jm_iconst F dX9_stepOf_104 kc_2 ?_
          exact jm_iret F dX9_stepOf_105 (fun h => h)
        · refine jm_ite (fun c4 => ?_) (fun c4 => ?_)
          · refine jm_tsw (tgt := 108) F dX9_stepOf_1 c4 (by decide) (by decide) rfl (by decide) ?_
            refine jm_iconst F dX9_stepOf_108 kc_4 ?_
            exact jm_iret F dX9_stepOf_109 (fun h => h)
          · refine jm_ite (fun c5 => ?_) (fun c5 => ?_)
            · refine jm_tsw (tgt := 118) F dX9_stepOf_1 c5 (by decide) (by decide) rfl (by decide) ?_
              refine jm_bipush F dX9_stepOf_118 kb_m9 ?_
              exact jm_iret F dX9_stepOf_120 (fun h => h)
            · refine jm_ite (fun c6 => ?_) (fun c6 => ?_)
              · refine jm_tsw (tgt := 118) F dX9_stepOf_1 c6 (by decide) (by decide) rfl (by decide) ?_
                refine jm_bipush F dX9_stepOf_118 kb_m9 ?_
                exact jm_iret F dX9_stepOf_120 (fun h => h)
              · refine jm_ite (fun c7 => ?_) (fun c7 => ?_)
                · refine jm_tsw (tgt := 118) F dX9_stepOf_1 c7 (by decide) (by decide) rfl (by decide) ?_
                  refine jm_bipush F dX9_stepOf_118 kb_m9 ?_
                  exact jm_iret F dX9_stepOf_120 (fun h => h)
                · refine jm_ite (fun c8 => ?_) (fun c8 => ?_)
                  · refine jm_tsw (tgt := 112) F dX9_stepOf_1 c8 (by decide) (by decide) rfl (by decide) ?_
                    refine jm_bipush F dX9_stepOf_112 kb_6 ?_
                    exact jm_iret F dX9_stepOf_114 (fun h => h)
                  · refine jm_ite (fun c9 => ?_) (fun c9 => ?_)
                    · refine jm_tsw (tgt := 118) F dX9_stepOf_1 c9 (by decide) (by decide) rfl (by decide) ?_
                      refine jm_bipush F dX9_stepOf_118 kb_m9 ?_
                      exact jm_iret F dX9_stepOf_120 (fun h => h)
                    · refine jm_ite (fun c10 => ?_) (fun c10 => ?_)
                      · refine jm_tsw (tgt := 118) F dX9_stepOf_1 c10 (by decide) (by decide) rfl (by decide) ?_
                        refine jm_bipush F dX9_stepOf_118 kb_m9 ?_
                        exact jm_iret F dX9_stepOf_120 (fun h => h)
                      · refine jm_ite (fun c11 => ?_) (fun c11 => ?_)
                        · refine jm_tsw (tgt := 118) F dX9_stepOf_1 c11 (by decide) (by decide) rfl (by decide) ?_
                          refine jm_bipush F dX9_stepOf_118 kb_m9 ?_
                          exact jm_iret F dX9_stepOf_120 (fun h => h)
                        · refine jm_ite (fun c12 => ?_) (fun c12 => ?_)
                          · refine jm_tsw (tgt := 102) F dX9_stepOf_1 c12 (by decide) (by decide) rfl (by decide) ?_
                            refine jm_iconst F dX9_stepOf_102 kc_1 ?_
                            exact jm_iret F dX9_stepOf_103 (fun h => h)
                          · refine jm_ite (fun c13 => ?_) (fun c13 => ?_)
                            · refine jm_tsw (tgt := 118) F dX9_stepOf_1 c13 (by decide) (by decide) rfl (by decide) ?_
                              refine jm_bipush F dX9_stepOf_118 kb_m9 ?_
                              exact jm_iret F dX9_stepOf_120 (fun h => h)
                            · refine jm_ite (fun c14 => ?_) (fun c14 => ?_)
                              · refine jm_tsw (tgt := 118) F dX9_stepOf_1 c14 (by decide) (by decide) rfl (by decide) ?_
                                refine jm_bipush F dX9_stepOf_118 kb_m9 ?_
                                exact jm_iret F dX9_stepOf_120 (fun h => h)
                              · refine jm_ite (fun c15 => ?_) (fun c15 => ?_)
                                · refine jm_tsw (tgt := 115) F dX9_stepOf_1 c15 (by decide) (by decide) rfl (by decide) ?_
                                  refine jm_bipush F dX9_stepOf_115 kb_7 ?_
                                  exact jm_iret F dX9_stepOf_117 (fun h => h)
                                · refine jm_ite (fun c16 => ?_) (fun c16 => ?_)
                                  · refine jm_tsw (tgt := 118) F dX9_stepOf_1 c16 (by decide) (by decide) rfl (by decide) ?_
                                    refine jm_bipush F dX9_stepOf_118 kb_m9 ?_
                                    exact jm_iret F dX9_stepOf_120 (fun h => h)
                                  · refine jm_ite (fun c17 => ?_) (fun c17 => ?_)
                                    · refine jm_tsw (tgt := 118) F dX9_stepOf_1 c17 (by decide) (by decide) rfl (by decide) ?_
                                      refine jm_bipush F dX9_stepOf_118 kb_m9 ?_
                                      exact jm_iret F dX9_stepOf_120 (fun h => h)
                                    · refine jm_ite (fun c18 => ?_) (fun c18 => ?_)
                                      · refine jm_tsw (tgt := 118) F dX9_stepOf_1 c18 (by decide) (by decide) rfl (by decide) ?_
                                        refine jm_bipush F dX9_stepOf_118 kb_m9 ?_
                                        exact jm_iret F dX9_stepOf_120 (fun h => h)
                                      · refine jm_ite (fun c19 => ?_) (fun c19 => ?_)
                                        · refine jm_tsw (tgt := 118) F dX9_stepOf_1 c19 (by decide) (by decide) rfl (by decide) ?_
                                          refine jm_bipush F dX9_stepOf_118 kb_m9 ?_
                                          exact jm_iret F dX9_stepOf_120 (fun h => h)
                                        · refine jm_ite (fun c20 => ?_) (fun c20 => ?_)
                                          · refine jm_tsw (tgt := 106) F dX9_stepOf_1 c20 (by decide) (by decide) rfl (by decide) ?_
                                            refine jm_iconst F dX9_stepOf_106 kc_3 ?_
                                            exact jm_iret F dX9_stepOf_107 (fun h => h)
                                          · refine jm_ite (fun c21 => ?_) (fun c21 => ?_)
                                            · refine jm_tsw (tgt := 110) F dX9_stepOf_1 c21 (by decide) (by decide) rfl (by decide) ?_
                                              refine jm_iconst F dX9_stepOf_110 kc_5 ?_
                                              exact jm_iret F dX9_stepOf_111 (fun h => h)
                                            · refine jm_tsd (tgt := 118) F dX9_stepOf_1 (by
                                                  have e0 := jm_ne c1 (a := 97) (by decide)
                                                  have e1 := jm_ne c2 (a := 98) (by decide)
                                                  have e2 := jm_ne c3 (a := 99) (by decide)
                                                  have e3 := jm_ne c4 (a := 100) (by decide)
                                                  have e4 := jm_ne c5 (a := 101) (by decide)
                                                  have e5 := jm_ne c6 (a := 102) (by decide)
                                                  have e6 := jm_ne c7 (a := 103) (by decide)
                                                  have e7 := jm_ne c8 (a := 104) (by decide)
                                                  have e8 := jm_ne c9 (a := 105) (by decide)
                                                  have e9 := jm_ne c10 (a := 106) (by decide)
                                                  have e10 := jm_ne c11 (a := 107) (by decide)
                                                  have e11 := jm_ne c12 (a := 108) (by decide)
                                                  have e12 := jm_ne c13 (a := 109) (by decide)
                                                  have e13 := jm_ne c14 (a := 110) (by decide)
                                                  have e14 := jm_ne c15 (a := 111) (by decide)
                                                  have e15 := jm_ne c16 (a := 112) (by decide)
                                                  have e16 := jm_ne c17 (a := 113) (by decide)
                                                  have e17 := jm_ne c18 (a := 114) (by decide)
                                                  have e18 := jm_ne c19 (a := 115) (by decide)
                                                  have e19 := jm_ne c20 (a := 116) (by decide)
                                                  have e20 := jm_ne c21 (a := 117) (by decide)
                                                  omega) (by decide) ?_
                                              refine jm_bipush F dX9_stepOf_118 kb_m9 ?_
                                              exact jm_iret F dX9_stepOf_120 (fun h => h)
  exact G r h hz
theorem dX9_readsSteps_0 : jm_d cX9_readsSteps 0 (.aload_n 0) 1 1 := ⟨by decide +kernel, rfl⟩
theorem dX9_readsSteps_1 : jm_d cX9_readsSteps 1 (.getfield 61) 3 4 := ⟨by decide +kernel, rfl⟩
theorem dX9_readsSteps_4 : jm_d cX9_readsSteps 4 (.aload_n 0) 1 5 := ⟨by decide +kernel, rfl⟩
theorem dX9_readsSteps_5 : jm_d cX9_readsSteps 5 (.getfield 188) 3 8 := ⟨by decide +kernel, rfl⟩
theorem dX9_readsSteps_8 : jm_d cX9_readsSteps 8 (.aload_n 0) 1 9 := ⟨by decide +kernel, rfl⟩
theorem dX9_readsSteps_9 : jm_d cX9_readsSteps 9 (.getfield 191) 3 12 := ⟨by decide +kernel, rfl⟩
theorem dX9_readsSteps_12 : jm_d cX9_readsSteps 12 (.iastore) 1 13 := ⟨by decide +kernel, rfl⟩
theorem dX9_readsSteps_13 : jm_d cX9_readsSteps 13 (.iconst 0) 1 14 := ⟨by decide +kernel, rfl⟩
theorem dX9_readsSteps_14 : jm_d cX9_readsSteps 14 (.istore_n 1) 1 15 := ⟨by decide +kernel, rfl⟩
theorem dX9_readsSteps_15 : jm_d cX9_readsSteps 15 (.aload_n 0) 1 16 := ⟨by decide +kernel, rfl⟩
theorem dX9_readsSteps_16 : jm_d cX9_readsSteps 16 (.invokevirtual 178) 3 19 := ⟨by decide +kernel, rfl⟩
theorem dX9_readsSteps_19 : jm_d cX9_readsSteps 19 (.invokestatic 194) 3 22 := ⟨by decide +kernel, rfl⟩
theorem dX9_readsSteps_22 : jm_b cX9_readsSteps 22 (.ifCond .lt) 25 101 := ⟨79, by decide +kernel, rfl, by decide⟩
theorem dX9_readsSteps_25 : jm_d cX9_readsSteps 25 (.iload_n 1) 1 26 := ⟨by decide +kernel, rfl⟩
theorem dX9_readsSteps_26 : jm_b cX9_readsSteps 26 (.ifCond .lt) 29 101 := ⟨75, by decide +kernel, rfl, by decide⟩
theorem dX9_readsSteps_29 : jm_d cX9_readsSteps 29 (.aload_n 0) 1 30 := ⟨by decide +kernel, rfl⟩
theorem dX9_readsSteps_30 : jm_d cX9_readsSteps 30 (.getfield 67) 3 33 := ⟨by decide +kernel, rfl⟩
theorem dX9_readsSteps_33 : jm_d cX9_readsSteps 33 (.aload_n 0) 1 34 := ⟨by decide +kernel, rfl⟩
theorem dX9_readsSteps_34 : jm_d cX9_readsSteps 34 (.getfield 191) 3 37 := ⟨by decide +kernel, rfl⟩
theorem dX9_readsSteps_37 : jm_d cX9_readsSteps 37 (.aload_n 0) 1 38 := ⟨by decide +kernel, rfl⟩
theorem dX9_readsSteps_38 : jm_d cX9_readsSteps 38 (.invokevirtual 178) 3 41 := ⟨by decide +kernel, rfl⟩
theorem dX9_readsSteps_41 : jm_d cX9_readsSteps 41 (.invokestatic 194) 3 44 := ⟨by decide +kernel, rfl⟩
theorem dX9_readsSteps_44 : jm_d cX9_readsSteps 44 (.iastore) 1 45 := ⟨by decide +kernel, rfl⟩
theorem dX9_readsSteps_45 : jm_d cX9_readsSteps 45 (.aload_n 0) 1 46 := ⟨by decide +kernel, rfl⟩
theorem dX9_readsSteps_46 : jm_d cX9_readsSteps 46 (.dup) 1 47 := ⟨by decide +kernel, rfl⟩
theorem dX9_readsSteps_47 : jm_d cX9_readsSteps 47 (.getfield 175) 3 50 := ⟨by decide +kernel, rfl⟩
theorem dX9_readsSteps_50 : jm_d cX9_readsSteps 50 (.iconst 1) 1 51 := ⟨by decide +kernel, rfl⟩
theorem dX9_readsSteps_51 : jm_d cX9_readsSteps 51 (.iadd) 1 52 := ⟨by decide +kernel, rfl⟩
theorem dX9_readsSteps_52 : jm_d cX9_readsSteps 52 (.putfield 175) 3 55 := ⟨by decide +kernel, rfl⟩
theorem dX9_readsSteps_55 : jm_d cX9_readsSteps 55 (.aload_n 0) 1 56 := ⟨by decide +kernel, rfl⟩
theorem dX9_readsSteps_56 : jm_d cX9_readsSteps 56 (.getfield 67) 3 59 := ⟨by decide +kernel, rfl⟩
theorem dX9_readsSteps_59 : jm_d cX9_readsSteps 59 (.aload_n 0) 1 60 := ⟨by decide +kernel, rfl⟩
theorem dX9_readsSteps_60 : jm_d cX9_readsSteps 60 (.getfield 191) 3 63 := ⟨by decide +kernel, rfl⟩
theorem dX9_readsSteps_63 : jm_d cX9_readsSteps 63 (.iaload) 1 64 := ⟨by decide +kernel, rfl⟩
theorem dX9_readsSteps_64 : jm_d cX9_readsSteps 64 (.iconst 4) 1 65 := ⟨by decide +kernel, rfl⟩
theorem dX9_readsSteps_65 : jm_b cX9_readsSteps 65 (.if_icmp .ge) 68 76 := ⟨11, by decide +kernel, rfl, by decide⟩
theorem dX9_readsSteps_76 : jm_d cX9_readsSteps 76 (.iconst 0) 1 77 := ⟨by decide +kernel, rfl⟩
theorem dX9_readsSteps_68 : jm_d cX9_readsSteps 68 (.aload_n 0) 1 69 := ⟨by decide +kernel, rfl⟩
theorem dX9_readsSteps_69 : jm_d cX9_readsSteps 69 (.iconst 2) 1 70 := ⟨by decide +kernel, rfl⟩
theorem dX9_readsSteps_70 : jm_d cX9_readsSteps 70 (.invokevirtual 185) 3 73 := ⟨by decide +kernel, rfl⟩
theorem dX9_readsSteps_73 : jm_b cX9_readsSteps 73 .goto 76 77 := ⟨4, by decide +kernel, rfl, by decide⟩
theorem dX9_readsSteps_77 : jm_d cX9_readsSteps 77 (.istore_n 1) 1 78 := ⟨by decide +kernel, rfl⟩
theorem dX9_readsSteps_78 : jm_d cX9_readsSteps 78 (.aload_n 0) 1 79 := ⟨by decide +kernel, rfl⟩
theorem dX9_readsSteps_79 : jm_d cX9_readsSteps 79 (.getfield 70) 3 82 := ⟨by decide +kernel, rfl⟩
theorem dX9_readsSteps_82 : jm_d cX9_readsSteps 82 (.aload_n 0) 1 83 := ⟨by decide +kernel, rfl⟩
theorem dX9_readsSteps_83 : jm_d cX9_readsSteps 83 (.getfield 191) 3 86 := ⟨by decide +kernel, rfl⟩
theorem dX9_readsSteps_86 : jm_d cX9_readsSteps 86 (.iload_n 1) 1 87 := ⟨by decide +kernel, rfl⟩
theorem dX9_readsSteps_87 : jm_d cX9_readsSteps 87 (.iastore) 1 88 := ⟨by decide +kernel, rfl⟩
theorem dX9_readsSteps_88 : jm_d cX9_readsSteps 88 (.aload_n 0) 1 89 := ⟨by decide +kernel, rfl⟩
theorem dX9_readsSteps_89 : jm_d cX9_readsSteps 89 (.dup) 1 90 := ⟨by decide +kernel, rfl⟩
theorem dX9_readsSteps_90 : jm_d cX9_readsSteps 90 (.getfield 191) 3 93 := ⟨by decide +kernel, rfl⟩
theorem dX9_readsSteps_93 : jm_d cX9_readsSteps 93 (.iconst 1) 1 94 := ⟨by decide +kernel, rfl⟩
theorem dX9_readsSteps_94 : jm_d cX9_readsSteps 94 (.iadd) 1 95 := ⟨by decide +kernel, rfl⟩
theorem dX9_readsSteps_95 : jm_d cX9_readsSteps 95 (.putfield 191) 3 98 := ⟨by decide +kernel, rfl⟩
theorem dX9_readsSteps_98 : jm_b cX9_readsSteps 98 .goto 101 15 := ⟨(-83), by decide +kernel, rfl, by decide⟩
theorem dX9_readsSteps_101 : jm_d cX9_readsSteps 101 (.aload_n 0) 1 102 := ⟨by decide +kernel, rfl⟩
theorem dX9_readsSteps_102 : jm_d cX9_readsSteps 102 (.getfield 64) 3 105 := ⟨by decide +kernel, rfl⟩
theorem dX9_readsSteps_105 : jm_d cX9_readsSteps 105 (.aload_n 0) 1 106 := ⟨by decide +kernel, rfl⟩
theorem dX9_readsSteps_106 : jm_d cX9_readsSteps 106 (.getfield 188) 3 109 := ⟨by decide +kernel, rfl⟩
theorem dX9_readsSteps_109 : jm_d cX9_readsSteps 109 (.aload_n 0) 1 110 := ⟨by decide +kernel, rfl⟩
theorem dX9_readsSteps_110 : jm_d cX9_readsSteps 110 (.getfield 191) 3 113 := ⟨by decide +kernel, rfl⟩
theorem dX9_readsSteps_113 : jm_d cX9_readsSteps 113 (.aload_n 0) 1 114 := ⟨by decide +kernel, rfl⟩
theorem dX9_readsSteps_114 : jm_d cX9_readsSteps 114 (.getfield 61) 3 117 := ⟨by decide +kernel, rfl⟩
theorem dX9_readsSteps_117 : jm_d cX9_readsSteps 117 (.aload_n 0) 1 118 := ⟨by decide +kernel, rfl⟩
theorem dX9_readsSteps_118 : jm_d cX9_readsSteps 118 (.getfield 188) 3 121 := ⟨by decide +kernel, rfl⟩
theorem dX9_readsSteps_121 : jm_d cX9_readsSteps 121 (.iaload) 1 122 := ⟨by decide +kernel, rfl⟩
theorem dX9_readsSteps_122 : jm_d cX9_readsSteps 122 (.isub) 1 123 := ⟨by decide +kernel, rfl⟩
theorem dX9_readsSteps_123 : jm_d cX9_readsSteps 123 (.iastore) 1 124 := ⟨by decide +kernel, rfl⟩
theorem dX9_readsSteps_124 : jm_d cX9_readsSteps 124 (.iload_n 1) 1 125 := ⟨by decide +kernel, rfl⟩
theorem dX9_readsSteps_125 : jm_b cX9_readsSteps 125 (.ifCond .lt) 128 132 := ⟨7, by decide +kernel, rfl, by decide⟩
theorem dX9_readsSteps_132 : jm_d cX9_readsSteps 132 (.iconst 0) 1 133 := ⟨by decide +kernel, rfl⟩
theorem dX9_readsSteps_133 : jm_d cX9_readsSteps 133 (.ireturn) 1 134 := ⟨by decide +kernel, rfl⟩
theorem dX9_readsSteps_128 : jm_d cX9_readsSteps 128 (.iconst 1) 1 129 := ⟨by decide +kernel, rfl⟩
theorem dX9_readsSteps_129 : jm_b cX9_readsSteps 129 .goto 132 133 := ⟨4, by decide +kernel, rfl, by decide⟩
set_option maxHeartbeats 4000000 in
set_option maxRecDepth 100000 in
theorem kM_readsSteps (E : jm_Ev) (hE : jm_dj E jm_LM) {M : jm_M}  {r : Int32 × jm_M} (h : sM_readsSteps M = some r) : jm_Ct E jm_LM yX9_readsSteps cX9_readsSteps 2 (some .boolean) 2 45 [.ref (jm_a E 0 0)] M (some (.int r.1)) r.2 := by
  refine jm_enter (lv := [some (.ref (jm_a E 0 0)), none]) hE (by decide) (Nat.le_of_ble_eq_true rfl) rfl ?_
  intro z w F hz
  have G : jm_G w 0 [some (.ref (jm_a E 0 0)), none] [] M (sM_readsSteps M) (fun e => z (some (.int e.1)) e.2) := by
    unfold sM_readsSteps
    refine jm_aload_n (i := 0) F dX9_readsSteps_0 rfl rfl ?_
    refine jm_getR F dX9_readsSteps_1 fl_X9_61 lo_X9 rfl ?_
    refine jm_aload_n (i := 0) F dX9_readsSteps_4 rfl rfl ?_
    refine jm_getI F dX9_readsSteps_5 fl_X9_188 lo_X9 rfl ?_
    refine jm_aload_n (i := 0) F dX9_readsSteps_8 rfl rfl ?_
    refine jm_getI F dX9_readsSteps_9 fl_X9_191 lo_X9 rfl ?_
    refine jm_iast F dX9_readsSteps_12 la_X9_23 (fun M1 => ?_)
    refine jm_iconst F dX9_readsSteps_13 kc_0 ?_
    refine jm_istore_n (i := 1) (lv' := [some (.ref (jm_a E 0 0)), some (.int 0)]) F dX9_readsSteps_14 rfl (by decide) rfl rfl ?_
    refine jm_bind (pcJ := 101) (lvJ := fun e17 => [some (.ref (jm_a E 0 0)), some (.int e17.1)]) (stJ := fun _ => []) (MJ := fun e17 => e17.2) ?_ (fun e17 => ?_)
    · refine jm_weak F (lv' := [some (.ref (jm_a E 0 0)), some (.int 0)]) ⟨rfl, rfl, trivial⟩ ?_
      refine jm_loopR (lvH := fun s2 => [some (.ref (jm_a E 0 0)), some (.int s2.1)]) (MH := fun s2 => s2.2) (fun s2 => ?_) jm_N (0, M1)
      unfold sM_readsSteps_L15
      refine jm_aload_n (i := 0) F dX9_readsSteps_15 rfl rfl ?_
      refine jm_callV (As := []) (st := []) (rv := fun r => some (.int r)) (mm := fun _ => s2.2) F dX9_readsSteps_16 qX9_178 rfl lo_X9 rfl (fun r h => kM_sign E hE h) rfl (Nat.le_of_ble_eq_true rfl) ⟨Nat.le_of_ble_eq_true rfl, Nat.le_of_ble_eq_true rfl⟩ (fun r3 => ?_)
      refine jm_callS (As := [.int r3]) (st := []) (rv := fun r => some (.int r)) (mm := fun _ => s2.2) F dX9_readsSteps_19 qX9_194 rfl (fun r h => kM_stepOf E hE h) rfl (Nat.le_of_ble_eq_true rfl) ⟨Nat.le_of_ble_eq_true rfl, Nat.le_of_ble_eq_true rfl⟩ (fun r4 => ?_)
      refine jm_if_lt F dX9_readsSteps_22 (fun c5 => ?_) (fun c5 => ?_)
      · exact jm_weakD F (lv' := [some (.ref (jm_a E 0 0)), some (.int s2.1)]) ⟨rfl, rfl, trivial⟩ (fun h => h)
      · refine jm_iload_n (i := 1) F dX9_readsSteps_25 rfl rfl ?_
        refine jm_if_lt F dX9_readsSteps_26 (fun c6 => ?_) (fun c6 => ?_)
        · exact jm_weakD F (lv' := [some (.ref (jm_a E 0 0)), some (.int s2.1)]) ⟨rfl, rfl, trivial⟩ (fun h => h)
        · refine jm_aload_n (i := 0) F dX9_readsSteps_29 rfl rfl ?_
          refine jm_getR F dX9_readsSteps_30 fl_X9_67 lo_X9 rfl ?_
          refine jm_aload_n (i := 0) F dX9_readsSteps_33 rfl rfl ?_
          refine jm_getI F dX9_readsSteps_34 fl_X9_191 lo_X9 rfl ?_
          refine jm_aload_n (i := 0) F dX9_readsSteps_37 rfl rfl ?_
          refine jm_callV (As := []) (st := [.int (s2.2 0 0 30), .ref (jm_a E 0 25)]) (rv := fun r => some (.int r)) (mm := fun _ => s2.2) F dX9_readsSteps_38 qX9_178 rfl lo_X9 rfl (fun r h => kM_sign E hE h) rfl (Nat.le_of_ble_eq_true rfl) ⟨Nat.le_of_ble_eq_true rfl, Nat.le_of_ble_eq_true rfl⟩ (fun r7 => ?_)
          refine jm_callS (As := [.int r7]) (st := [.int (s2.2 0 0 30), .ref (jm_a E 0 25)]) (rv := fun r => some (.int r)) (mm := fun _ => s2.2) F dX9_readsSteps_41 qX9_194 rfl (fun r h => kM_stepOf E hE h) rfl (Nat.le_of_ble_eq_true rfl) ⟨Nat.le_of_ble_eq_true rfl, Nat.le_of_ble_eq_true rfl⟩ (fun r8 => ?_)
          refine jm_iast F dX9_readsSteps_44 la_X9_25 (fun M9 => ?_)
          refine jm_aload_n (i := 0) F dX9_readsSteps_45 rfl rfl ?_
          refine jm_dup F dX9_readsSteps_46 rfl ?_
          refine jm_getI F dX9_readsSteps_47 fl_X9_175 lo_X9 rfl ?_
          refine jm_iconst F dX9_readsSteps_50 kc_1 ?_
          refine jm_iadd F dX9_readsSteps_51 ?_
          refine jm_putI F dX9_readsSteps_52 fp_X9_175 lo_X9 rfl (fun M10 => ?_)
          refine jm_aload_n (i := 0) F dX9_readsSteps_55 rfl rfl ?_
          refine jm_getR F dX9_readsSteps_56 fl_X9_67 lo_X9 rfl ?_
          refine jm_aload_n (i := 0) F dX9_readsSteps_59 rfl rfl ?_
          refine jm_getI F dX9_readsSteps_60 fl_X9_191 lo_X9 rfl ?_
          refine jm_iald F dX9_readsSteps_63 la_X9_25 (fun v11 => ?_)
          refine jm_iconst F dX9_readsSteps_64 kc_4 ?_
          refine jm_bind (pcJ := 77) (lvJ := fun e12 => [some (.ref (jm_a E 0 0)), none]) (stJ := fun e12 => [.int e12.1]) (MJ := fun e12 => e12.2) ?_ (fun e12 => ?_)
          · refine jm_icmp_ge F dX9_readsSteps_65 (fun c13 => ?_) (fun c13 => ?_)
            · refine jm_iconst F dX9_readsSteps_76 kc_0 ?_
              exact jm_weakD F (lv' := [some (.ref (jm_a E 0 0)), none]) ⟨rfl, trivial⟩ (fun h => h)
            · refine jm_aload_n (i := 0) F dX9_readsSteps_68 rfl rfl ?_
              refine jm_iconst F dX9_readsSteps_69 kc_2 ?_
              refine jm_callV (As := [.int 2]) (st := []) (rv := fun r => some (.int r.1)) (mm := fun r => r.2) F dX9_readsSteps_70 qX9_185 rfl lo_X9 rfl (fun r h => kM_number E hE h) rfl (Nat.le_of_ble_eq_true rfl) ⟨Nat.le_of_ble_eq_true rfl, Nat.le_of_ble_eq_true rfl⟩ (fun r14 => ?_)
              refine jm_goto F dX9_readsSteps_73 ?_
              exact jm_weakD F (lv' := [some (.ref (jm_a E 0 0)), none]) ⟨rfl, trivial⟩ (fun h => h)
          · refine jm_istore_n (i := 1) (lv' := [some (.ref (jm_a E 0 0)), some (.int e12.1)]) F dX9_readsSteps_77 rfl (by decide) rfl rfl ?_
            refine jm_aload_n (i := 0) F dX9_readsSteps_78 rfl rfl ?_
            refine jm_getR F dX9_readsSteps_79 fl_X9_70 lo_X9 rfl ?_
            refine jm_aload_n (i := 0) F dX9_readsSteps_82 rfl rfl ?_
            refine jm_getI F dX9_readsSteps_83 fl_X9_191 lo_X9 rfl ?_
            refine jm_iload_n (i := 1) F dX9_readsSteps_86 rfl rfl ?_
            refine jm_iast F dX9_readsSteps_87 la_X9_26 (fun M15 => ?_)
            refine jm_aload_n (i := 0) F dX9_readsSteps_88 rfl rfl ?_
            refine jm_dup F dX9_readsSteps_89 rfl ?_
            refine jm_getI F dX9_readsSteps_90 fl_X9_191 lo_X9 rfl ?_
            refine jm_iconst F dX9_readsSteps_93 kc_1 ?_
            refine jm_iadd F dX9_readsSteps_94 ?_
            refine jm_putI F dX9_readsSteps_95 fp_X9_191 lo_X9 rfl (fun M16 => ?_)
            refine jm_goto F dX9_readsSteps_98 ?_
            exact jm_weakD F (lv' := [some (.ref (jm_a E 0 0)), some (.int e12.1)]) ⟨rfl, rfl, trivial⟩ (fun h => h)
    · refine jm_aload_n (i := 0) F dX9_readsSteps_101 rfl rfl ?_
      refine jm_getR F dX9_readsSteps_102 fl_X9_64 lo_X9 rfl ?_
      refine jm_aload_n (i := 0) F dX9_readsSteps_105 rfl rfl ?_
      refine jm_getI F dX9_readsSteps_106 fl_X9_188 lo_X9 rfl ?_
      refine jm_aload_n (i := 0) F dX9_readsSteps_109 rfl rfl ?_
      refine jm_getI F dX9_readsSteps_110 fl_X9_191 lo_X9 rfl ?_
      refine jm_aload_n (i := 0) F dX9_readsSteps_113 rfl rfl ?_
      refine jm_getR F dX9_readsSteps_114 fl_X9_61 lo_X9 rfl ?_
      refine jm_aload_n (i := 0) F dX9_readsSteps_117 rfl rfl ?_
      refine jm_getI F dX9_readsSteps_118 fl_X9_188 lo_X9 rfl ?_
      refine jm_iald F dX9_readsSteps_121 la_X9_23 (fun v18 => ?_)
      refine jm_isub F dX9_readsSteps_122 ?_
      refine jm_iast F dX9_readsSteps_123 la_X9_24 (fun M19 => ?_)
      refine jm_iload_n (i := 1) F dX9_readsSteps_124 rfl rfl ?_
      refine jm_if_lt F dX9_readsSteps_125 (fun c20 => ?_) (fun c20 => ?_)
      · refine jm_iconst F dX9_readsSteps_132 kc_0 ?_
        exact jm_zret F dX9_readsSteps_133 (Or.inl rfl) (fun h => h)
      · refine jm_iconst F dX9_readsSteps_128 kc_1 ?_
        refine jm_goto F dX9_readsSteps_129 ?_
        exact jm_zret F dX9_readsSteps_133 (Or.inr rfl) (fun h => h)
  exact G r h hz
theorem dX9_readsAll_0 : jm_d cX9_readsAll 0 (.iload_n 1) 1 1 := ⟨by decide +kernel, rfl⟩
theorem dX9_readsAll_1 : decode cX9_readsAll 1 = .ok (.lookupswitch 144 #[(98, 81), (104, 118), (108, 139), (112, 51), (114, 118)], 51) := by decide +kernel
theorem dX9_readsAll_82 : jm_d cX9_readsAll 82 (.aload_n 0) 1 83 := ⟨by decide +kernel, rfl⟩
theorem dX9_readsAll_83 : jm_d cX9_readsAll 83 (.iconst 1) 1 84 := ⟨by decide +kernel, rfl⟩
theorem dX9_readsAll_84 : jm_d cX9_readsAll 84 (.invokevirtual 197) 3 87 := ⟨by decide +kernel, rfl⟩
theorem dX9_readsAll_87 : jm_b cX9_readsAll 87 (.ifCond .eq) 90 117 := ⟨30, by decide +kernel, rfl, by decide⟩
theorem dX9_readsAll_117 : jm_d cX9_readsAll 117 (.iconst 0) 1 118 := ⟨by decide +kernel, rfl⟩
theorem dX9_readsAll_118 : jm_d cX9_readsAll 118 (.ireturn) 1 119 := ⟨by decide +kernel, rfl⟩
theorem dX9_readsAll_90 : jm_d cX9_readsAll 90 (.aload_n 0) 1 91 := ⟨by decide +kernel, rfl⟩
theorem dX9_readsAll_91 : jm_d cX9_readsAll 91 (.iconst 1) 1 92 := ⟨by decide +kernel, rfl⟩
theorem dX9_readsAll_92 : jm_d cX9_readsAll 92 (.invokevirtual 197) 3 95 := ⟨by decide +kernel, rfl⟩
theorem dX9_readsAll_95 : jm_b cX9_readsAll 95 (.ifCond .eq) 98 117 := ⟨22, by decide +kernel, rfl, by decide⟩
theorem dX9_readsAll_98 : jm_d cX9_readsAll 98 (.aload_n 0) 1 99 := ⟨by decide +kernel, rfl⟩
theorem dX9_readsAll_99 : jm_d cX9_readsAll 99 (.iconst 1) 1 100 := ⟨by decide +kernel, rfl⟩
theorem dX9_readsAll_100 : jm_d cX9_readsAll 100 (.invokevirtual 197) 3 103 := ⟨by decide +kernel, rfl⟩
theorem dX9_readsAll_103 : jm_b cX9_readsAll 103 (.ifCond .eq) 106 117 := ⟨14, by decide +kernel, rfl, by decide⟩
theorem dX9_readsAll_106 : jm_d cX9_readsAll 106 (.aload_n 0) 1 107 := ⟨by decide +kernel, rfl⟩
theorem dX9_readsAll_107 : jm_d cX9_readsAll 107 (.invokevirtual 200) 3 110 := ⟨by decide +kernel, rfl⟩
theorem dX9_readsAll_110 : jm_b cX9_readsAll 110 (.ifCond .eq) 113 117 := ⟨7, by decide +kernel, rfl, by decide⟩
theorem dX9_readsAll_113 : jm_d cX9_readsAll 113 (.iconst 1) 1 114 := ⟨by decide +kernel, rfl⟩
theorem dX9_readsAll_114 : jm_b cX9_readsAll 114 .goto 117 118 := ⟨4, by decide +kernel, rfl, by decide⟩
theorem dX9_readsAll_119 : jm_d cX9_readsAll 119 (.aload_n 0) 1 120 := ⟨by decide +kernel, rfl⟩
theorem dX9_readsAll_120 : jm_d cX9_readsAll 120 (.iconst 1) 1 121 := ⟨by decide +kernel, rfl⟩
theorem dX9_readsAll_121 : jm_d cX9_readsAll 121 (.invokevirtual 197) 3 124 := ⟨by decide +kernel, rfl⟩
theorem dX9_readsAll_124 : jm_b cX9_readsAll 124 (.ifCond .eq) 127 138 := ⟨14, by decide +kernel, rfl, by decide⟩
theorem dX9_readsAll_138 : jm_d cX9_readsAll 138 (.iconst 0) 1 139 := ⟨by decide +kernel, rfl⟩
theorem dX9_readsAll_139 : jm_d cX9_readsAll 139 (.ireturn) 1 140 := ⟨by decide +kernel, rfl⟩
theorem dX9_readsAll_127 : jm_d cX9_readsAll 127 (.aload_n 0) 1 128 := ⟨by decide +kernel, rfl⟩
theorem dX9_readsAll_128 : jm_d cX9_readsAll 128 (.invokevirtual 200) 3 131 := ⟨by decide +kernel, rfl⟩
theorem dX9_readsAll_131 : jm_b cX9_readsAll 131 (.ifCond .eq) 134 138 := ⟨7, by decide +kernel, rfl, by decide⟩
theorem dX9_readsAll_134 : jm_d cX9_readsAll 134 (.iconst 1) 1 135 := ⟨by decide +kernel, rfl⟩
theorem dX9_readsAll_135 : jm_b cX9_readsAll 135 .goto 138 139 := ⟨4, by decide +kernel, rfl, by decide⟩
theorem dX9_readsAll_140 : jm_d cX9_readsAll 140 (.aload_n 0) 1 141 := ⟨by decide +kernel, rfl⟩
theorem dX9_readsAll_141 : jm_d cX9_readsAll 141 (.invokevirtual 204) 3 144 := ⟨by decide +kernel, rfl⟩
theorem dX9_readsAll_144 : jm_d cX9_readsAll 144 (.ireturn) 1 145 := ⟨by decide +kernel, rfl⟩
theorem dX9_readsAll_52 : jm_d cX9_readsAll 52 (.aload_n 0) 1 53 := ⟨by decide +kernel, rfl⟩
theorem dX9_readsAll_53 : jm_d cX9_readsAll 53 (.iconst 2) 1 54 := ⟨by decide +kernel, rfl⟩
theorem dX9_readsAll_54 : jm_d cX9_readsAll 54 (.invokevirtual 197) 3 57 := ⟨by decide +kernel, rfl⟩
theorem dX9_readsAll_57 : jm_b cX9_readsAll 57 (.ifCond .eq) 60 80 := ⟨23, by decide +kernel, rfl, by decide⟩
theorem dX9_readsAll_80 : jm_d cX9_readsAll 80 (.iconst 0) 1 81 := ⟨by decide +kernel, rfl⟩
theorem dX9_readsAll_81 : jm_d cX9_readsAll 81 (.ireturn) 1 82 := ⟨by decide +kernel, rfl⟩
theorem dX9_readsAll_60 : jm_d cX9_readsAll 60 (.aload_n 0) 1 61 := ⟨by decide +kernel, rfl⟩
theorem dX9_readsAll_61 : jm_d cX9_readsAll 61 (.iconst 1) 1 62 := ⟨by decide +kernel, rfl⟩
theorem dX9_readsAll_62 : jm_d cX9_readsAll 62 (.invokevirtual 197) 3 65 := ⟨by decide +kernel, rfl⟩
theorem dX9_readsAll_65 : jm_b cX9_readsAll 65 (.ifCond .eq) 68 80 := ⟨15, by decide +kernel, rfl, by decide⟩
theorem dX9_readsAll_68 : jm_d cX9_readsAll 68 (.aload_n 0) 1 69 := ⟨by decide +kernel, rfl⟩
theorem dX9_readsAll_69 : jm_d cX9_readsAll 69 (.iconst 2) 1 70 := ⟨by decide +kernel, rfl⟩
theorem dX9_readsAll_70 : jm_d cX9_readsAll 70 (.invokevirtual 197) 3 73 := ⟨by decide +kernel, rfl⟩
theorem dX9_readsAll_73 : jm_b cX9_readsAll 73 (.ifCond .eq) 76 80 := ⟨7, by decide +kernel, rfl, by decide⟩
theorem dX9_readsAll_76 : jm_d cX9_readsAll 76 (.iconst 1) 1 77 := ⟨by decide +kernel, rfl⟩
theorem dX9_readsAll_77 : jm_b cX9_readsAll 77 .goto 80 81 := ⟨4, by decide +kernel, rfl, by decide⟩
theorem dX9_readsAll_145 : jm_d cX9_readsAll 145 (.aload_n 0) 1 146 := ⟨by decide +kernel, rfl⟩
theorem dX9_readsAll_146 : jm_d cX9_readsAll 146 (.iconst 2) 1 147 := ⟨by decide +kernel, rfl⟩
theorem dX9_readsAll_147 : jm_d cX9_readsAll 147 (.invokevirtual 197) 3 150 := ⟨by decide +kernel, rfl⟩
theorem dX9_readsAll_150 : jm_d cX9_readsAll 150 (.ireturn) 1 151 := ⟨by decide +kernel, rfl⟩
set_option maxHeartbeats 4000000 in
set_option maxRecDepth 100000 in
theorem kM_readsAll (E : jm_Ev) (hE : jm_dj E jm_LM) {M : jm_M} {p1 : Int32}  {r : Int32 × jm_M} (h : sM_readsAll M p1 = some r) : jm_Ct E jm_LM yX9_readsAll cX9_readsAll 2 (some .boolean) 3 66 [.ref (jm_a E 0 0), .int p1] M (some (.int r.1)) r.2 := by
  refine jm_enter (lv := [some (.ref (jm_a E 0 0)), some (.int p1)]) hE (by decide) (Nat.le_of_ble_eq_true rfl) rfl ?_
  intro z w F hz
  have G : jm_G w 0 [some (.ref (jm_a E 0 0)), some (.int p1)] [] M (sM_readsAll M p1) (fun e => z (some (.int e.1)) e.2) := by
    unfold sM_readsAll
    refine jm_iload_n (i := 1) F dX9_readsAll_0 rfl rfl ?_
    refine jm_ite (fun c1 => ?_) (fun c1 => ?_)
    · refine jm_lsw (off := 81) (tgt := 82) F dX9_readsAll_1 (by decide) (by rw [c1]; decide) (by decide) ?_
      refine jm_aload_n (i := 0) F dX9_readsAll_82 rfl rfl ?_
      refine jm_iconst F dX9_readsAll_83 kc_1 ?_
      refine jm_callV (As := [.int 1]) (st := []) (rv := fun r => some (.int r.1)) (mm := fun r => r.2) F dX9_readsAll_84 qX9_197 rfl lo_X9 rfl (fun r h => kM_readsDigits E hE h) rfl (Nat.le_of_ble_eq_true rfl) ⟨Nat.le_of_ble_eq_true rfl, Nat.le_of_ble_eq_true rfl⟩ (fun r2 => ?_)
      refine jm_if_eq F dX9_readsAll_87 (fun c3 => ?_) (fun c3 => ?_)
      · refine jm_iconst F dX9_readsAll_117 kc_0 ?_
        exact jm_zret F dX9_readsAll_118 (Or.inl rfl) (fun h => h)
      · refine jm_aload_n (i := 0) F dX9_readsAll_90 rfl rfl ?_
        refine jm_iconst F dX9_readsAll_91 kc_1 ?_
        refine jm_callV (As := [.int 1]) (st := []) (rv := fun r => some (.int r.1)) (mm := fun r => r.2) F dX9_readsAll_92 qX9_197 rfl lo_X9 rfl (fun r h => kM_readsDigits E hE h) rfl (Nat.le_of_ble_eq_true rfl) ⟨Nat.le_of_ble_eq_true rfl, Nat.le_of_ble_eq_true rfl⟩ (fun r4 => ?_)
        refine jm_if_eq F dX9_readsAll_95 (fun c5 => ?_) (fun c5 => ?_)
        · refine jm_iconst F dX9_readsAll_117 kc_0 ?_
          exact jm_zret F dX9_readsAll_118 (Or.inl rfl) (fun h => h)
        · refine jm_aload_n (i := 0) F dX9_readsAll_98 rfl rfl ?_
          refine jm_iconst F dX9_readsAll_99 kc_1 ?_
          refine jm_callV (As := [.int 1]) (st := []) (rv := fun r => some (.int r.1)) (mm := fun r => r.2) F dX9_readsAll_100 qX9_197 rfl lo_X9 rfl (fun r h => kM_readsDigits E hE h) rfl (Nat.le_of_ble_eq_true rfl) ⟨Nat.le_of_ble_eq_true rfl, Nat.le_of_ble_eq_true rfl⟩ (fun r6 => ?_)
          refine jm_if_eq F dX9_readsAll_103 (fun c7 => ?_) (fun c7 => ?_)
          · refine jm_iconst F dX9_readsAll_117 kc_0 ?_
            exact jm_zret F dX9_readsAll_118 (Or.inl rfl) (fun h => h)
          · refine jm_aload_n (i := 0) F dX9_readsAll_106 rfl rfl ?_
            refine jm_callV (As := []) (st := []) (rv := fun r => some (.int r.1)) (mm := fun r => r.2) F dX9_readsAll_107 qX9_200 rfl lo_X9 rfl (fun r h => kM_readsTitle E hE h) rfl (Nat.le_of_ble_eq_true rfl) ⟨Nat.le_of_ble_eq_true rfl, Nat.le_of_ble_eq_true rfl⟩ (fun r8 => ?_)
            refine jm_if_eq F dX9_readsAll_110 (fun c9 => ?_) (fun c9 => ?_)
            · refine jm_iconst F dX9_readsAll_117 kc_0 ?_
              exact jm_zret F dX9_readsAll_118 (Or.inl rfl) (fun h => h)
            · refine jm_iconst F dX9_readsAll_113 kc_1 ?_
              refine jm_goto F dX9_readsAll_114 ?_
              exact jm_zret F dX9_readsAll_118 (Or.inr rfl) (fun h => h)
    · refine jm_ite (fun c10 => ?_) (fun c10 => ?_)
      · refine jm_lsw (off := 118) (tgt := 119) F dX9_readsAll_1 (by decide) (by rw [c10]; decide) (by decide) ?_
        refine jm_aload_n (i := 0) F dX9_readsAll_119 rfl rfl ?_
        refine jm_iconst F dX9_readsAll_120 kc_1 ?_
        refine jm_callV (As := [.int 1]) (st := []) (rv := fun r => some (.int r.1)) (mm := fun r => r.2) F dX9_readsAll_121 qX9_197 rfl lo_X9 rfl (fun r h => kM_readsDigits E hE h) rfl (Nat.le_of_ble_eq_true rfl) ⟨Nat.le_of_ble_eq_true rfl, Nat.le_of_ble_eq_true rfl⟩ (fun r11 => ?_)
        refine jm_if_eq F dX9_readsAll_124 (fun c12 => ?_) (fun c12 => ?_)
        · refine jm_iconst F dX9_readsAll_138 kc_0 ?_
          exact jm_zret F dX9_readsAll_139 (Or.inl rfl) (fun h => h)
        · refine jm_aload_n (i := 0) F dX9_readsAll_127 rfl rfl ?_
          refine jm_callV (As := []) (st := []) (rv := fun r => some (.int r.1)) (mm := fun r => r.2) F dX9_readsAll_128 qX9_200 rfl lo_X9 rfl (fun r h => kM_readsTitle E hE h) rfl (Nat.le_of_ble_eq_true rfl) ⟨Nat.le_of_ble_eq_true rfl, Nat.le_of_ble_eq_true rfl⟩ (fun r13 => ?_)
          refine jm_if_eq F dX9_readsAll_131 (fun c14 => ?_) (fun c14 => ?_)
          · refine jm_iconst F dX9_readsAll_138 kc_0 ?_
            exact jm_zret F dX9_readsAll_139 (Or.inl rfl) (fun h => h)
          · refine jm_iconst F dX9_readsAll_134 kc_1 ?_
            refine jm_goto F dX9_readsAll_135 ?_
            exact jm_zret F dX9_readsAll_139 (Or.inr rfl) (fun h => h)
      · refine jm_ite (fun c15 => ?_) (fun c15 => ?_)
        · refine jm_lsw (off := 139) (tgt := 140) F dX9_readsAll_1 (by decide) (by rw [c15]; decide) (by decide) ?_
          refine jm_aload_n (i := 0) F dX9_readsAll_140 rfl rfl ?_
          refine jm_callV (As := []) (st := []) (rv := fun r => some (.int r.1)) (mm := fun r => r.2) F dX9_readsAll_141 qX9_204 rfl lo_X9 rfl (fun r h => kM_readsSteps E hE h) rfl (Nat.le_of_ble_eq_true rfl) ⟨Nat.le_of_ble_eq_true rfl, Nat.le_of_ble_eq_true rfl⟩ (fun r16 => ?_)
          refine jm_bzB (fun hb18 => ?_)
          exact jm_zret F dX9_readsAll_144 hb18 (fun h => h)
        · refine jm_ite (fun c19 => ?_) (fun c19 => ?_)
          · refine jm_lsw (off := 51) (tgt := 52) F dX9_readsAll_1 (by decide) (by rw [c19]; decide) (by decide) ?_
            refine jm_aload_n (i := 0) F dX9_readsAll_52 rfl rfl ?_
            refine jm_iconst F dX9_readsAll_53 kc_2 ?_
            refine jm_callV (As := [.int 2]) (st := []) (rv := fun r => some (.int r.1)) (mm := fun r => r.2) F dX9_readsAll_54 qX9_197 rfl lo_X9 rfl (fun r h => kM_readsDigits E hE h) rfl (Nat.le_of_ble_eq_true rfl) ⟨Nat.le_of_ble_eq_true rfl, Nat.le_of_ble_eq_true rfl⟩ (fun r20 => ?_)
            refine jm_if_eq F dX9_readsAll_57 (fun c21 => ?_) (fun c21 => ?_)
            · refine jm_iconst F dX9_readsAll_80 kc_0 ?_
              exact jm_zret F dX9_readsAll_81 (Or.inl rfl) (fun h => h)
            · refine jm_aload_n (i := 0) F dX9_readsAll_60 rfl rfl ?_
              refine jm_iconst F dX9_readsAll_61 kc_1 ?_
              refine jm_callV (As := [.int 1]) (st := []) (rv := fun r => some (.int r.1)) (mm := fun r => r.2) F dX9_readsAll_62 qX9_197 rfl lo_X9 rfl (fun r h => kM_readsDigits E hE h) rfl (Nat.le_of_ble_eq_true rfl) ⟨Nat.le_of_ble_eq_true rfl, Nat.le_of_ble_eq_true rfl⟩ (fun r22 => ?_)
              refine jm_if_eq F dX9_readsAll_65 (fun c23 => ?_) (fun c23 => ?_)
              · refine jm_iconst F dX9_readsAll_80 kc_0 ?_
                exact jm_zret F dX9_readsAll_81 (Or.inl rfl) (fun h => h)
              · refine jm_aload_n (i := 0) F dX9_readsAll_68 rfl rfl ?_
                refine jm_iconst F dX9_readsAll_69 kc_2 ?_
                refine jm_callV (As := [.int 2]) (st := []) (rv := fun r => some (.int r.1)) (mm := fun r => r.2) F dX9_readsAll_70 qX9_197 rfl lo_X9 rfl (fun r h => kM_readsDigits E hE h) rfl (Nat.le_of_ble_eq_true rfl) ⟨Nat.le_of_ble_eq_true rfl, Nat.le_of_ble_eq_true rfl⟩ (fun r24 => ?_)
                refine jm_if_eq F dX9_readsAll_73 (fun c25 => ?_) (fun c25 => ?_)
                · refine jm_iconst F dX9_readsAll_80 kc_0 ?_
                  exact jm_zret F dX9_readsAll_81 (Or.inl rfl) (fun h => h)
                · refine jm_iconst F dX9_readsAll_76 kc_1 ?_
                  refine jm_goto F dX9_readsAll_77 ?_
                  exact jm_zret F dX9_readsAll_81 (Or.inr rfl) (fun h => h)
          · refine jm_ite (fun c26 => ?_) (fun c26 => ?_)
            · refine jm_lsw (off := 118) (tgt := 119) F dX9_readsAll_1 (by decide) (by rw [c26]; decide) (by decide) ?_
              refine jm_aload_n (i := 0) F dX9_readsAll_119 rfl rfl ?_
              refine jm_iconst F dX9_readsAll_120 kc_1 ?_
              refine jm_callV (As := [.int 1]) (st := []) (rv := fun r => some (.int r.1)) (mm := fun r => r.2) F dX9_readsAll_121 qX9_197 rfl lo_X9 rfl (fun r h => kM_readsDigits E hE h) rfl (Nat.le_of_ble_eq_true rfl) ⟨Nat.le_of_ble_eq_true rfl, Nat.le_of_ble_eq_true rfl⟩ (fun r27 => ?_)
              refine jm_if_eq F dX9_readsAll_124 (fun c28 => ?_) (fun c28 => ?_)
              · refine jm_iconst F dX9_readsAll_138 kc_0 ?_
                exact jm_zret F dX9_readsAll_139 (Or.inl rfl) (fun h => h)
              · refine jm_aload_n (i := 0) F dX9_readsAll_127 rfl rfl ?_
                refine jm_callV (As := []) (st := []) (rv := fun r => some (.int r.1)) (mm := fun r => r.2) F dX9_readsAll_128 qX9_200 rfl lo_X9 rfl (fun r h => kM_readsTitle E hE h) rfl (Nat.le_of_ble_eq_true rfl) ⟨Nat.le_of_ble_eq_true rfl, Nat.le_of_ble_eq_true rfl⟩ (fun r29 => ?_)
                refine jm_if_eq F dX9_readsAll_131 (fun c30 => ?_) (fun c30 => ?_)
                · refine jm_iconst F dX9_readsAll_138 kc_0 ?_
                  exact jm_zret F dX9_readsAll_139 (Or.inl rfl) (fun h => h)
                · refine jm_iconst F dX9_readsAll_134 kc_1 ?_
                  refine jm_goto F dX9_readsAll_135 ?_
                  exact jm_zret F dX9_readsAll_139 (Or.inr rfl) (fun h => h)
            · refine jm_lsw (off := 144) (tgt := 145) F dX9_readsAll_1 (by decide) ((lv_osw c1 (by decide)).trans ((lv_osw c10 (by decide)).trans ((lv_osw c15 (by decide)).trans ((lv_osw c19 (by decide)).trans ((lv_osw c26 (by decide)).trans rfl))))) (by decide) ?_
              refine jm_aload_n (i := 0) F dX9_readsAll_145 rfl rfl ?_
              refine jm_iconst F dX9_readsAll_146 kc_2 ?_
              refine jm_callV (As := [.int 2]) (st := []) (rv := fun r => some (.int r.1)) (mm := fun r => r.2) F dX9_readsAll_147 qX9_197 rfl lo_X9 rfl (fun r h => kM_readsDigits E hE h) rfl (Nat.le_of_ble_eq_true rfl) ⟨Nat.le_of_ble_eq_true rfl, Nat.le_of_ble_eq_true rfl⟩ (fun r31 => ?_)
              refine jm_bzB (fun hb33 => ?_)
              exact jm_zret F dX9_readsAll_150 hb33 (fun h => h)
  exact G r h hz
theorem dX9_statement_0 : jm_d cX9_statement 0 (.aload_n 0) 1 1 := ⟨by decide +kernel, rfl⟩
theorem dX9_statement_1 : jm_d cX9_statement 1 (.invokevirtual 178) 3 4 := ⟨by decide +kernel, rfl⟩
theorem dX9_statement_4 : jm_d cX9_statement 4 (.istore_n 1) 1 5 := ⟨by decide +kernel, rfl⟩
theorem dX9_statement_5 : jm_d cX9_statement 5 (.iload_n 1) 1 6 := ⟨by decide +kernel, rfl⟩
theorem dX9_statement_6 : jm_d cX9_statement 6 (.bipush 112) 2 8 := ⟨by decide +kernel, rfl⟩
theorem dX9_statement_8 : jm_b cX9_statement 8 (.if_icmp .eq) 11 43 := ⟨35, by decide +kernel, rfl, by decide⟩
theorem dX9_statement_43 : jm_d cX9_statement 43 (.aload_n 0) 1 44 := ⟨by decide +kernel, rfl⟩
theorem dX9_statement_44 : jm_d cX9_statement 44 (.getfield 52) 3 47 := ⟨by decide +kernel, rfl⟩
theorem dX9_statement_47 : jm_d cX9_statement 47 (.aload_n 0) 1 48 := ⟨by decide +kernel, rfl⟩
theorem dX9_statement_48 : jm_d cX9_statement 48 (.getfield 188) 3 51 := ⟨by decide +kernel, rfl⟩
theorem dX9_statement_51 : jm_d cX9_statement 51 (.iload_n 1) 1 52 := ⟨by decide +kernel, rfl⟩
theorem dX9_statement_52 : jm_d cX9_statement 52 (.iastore) 1 53 := ⟨by decide +kernel, rfl⟩
theorem dX9_statement_53 : jm_d cX9_statement 53 (.aload_n 0) 1 54 := ⟨by decide +kernel, rfl⟩
theorem dX9_statement_54 : jm_d cX9_statement 54 (.getfield 55) 3 57 := ⟨by decide +kernel, rfl⟩
theorem dX9_statement_57 : jm_d cX9_statement 57 (.aload_n 0) 1 58 := ⟨by decide +kernel, rfl⟩
theorem dX9_statement_58 : jm_d cX9_statement 58 (.getfield 188) 3 61 := ⟨by decide +kernel, rfl⟩
theorem dX9_statement_61 : jm_d cX9_statement 61 (.aload_n 0) 1 62 := ⟨by decide +kernel, rfl⟩
theorem dX9_statement_62 : jm_d cX9_statement 62 (.getfield 175) 3 65 := ⟨by decide +kernel, rfl⟩
theorem dX9_statement_65 : jm_d cX9_statement 65 (.iastore) 1 66 := ⟨by decide +kernel, rfl⟩
theorem dX9_statement_66 : jm_d cX9_statement 66 (.aload_n 0) 1 67 := ⟨by decide +kernel, rfl⟩
theorem dX9_statement_67 : jm_d cX9_statement 67 (.iconst 3) 1 68 := ⟨by decide +kernel, rfl⟩
theorem dX9_statement_68 : jm_d cX9_statement 68 (.aload_n 0) 1 69 := ⟨by decide +kernel, rfl⟩
theorem dX9_statement_69 : jm_d cX9_statement 69 (.getfield 188) 3 72 := ⟨by decide +kernel, rfl⟩
theorem dX9_statement_72 : jm_d cX9_statement 72 (.imul) 1 73 := ⟨by decide +kernel, rfl⟩
theorem dX9_statement_73 : jm_d cX9_statement 73 (.putfield 182) 3 76 := ⟨by decide +kernel, rfl⟩
theorem dX9_statement_76 : jm_d cX9_statement 76 (.aload_n 0) 1 77 := ⟨by decide +kernel, rfl⟩
theorem dX9_statement_77 : jm_d cX9_statement 77 (.dup) 1 78 := ⟨by decide +kernel, rfl⟩
theorem dX9_statement_78 : jm_d cX9_statement 78 (.getfield 175) 3 81 := ⟨by decide +kernel, rfl⟩
theorem dX9_statement_81 : jm_d cX9_statement 81 (.iconst 1) 1 82 := ⟨by decide +kernel, rfl⟩
theorem dX9_statement_82 : jm_d cX9_statement 82 (.iadd) 1 83 := ⟨by decide +kernel, rfl⟩
theorem dX9_statement_83 : jm_d cX9_statement 83 (.putfield 175) 3 86 := ⟨by decide +kernel, rfl⟩
theorem dX9_statement_86 : jm_d cX9_statement 86 (.aload_n 0) 1 87 := ⟨by decide +kernel, rfl⟩
theorem dX9_statement_87 : jm_d cX9_statement 87 (.iload_n 1) 1 88 := ⟨by decide +kernel, rfl⟩
theorem dX9_statement_88 : jm_d cX9_statement 88 (.invokevirtual 207) 3 91 := ⟨by decide +kernel, rfl⟩
theorem dX9_statement_91 : jm_b cX9_statement 91 (.ifCond .eq) 94 103 := ⟨12, by decide +kernel, rfl, by decide⟩
theorem dX9_statement_103 : jm_d cX9_statement 103 (.iconst 0) 1 104 := ⟨by decide +kernel, rfl⟩
theorem dX9_statement_104 : jm_d cX9_statement 104 (.ireturn) 1 105 := ⟨by decide +kernel, rfl⟩
theorem dX9_statement_94 : jm_d cX9_statement 94 (.aload_n 0) 1 95 := ⟨by decide +kernel, rfl⟩
theorem dX9_statement_95 : jm_d cX9_statement 95 (.invokevirtual 178) 3 98 := ⟨by decide +kernel, rfl⟩
theorem dX9_statement_98 : jm_d cX9_statement 98 (.bipush 59) 2 100 := ⟨by decide +kernel, rfl⟩
theorem dX9_statement_100 : jm_b cX9_statement 100 (.if_icmp .eq) 103 105 := ⟨5, by decide +kernel, rfl, by decide⟩
theorem dX9_statement_105 : jm_d cX9_statement 105 (.aload_n 0) 1 106 := ⟨by decide +kernel, rfl⟩
theorem dX9_statement_106 : jm_d cX9_statement 106 (.dup) 1 107 := ⟨by decide +kernel, rfl⟩
theorem dX9_statement_107 : jm_d cX9_statement 107 (.getfield 175) 3 110 := ⟨by decide +kernel, rfl⟩
theorem dX9_statement_110 : jm_d cX9_statement 110 (.iconst 1) 1 111 := ⟨by decide +kernel, rfl⟩
theorem dX9_statement_111 : jm_d cX9_statement 111 (.iadd) 1 112 := ⟨by decide +kernel, rfl⟩
theorem dX9_statement_112 : jm_d cX9_statement 112 (.putfield 175) 3 115 := ⟨by decide +kernel, rfl⟩
theorem dX9_statement_115 : jm_d cX9_statement 115 (.iconst 1) 1 116 := ⟨by decide +kernel, rfl⟩
theorem dX9_statement_116 : jm_d cX9_statement 116 (.ireturn) 1 117 := ⟨by decide +kernel, rfl⟩
theorem dX9_statement_11 : jm_d cX9_statement 11 (.iload_n 1) 1 12 := ⟨by decide +kernel, rfl⟩
theorem dX9_statement_12 : jm_d cX9_statement 12 (.bipush 98) 2 14 := ⟨by decide +kernel, rfl⟩
theorem dX9_statement_14 : jm_b cX9_statement 14 (.if_icmp .eq) 17 43 := ⟨29, by decide +kernel, rfl, by decide⟩
theorem dX9_statement_17 : jm_d cX9_statement 17 (.iload_n 1) 1 18 := ⟨by decide +kernel, rfl⟩
theorem dX9_statement_18 : jm_d cX9_statement 18 (.bipush 114) 2 20 := ⟨by decide +kernel, rfl⟩
theorem dX9_statement_20 : jm_b cX9_statement 20 (.if_icmp .eq) 23 43 := ⟨23, by decide +kernel, rfl, by decide⟩
theorem dX9_statement_23 : jm_d cX9_statement 23 (.iload_n 1) 1 24 := ⟨by decide +kernel, rfl⟩
theorem dX9_statement_24 : jm_d cX9_statement 24 (.bipush 104) 2 26 := ⟨by decide +kernel, rfl⟩
theorem dX9_statement_26 : jm_b cX9_statement 26 (.if_icmp .eq) 29 43 := ⟨17, by decide +kernel, rfl, by decide⟩
theorem dX9_statement_29 : jm_d cX9_statement 29 (.iload_n 1) 1 30 := ⟨by decide +kernel, rfl⟩
theorem dX9_statement_30 : jm_d cX9_statement 30 (.bipush 108) 2 32 := ⟨by decide +kernel, rfl⟩
theorem dX9_statement_32 : jm_b cX9_statement 32 (.if_icmp .eq) 35 43 := ⟨11, by decide +kernel, rfl, by decide⟩
theorem dX9_statement_35 : jm_d cX9_statement 35 (.iload_n 1) 1 36 := ⟨by decide +kernel, rfl⟩
theorem dX9_statement_36 : jm_d cX9_statement 36 (.bipush 119) 2 38 := ⟨by decide +kernel, rfl⟩
theorem dX9_statement_38 : jm_b cX9_statement 38 (.if_icmp .eq) 41 43 := ⟨5, by decide +kernel, rfl, by decide⟩
theorem dX9_statement_41 : jm_d cX9_statement 41 (.iconst 0) 1 42 := ⟨by decide +kernel, rfl⟩
theorem dX9_statement_42 : jm_d cX9_statement 42 (.ireturn) 1 43 := ⟨by decide +kernel, rfl⟩
set_option maxHeartbeats 4000000 in
set_option maxRecDepth 100000 in
theorem kM_statement (E : jm_Ev) (hE : jm_dj E jm_LM) {M : jm_M}  {r : Int32 × jm_M} (h : sM_statement M = some r) : jm_Ct E jm_LM yX9_statement cX9_statement 2 (some .boolean) 4 87 [.ref (jm_a E 0 0)] M (some (.int r.1)) r.2 := by
  refine jm_enter (lv := [some (.ref (jm_a E 0 0)), none]) hE (by decide) (Nat.le_of_ble_eq_true rfl) rfl ?_
  intro z w F hz
  have G : jm_G w 0 [some (.ref (jm_a E 0 0)), none] [] M (sM_statement M) (fun e => z (some (.int e.1)) e.2) := by
    unfold sM_statement
    refine jm_aload_n (i := 0) F dX9_statement_0 rfl rfl ?_
    refine jm_callV (As := []) (st := []) (rv := fun r => some (.int r)) (mm := fun _ => M) F dX9_statement_1 qX9_178 rfl lo_X9 rfl (fun r h => kM_sign E hE h) rfl (Nat.le_of_ble_eq_true rfl) ⟨Nat.le_of_ble_eq_true rfl, Nat.le_of_ble_eq_true rfl⟩ (fun r1 => ?_)
    refine jm_istore_n (i := 1) (lv' := [some (.ref (jm_a E 0 0)), some (.int r1)]) F dX9_statement_4 rfl (by decide) rfl rfl ?_
    refine jm_iload_n (i := 1) F dX9_statement_5 rfl rfl ?_
    refine jm_bipush F dX9_statement_6 kb_112 ?_
    refine jm_icmp_eq F dX9_statement_8 (fun c2 => ?_) (fun c2 => ?_)
    · refine jm_aload_n (i := 0) F dX9_statement_43 rfl rfl ?_
      refine jm_getR F dX9_statement_44 fl_X9_52 lo_X9 rfl ?_
      refine jm_aload_n (i := 0) F dX9_statement_47 rfl rfl ?_
      refine jm_getI F dX9_statement_48 fl_X9_188 lo_X9 rfl ?_
      refine jm_iload_n (i := 1) F dX9_statement_51 rfl rfl ?_
      refine jm_iast F dX9_statement_52 la_X9_20 (fun M3 => ?_)
      refine jm_aload_n (i := 0) F dX9_statement_53 rfl rfl ?_
      refine jm_getR F dX9_statement_54 fl_X9_55 lo_X9 rfl ?_
      refine jm_aload_n (i := 0) F dX9_statement_57 rfl rfl ?_
      refine jm_getI F dX9_statement_58 fl_X9_188 lo_X9 rfl ?_
      refine jm_aload_n (i := 0) F dX9_statement_61 rfl rfl ?_
      refine jm_getI F dX9_statement_62 fl_X9_175 lo_X9 rfl ?_
      refine jm_iast F dX9_statement_65 la_X9_21 (fun M4 => ?_)
      refine jm_aload_n (i := 0) F dX9_statement_66 rfl rfl ?_
      refine jm_iconst F dX9_statement_67 kc_3 ?_
      refine jm_aload_n (i := 0) F dX9_statement_68 rfl rfl ?_
      refine jm_getI F dX9_statement_69 fl_X9_188 lo_X9 rfl ?_
      refine jm_imul F dX9_statement_72 ?_
      refine jm_putI F dX9_statement_73 fp_X9_182 lo_X9 rfl (fun M5 => ?_)
      refine jm_aload_n (i := 0) F dX9_statement_76 rfl rfl ?_
      refine jm_dup F dX9_statement_77 rfl ?_
      refine jm_getI F dX9_statement_78 fl_X9_175 lo_X9 rfl ?_
      refine jm_iconst F dX9_statement_81 kc_1 ?_
      refine jm_iadd F dX9_statement_82 ?_
      refine jm_putI F dX9_statement_83 fp_X9_175 lo_X9 rfl (fun M6 => ?_)
      refine jm_aload_n (i := 0) F dX9_statement_86 rfl rfl ?_
      refine jm_iload_n (i := 1) F dX9_statement_87 rfl rfl ?_
      refine jm_callV (As := [.int r1]) (st := []) (rv := fun r => some (.int r.1)) (mm := fun r => r.2) F dX9_statement_88 qX9_207 rfl lo_X9 rfl (fun r h => kM_readsAll E hE h) rfl (Nat.le_of_ble_eq_true rfl) ⟨Nat.le_of_ble_eq_true rfl, Nat.le_of_ble_eq_true rfl⟩ (fun r7 => ?_)
      refine jm_if_eq F dX9_statement_91 (fun c8 => ?_) (fun c8 => ?_)
      · refine jm_iconst F dX9_statement_103 kc_0 ?_
        exact jm_zret F dX9_statement_104 (Or.inl rfl) (fun h => h)
      · refine jm_aload_n (i := 0) F dX9_statement_94 rfl rfl ?_
        refine jm_callV (As := []) (st := []) (rv := fun r => some (.int r)) (mm := fun _ => r7.2) F dX9_statement_95 qX9_178 rfl lo_X9 rfl (fun r h => kM_sign E hE h) rfl (Nat.le_of_ble_eq_true rfl) ⟨Nat.le_of_ble_eq_true rfl, Nat.le_of_ble_eq_true rfl⟩ (fun r9 => ?_)
        refine jm_bipush F dX9_statement_98 kb_59 ?_
        refine jm_icmp_eq F dX9_statement_100 (fun c10 => ?_) (fun c10 => ?_)
        · refine jm_aload_n (i := 0) F dX9_statement_105 rfl rfl ?_
          refine jm_dup F dX9_statement_106 rfl ?_
          refine jm_getI F dX9_statement_107 fl_X9_175 lo_X9 rfl ?_
          refine jm_iconst F dX9_statement_110 kc_1 ?_
          refine jm_iadd F dX9_statement_111 ?_
          refine jm_putI F dX9_statement_112 fp_X9_175 lo_X9 rfl (fun M11 => ?_)
          refine jm_iconst F dX9_statement_115 kc_1 ?_
          exact jm_zret F dX9_statement_116 (Or.inr rfl) (fun h => h)
        · refine jm_iconst F dX9_statement_103 kc_0 ?_
          exact jm_zret F dX9_statement_104 (Or.inl rfl) (fun h => h)
    · refine jm_iload_n (i := 1) F dX9_statement_11 rfl rfl ?_
      refine jm_bipush F dX9_statement_12 kb_98 ?_
      refine jm_icmp_eq F dX9_statement_14 (fun c12 => ?_) (fun c12 => ?_)
      · refine jm_aload_n (i := 0) F dX9_statement_43 rfl rfl ?_
        refine jm_getR F dX9_statement_44 fl_X9_52 lo_X9 rfl ?_
        refine jm_aload_n (i := 0) F dX9_statement_47 rfl rfl ?_
        refine jm_getI F dX9_statement_48 fl_X9_188 lo_X9 rfl ?_
        refine jm_iload_n (i := 1) F dX9_statement_51 rfl rfl ?_
        refine jm_iast F dX9_statement_52 la_X9_20 (fun M13 => ?_)
        refine jm_aload_n (i := 0) F dX9_statement_53 rfl rfl ?_
        refine jm_getR F dX9_statement_54 fl_X9_55 lo_X9 rfl ?_
        refine jm_aload_n (i := 0) F dX9_statement_57 rfl rfl ?_
        refine jm_getI F dX9_statement_58 fl_X9_188 lo_X9 rfl ?_
        refine jm_aload_n (i := 0) F dX9_statement_61 rfl rfl ?_
        refine jm_getI F dX9_statement_62 fl_X9_175 lo_X9 rfl ?_
        refine jm_iast F dX9_statement_65 la_X9_21 (fun M14 => ?_)
        refine jm_aload_n (i := 0) F dX9_statement_66 rfl rfl ?_
        refine jm_iconst F dX9_statement_67 kc_3 ?_
        refine jm_aload_n (i := 0) F dX9_statement_68 rfl rfl ?_
        refine jm_getI F dX9_statement_69 fl_X9_188 lo_X9 rfl ?_
        refine jm_imul F dX9_statement_72 ?_
        refine jm_putI F dX9_statement_73 fp_X9_182 lo_X9 rfl (fun M15 => ?_)
        refine jm_aload_n (i := 0) F dX9_statement_76 rfl rfl ?_
        refine jm_dup F dX9_statement_77 rfl ?_
        refine jm_getI F dX9_statement_78 fl_X9_175 lo_X9 rfl ?_
        refine jm_iconst F dX9_statement_81 kc_1 ?_
        refine jm_iadd F dX9_statement_82 ?_
        refine jm_putI F dX9_statement_83 fp_X9_175 lo_X9 rfl (fun M16 => ?_)
        refine jm_aload_n (i := 0) F dX9_statement_86 rfl rfl ?_
        refine jm_iload_n (i := 1) F dX9_statement_87 rfl rfl ?_
        refine jm_callV (As := [.int r1]) (st := []) (rv := fun r => some (.int r.1)) (mm := fun r => r.2) F dX9_statement_88 qX9_207 rfl lo_X9 rfl (fun r h => kM_readsAll E hE h) rfl (Nat.le_of_ble_eq_true rfl) ⟨Nat.le_of_ble_eq_true rfl, Nat.le_of_ble_eq_true rfl⟩ (fun r17 => ?_)
        refine jm_if_eq F dX9_statement_91 (fun c18 => ?_) (fun c18 => ?_)
        · refine jm_iconst F dX9_statement_103 kc_0 ?_
          exact jm_zret F dX9_statement_104 (Or.inl rfl) (fun h => h)
        · refine jm_aload_n (i := 0) F dX9_statement_94 rfl rfl ?_
          refine jm_callV (As := []) (st := []) (rv := fun r => some (.int r)) (mm := fun _ => r17.2) F dX9_statement_95 qX9_178 rfl lo_X9 rfl (fun r h => kM_sign E hE h) rfl (Nat.le_of_ble_eq_true rfl) ⟨Nat.le_of_ble_eq_true rfl, Nat.le_of_ble_eq_true rfl⟩ (fun r19 => ?_)
          refine jm_bipush F dX9_statement_98 kb_59 ?_
          refine jm_icmp_eq F dX9_statement_100 (fun c20 => ?_) (fun c20 => ?_)
          · refine jm_aload_n (i := 0) F dX9_statement_105 rfl rfl ?_
            refine jm_dup F dX9_statement_106 rfl ?_
            refine jm_getI F dX9_statement_107 fl_X9_175 lo_X9 rfl ?_
            refine jm_iconst F dX9_statement_110 kc_1 ?_
            refine jm_iadd F dX9_statement_111 ?_
            refine jm_putI F dX9_statement_112 fp_X9_175 lo_X9 rfl (fun M21 => ?_)
            refine jm_iconst F dX9_statement_115 kc_1 ?_
            exact jm_zret F dX9_statement_116 (Or.inr rfl) (fun h => h)
          · refine jm_iconst F dX9_statement_103 kc_0 ?_
            exact jm_zret F dX9_statement_104 (Or.inl rfl) (fun h => h)
      · refine jm_iload_n (i := 1) F dX9_statement_17 rfl rfl ?_
        refine jm_bipush F dX9_statement_18 kb_114 ?_
        refine jm_icmp_eq F dX9_statement_20 (fun c22 => ?_) (fun c22 => ?_)
        · refine jm_aload_n (i := 0) F dX9_statement_43 rfl rfl ?_
          refine jm_getR F dX9_statement_44 fl_X9_52 lo_X9 rfl ?_
          refine jm_aload_n (i := 0) F dX9_statement_47 rfl rfl ?_
          refine jm_getI F dX9_statement_48 fl_X9_188 lo_X9 rfl ?_
          refine jm_iload_n (i := 1) F dX9_statement_51 rfl rfl ?_
          refine jm_iast F dX9_statement_52 la_X9_20 (fun M23 => ?_)
          refine jm_aload_n (i := 0) F dX9_statement_53 rfl rfl ?_
          refine jm_getR F dX9_statement_54 fl_X9_55 lo_X9 rfl ?_
          refine jm_aload_n (i := 0) F dX9_statement_57 rfl rfl ?_
          refine jm_getI F dX9_statement_58 fl_X9_188 lo_X9 rfl ?_
          refine jm_aload_n (i := 0) F dX9_statement_61 rfl rfl ?_
          refine jm_getI F dX9_statement_62 fl_X9_175 lo_X9 rfl ?_
          refine jm_iast F dX9_statement_65 la_X9_21 (fun M24 => ?_)
          refine jm_aload_n (i := 0) F dX9_statement_66 rfl rfl ?_
          refine jm_iconst F dX9_statement_67 kc_3 ?_
          refine jm_aload_n (i := 0) F dX9_statement_68 rfl rfl ?_
          refine jm_getI F dX9_statement_69 fl_X9_188 lo_X9 rfl ?_
          refine jm_imul F dX9_statement_72 ?_
          refine jm_putI F dX9_statement_73 fp_X9_182 lo_X9 rfl (fun M25 => ?_)
          refine jm_aload_n (i := 0) F dX9_statement_76 rfl rfl ?_
          refine jm_dup F dX9_statement_77 rfl ?_
          refine jm_getI F dX9_statement_78 fl_X9_175 lo_X9 rfl ?_
          refine jm_iconst F dX9_statement_81 kc_1 ?_
          refine jm_iadd F dX9_statement_82 ?_
          refine jm_putI F dX9_statement_83 fp_X9_175 lo_X9 rfl (fun M26 => ?_)
          refine jm_aload_n (i := 0) F dX9_statement_86 rfl rfl ?_
          refine jm_iload_n (i := 1) F dX9_statement_87 rfl rfl ?_
          refine jm_callV (As := [.int r1]) (st := []) (rv := fun r => some (.int r.1)) (mm := fun r => r.2) F dX9_statement_88 qX9_207 rfl lo_X9 rfl (fun r h => kM_readsAll E hE h) rfl (Nat.le_of_ble_eq_true rfl) ⟨Nat.le_of_ble_eq_true rfl, Nat.le_of_ble_eq_true rfl⟩ (fun r27 => ?_)
          refine jm_if_eq F dX9_statement_91 (fun c28 => ?_) (fun c28 => ?_)
          · refine jm_iconst F dX9_statement_103 kc_0 ?_
            exact jm_zret F dX9_statement_104 (Or.inl rfl) (fun h => h)
          · refine jm_aload_n (i := 0) F dX9_statement_94 rfl rfl ?_
            refine jm_callV (As := []) (st := []) (rv := fun r => some (.int r)) (mm := fun _ => r27.2) F dX9_statement_95 qX9_178 rfl lo_X9 rfl (fun r h => kM_sign E hE h) rfl (Nat.le_of_ble_eq_true rfl) ⟨Nat.le_of_ble_eq_true rfl, Nat.le_of_ble_eq_true rfl⟩ (fun r29 => ?_)
            refine jm_bipush F dX9_statement_98 kb_59 ?_
            refine jm_icmp_eq F dX9_statement_100 (fun c30 => ?_) (fun c30 => ?_)
            · refine jm_aload_n (i := 0) F dX9_statement_105 rfl rfl ?_
              refine jm_dup F dX9_statement_106 rfl ?_
              refine jm_getI F dX9_statement_107 fl_X9_175 lo_X9 rfl ?_
              refine jm_iconst F dX9_statement_110 kc_1 ?_
              refine jm_iadd F dX9_statement_111 ?_
              refine jm_putI F dX9_statement_112 fp_X9_175 lo_X9 rfl (fun M31 => ?_)
              refine jm_iconst F dX9_statement_115 kc_1 ?_
              exact jm_zret F dX9_statement_116 (Or.inr rfl) (fun h => h)
            · refine jm_iconst F dX9_statement_103 kc_0 ?_
              exact jm_zret F dX9_statement_104 (Or.inl rfl) (fun h => h)
        · refine jm_iload_n (i := 1) F dX9_statement_23 rfl rfl ?_
          refine jm_bipush F dX9_statement_24 kb_104 ?_
          refine jm_icmp_eq F dX9_statement_26 (fun c32 => ?_) (fun c32 => ?_)
          · refine jm_aload_n (i := 0) F dX9_statement_43 rfl rfl ?_
            refine jm_getR F dX9_statement_44 fl_X9_52 lo_X9 rfl ?_
            refine jm_aload_n (i := 0) F dX9_statement_47 rfl rfl ?_
            refine jm_getI F dX9_statement_48 fl_X9_188 lo_X9 rfl ?_
            refine jm_iload_n (i := 1) F dX9_statement_51 rfl rfl ?_
            refine jm_iast F dX9_statement_52 la_X9_20 (fun M33 => ?_)
            refine jm_aload_n (i := 0) F dX9_statement_53 rfl rfl ?_
            refine jm_getR F dX9_statement_54 fl_X9_55 lo_X9 rfl ?_
            refine jm_aload_n (i := 0) F dX9_statement_57 rfl rfl ?_
            refine jm_getI F dX9_statement_58 fl_X9_188 lo_X9 rfl ?_
            refine jm_aload_n (i := 0) F dX9_statement_61 rfl rfl ?_
            refine jm_getI F dX9_statement_62 fl_X9_175 lo_X9 rfl ?_
            refine jm_iast F dX9_statement_65 la_X9_21 (fun M34 => ?_)
            refine jm_aload_n (i := 0) F dX9_statement_66 rfl rfl ?_
            refine jm_iconst F dX9_statement_67 kc_3 ?_
            refine jm_aload_n (i := 0) F dX9_statement_68 rfl rfl ?_
            refine jm_getI F dX9_statement_69 fl_X9_188 lo_X9 rfl ?_
            refine jm_imul F dX9_statement_72 ?_
            refine jm_putI F dX9_statement_73 fp_X9_182 lo_X9 rfl (fun M35 => ?_)
            refine jm_aload_n (i := 0) F dX9_statement_76 rfl rfl ?_
            refine jm_dup F dX9_statement_77 rfl ?_
            refine jm_getI F dX9_statement_78 fl_X9_175 lo_X9 rfl ?_
            refine jm_iconst F dX9_statement_81 kc_1 ?_
            refine jm_iadd F dX9_statement_82 ?_
            refine jm_putI F dX9_statement_83 fp_X9_175 lo_X9 rfl (fun M36 => ?_)
            refine jm_aload_n (i := 0) F dX9_statement_86 rfl rfl ?_
            refine jm_iload_n (i := 1) F dX9_statement_87 rfl rfl ?_
            refine jm_callV (As := [.int r1]) (st := []) (rv := fun r => some (.int r.1)) (mm := fun r => r.2) F dX9_statement_88 qX9_207 rfl lo_X9 rfl (fun r h => kM_readsAll E hE h) rfl (Nat.le_of_ble_eq_true rfl) ⟨Nat.le_of_ble_eq_true rfl, Nat.le_of_ble_eq_true rfl⟩ (fun r37 => ?_)
            refine jm_if_eq F dX9_statement_91 (fun c38 => ?_) (fun c38 => ?_)
            · refine jm_iconst F dX9_statement_103 kc_0 ?_
              exact jm_zret F dX9_statement_104 (Or.inl rfl) (fun h => h)
            · refine jm_aload_n (i := 0) F dX9_statement_94 rfl rfl ?_
              refine jm_callV (As := []) (st := []) (rv := fun r => some (.int r)) (mm := fun _ => r37.2) F dX9_statement_95 qX9_178 rfl lo_X9 rfl (fun r h => kM_sign E hE h) rfl (Nat.le_of_ble_eq_true rfl) ⟨Nat.le_of_ble_eq_true rfl, Nat.le_of_ble_eq_true rfl⟩ (fun r39 => ?_)
              refine jm_bipush F dX9_statement_98 kb_59 ?_
              refine jm_icmp_eq F dX9_statement_100 (fun c40 => ?_) (fun c40 => ?_)
              · refine jm_aload_n (i := 0) F dX9_statement_105 rfl rfl ?_
                refine jm_dup F dX9_statement_106 rfl ?_
                refine jm_getI F dX9_statement_107 fl_X9_175 lo_X9 rfl ?_
                refine jm_iconst F dX9_statement_110 kc_1 ?_
                refine jm_iadd F dX9_statement_111 ?_
                refine jm_putI F dX9_statement_112 fp_X9_175 lo_X9 rfl (fun M41 => ?_)
                refine jm_iconst F dX9_statement_115 kc_1 ?_
                exact jm_zret F dX9_statement_116 (Or.inr rfl) (fun h => h)
              · refine jm_iconst F dX9_statement_103 kc_0 ?_
                exact jm_zret F dX9_statement_104 (Or.inl rfl) (fun h => h)
          · refine jm_iload_n (i := 1) F dX9_statement_29 rfl rfl ?_
            refine jm_bipush F dX9_statement_30 kb_108 ?_
            refine jm_icmp_eq F dX9_statement_32 (fun c42 => ?_) (fun c42 => ?_)
            · refine jm_aload_n (i := 0) F dX9_statement_43 rfl rfl ?_
              refine jm_getR F dX9_statement_44 fl_X9_52 lo_X9 rfl ?_
              refine jm_aload_n (i := 0) F dX9_statement_47 rfl rfl ?_
              refine jm_getI F dX9_statement_48 fl_X9_188 lo_X9 rfl ?_
              refine jm_iload_n (i := 1) F dX9_statement_51 rfl rfl ?_
              refine jm_iast F dX9_statement_52 la_X9_20 (fun M43 => ?_)
              refine jm_aload_n (i := 0) F dX9_statement_53 rfl rfl ?_
              refine jm_getR F dX9_statement_54 fl_X9_55 lo_X9 rfl ?_
              refine jm_aload_n (i := 0) F dX9_statement_57 rfl rfl ?_
              refine jm_getI F dX9_statement_58 fl_X9_188 lo_X9 rfl ?_
              refine jm_aload_n (i := 0) F dX9_statement_61 rfl rfl ?_
              refine jm_getI F dX9_statement_62 fl_X9_175 lo_X9 rfl ?_
              refine jm_iast F dX9_statement_65 la_X9_21 (fun M44 => ?_)
              refine jm_aload_n (i := 0) F dX9_statement_66 rfl rfl ?_
              refine jm_iconst F dX9_statement_67 kc_3 ?_
              refine jm_aload_n (i := 0) F dX9_statement_68 rfl rfl ?_
              refine jm_getI F dX9_statement_69 fl_X9_188 lo_X9 rfl ?_
              refine jm_imul F dX9_statement_72 ?_
              refine jm_putI F dX9_statement_73 fp_X9_182 lo_X9 rfl (fun M45 => ?_)
              refine jm_aload_n (i := 0) F dX9_statement_76 rfl rfl ?_
              refine jm_dup F dX9_statement_77 rfl ?_
              refine jm_getI F dX9_statement_78 fl_X9_175 lo_X9 rfl ?_
              refine jm_iconst F dX9_statement_81 kc_1 ?_
              refine jm_iadd F dX9_statement_82 ?_
              refine jm_putI F dX9_statement_83 fp_X9_175 lo_X9 rfl (fun M46 => ?_)
              refine jm_aload_n (i := 0) F dX9_statement_86 rfl rfl ?_
              refine jm_iload_n (i := 1) F dX9_statement_87 rfl rfl ?_
              refine jm_callV (As := [.int r1]) (st := []) (rv := fun r => some (.int r.1)) (mm := fun r => r.2) F dX9_statement_88 qX9_207 rfl lo_X9 rfl (fun r h => kM_readsAll E hE h) rfl (Nat.le_of_ble_eq_true rfl) ⟨Nat.le_of_ble_eq_true rfl, Nat.le_of_ble_eq_true rfl⟩ (fun r47 => ?_)
              refine jm_if_eq F dX9_statement_91 (fun c48 => ?_) (fun c48 => ?_)
              · refine jm_iconst F dX9_statement_103 kc_0 ?_
                exact jm_zret F dX9_statement_104 (Or.inl rfl) (fun h => h)
              · refine jm_aload_n (i := 0) F dX9_statement_94 rfl rfl ?_
                refine jm_callV (As := []) (st := []) (rv := fun r => some (.int r)) (mm := fun _ => r47.2) F dX9_statement_95 qX9_178 rfl lo_X9 rfl (fun r h => kM_sign E hE h) rfl (Nat.le_of_ble_eq_true rfl) ⟨Nat.le_of_ble_eq_true rfl, Nat.le_of_ble_eq_true rfl⟩ (fun r49 => ?_)
                refine jm_bipush F dX9_statement_98 kb_59 ?_
                refine jm_icmp_eq F dX9_statement_100 (fun c50 => ?_) (fun c50 => ?_)
                · refine jm_aload_n (i := 0) F dX9_statement_105 rfl rfl ?_
                  refine jm_dup F dX9_statement_106 rfl ?_
                  refine jm_getI F dX9_statement_107 fl_X9_175 lo_X9 rfl ?_
                  refine jm_iconst F dX9_statement_110 kc_1 ?_
                  refine jm_iadd F dX9_statement_111 ?_
                  refine jm_putI F dX9_statement_112 fp_X9_175 lo_X9 rfl (fun M51 => ?_)
                  refine jm_iconst F dX9_statement_115 kc_1 ?_
                  exact jm_zret F dX9_statement_116 (Or.inr rfl) (fun h => h)
                · refine jm_iconst F dX9_statement_103 kc_0 ?_
                  exact jm_zret F dX9_statement_104 (Or.inl rfl) (fun h => h)
            · refine jm_iload_n (i := 1) F dX9_statement_35 rfl rfl ?_
              refine jm_bipush F dX9_statement_36 kb_119 ?_
              refine jm_icmp_eq F dX9_statement_38 (fun c52 => ?_) (fun c52 => ?_)
              · refine jm_aload_n (i := 0) F dX9_statement_43 rfl rfl ?_
                refine jm_getR F dX9_statement_44 fl_X9_52 lo_X9 rfl ?_
                refine jm_aload_n (i := 0) F dX9_statement_47 rfl rfl ?_
                refine jm_getI F dX9_statement_48 fl_X9_188 lo_X9 rfl ?_
                refine jm_iload_n (i := 1) F dX9_statement_51 rfl rfl ?_
                refine jm_iast F dX9_statement_52 la_X9_20 (fun M53 => ?_)
                refine jm_aload_n (i := 0) F dX9_statement_53 rfl rfl ?_
                refine jm_getR F dX9_statement_54 fl_X9_55 lo_X9 rfl ?_
                refine jm_aload_n (i := 0) F dX9_statement_57 rfl rfl ?_
                refine jm_getI F dX9_statement_58 fl_X9_188 lo_X9 rfl ?_
                refine jm_aload_n (i := 0) F dX9_statement_61 rfl rfl ?_
                refine jm_getI F dX9_statement_62 fl_X9_175 lo_X9 rfl ?_
                refine jm_iast F dX9_statement_65 la_X9_21 (fun M54 => ?_)
                refine jm_aload_n (i := 0) F dX9_statement_66 rfl rfl ?_
                refine jm_iconst F dX9_statement_67 kc_3 ?_
                refine jm_aload_n (i := 0) F dX9_statement_68 rfl rfl ?_
                refine jm_getI F dX9_statement_69 fl_X9_188 lo_X9 rfl ?_
                refine jm_imul F dX9_statement_72 ?_
                refine jm_putI F dX9_statement_73 fp_X9_182 lo_X9 rfl (fun M55 => ?_)
                refine jm_aload_n (i := 0) F dX9_statement_76 rfl rfl ?_
                refine jm_dup F dX9_statement_77 rfl ?_
                refine jm_getI F dX9_statement_78 fl_X9_175 lo_X9 rfl ?_
                refine jm_iconst F dX9_statement_81 kc_1 ?_
                refine jm_iadd F dX9_statement_82 ?_
                refine jm_putI F dX9_statement_83 fp_X9_175 lo_X9 rfl (fun M56 => ?_)
                refine jm_aload_n (i := 0) F dX9_statement_86 rfl rfl ?_
                refine jm_iload_n (i := 1) F dX9_statement_87 rfl rfl ?_
                refine jm_callV (As := [.int r1]) (st := []) (rv := fun r => some (.int r.1)) (mm := fun r => r.2) F dX9_statement_88 qX9_207 rfl lo_X9 rfl (fun r h => kM_readsAll E hE h) rfl (Nat.le_of_ble_eq_true rfl) ⟨Nat.le_of_ble_eq_true rfl, Nat.le_of_ble_eq_true rfl⟩ (fun r57 => ?_)
                refine jm_if_eq F dX9_statement_91 (fun c58 => ?_) (fun c58 => ?_)
                · refine jm_iconst F dX9_statement_103 kc_0 ?_
                  exact jm_zret F dX9_statement_104 (Or.inl rfl) (fun h => h)
                · refine jm_aload_n (i := 0) F dX9_statement_94 rfl rfl ?_
                  refine jm_callV (As := []) (st := []) (rv := fun r => some (.int r)) (mm := fun _ => r57.2) F dX9_statement_95 qX9_178 rfl lo_X9 rfl (fun r h => kM_sign E hE h) rfl (Nat.le_of_ble_eq_true rfl) ⟨Nat.le_of_ble_eq_true rfl, Nat.le_of_ble_eq_true rfl⟩ (fun r59 => ?_)
                  refine jm_bipush F dX9_statement_98 kb_59 ?_
                  refine jm_icmp_eq F dX9_statement_100 (fun c60 => ?_) (fun c60 => ?_)
                  · refine jm_aload_n (i := 0) F dX9_statement_105 rfl rfl ?_
                    refine jm_dup F dX9_statement_106 rfl ?_
                    refine jm_getI F dX9_statement_107 fl_X9_175 lo_X9 rfl ?_
                    refine jm_iconst F dX9_statement_110 kc_1 ?_
                    refine jm_iadd F dX9_statement_111 ?_
                    refine jm_putI F dX9_statement_112 fp_X9_175 lo_X9 rfl (fun M61 => ?_)
                    refine jm_iconst F dX9_statement_115 kc_1 ?_
                    exact jm_zret F dX9_statement_116 (Or.inr rfl) (fun h => h)
                  · refine jm_iconst F dX9_statement_103 kc_0 ?_
                    exact jm_zret F dX9_statement_104 (Or.inl rfl) (fun h => h)
              · refine jm_iconst F dX9_statement_41 kc_0 ?_
                exact jm_zret F dX9_statement_42 (Or.inl rfl) (fun h => h)
  exact G r h hz
theorem dX9_isTitled_0 : jm_d cX9_isTitled 0 (.aload_n 0) 1 1 := ⟨by decide +kernel, rfl⟩
theorem dX9_isTitled_1 : jm_d cX9_isTitled 1 (.getfield 37) 3 4 := ⟨by decide +kernel, rfl⟩
theorem dX9_isTitled_4 : jm_d cX9_isTitled 4 (.iload_n 1) 1 5 := ⟨by decide +kernel, rfl⟩
theorem dX9_isTitled_5 : jm_d cX9_isTitled 5 (.iaload) 1 6 := ⟨by decide +kernel, rfl⟩
theorem dX9_isTitled_6 : jm_d cX9_isTitled 6 (.iload_n 3) 1 7 := ⟨by decide +kernel, rfl⟩
theorem dX9_isTitled_7 : jm_b cX9_isTitled 7 (.if_icmp .ne) 10 14 := ⟨7, by decide +kernel, rfl, by decide⟩
theorem dX9_isTitled_10 : jm_d cX9_isTitled 10 (.iconst 1) 1 11 := ⟨by decide +kernel, rfl⟩
theorem dX9_isTitled_11 : jm_b cX9_isTitled 11 .goto 14 15 := ⟨4, by decide +kernel, rfl, by decide⟩
theorem dX9_isTitled_14 : jm_d cX9_isTitled 14 (.iconst 0) 1 15 := ⟨by decide +kernel, rfl⟩
theorem dX9_isTitled_15 : jm_d cX9_isTitled 15 (.istore 4) 2 17 := ⟨by decide +kernel, rfl⟩
theorem dX9_isTitled_17 : jm_d cX9_isTitled 17 (.iconst 0) 1 18 := ⟨by decide +kernel, rfl⟩
theorem dX9_isTitled_18 : jm_d cX9_isTitled 18 (.istore 5) 2 20 := ⟨by decide +kernel, rfl⟩
theorem dX9_isTitled_20 : jm_d cX9_isTitled 20 (.iload 5) 2 22 := ⟨by decide +kernel, rfl⟩
theorem dX9_isTitled_22 : jm_d cX9_isTitled 22 (.iload_n 3) 1 23 := ⟨by decide +kernel, rfl⟩
theorem dX9_isTitled_23 : jm_b cX9_isTitled 23 (.if_icmp .ge) 26 70 := ⟨47, by decide +kernel, rfl, by decide⟩
theorem dX9_isTitled_26 : jm_d cX9_isTitled 26 (.iload 4) 2 28 := ⟨by decide +kernel, rfl⟩
theorem dX9_isTitled_28 : jm_b cX9_isTitled 28 (.ifCond .eq) 31 70 := ⟨42, by decide +kernel, rfl, by decide⟩
theorem dX9_isTitled_31 : jm_d cX9_isTitled 31 (.aload_n 0) 1 32 := ⟨by decide +kernel, rfl⟩
theorem dX9_isTitled_32 : jm_d cX9_isTitled 32 (.getfield 40) 3 35 := ⟨by decide +kernel, rfl⟩
theorem dX9_isTitled_35 : jm_d cX9_isTitled 35 (.iconst 4) 1 36 := ⟨by decide +kernel, rfl⟩
theorem dX9_isTitled_36 : jm_d cX9_isTitled 36 (.iload_n 1) 1 37 := ⟨by decide +kernel, rfl⟩
theorem dX9_isTitled_37 : jm_d cX9_isTitled 37 (.imul) 1 38 := ⟨by decide +kernel, rfl⟩
theorem dX9_isTitled_38 : jm_d cX9_isTitled 38 (.iload 5) 2 40 := ⟨by decide +kernel, rfl⟩
theorem dX9_isTitled_40 : jm_d cX9_isTitled 40 (.iadd) 1 41 := ⟨by decide +kernel, rfl⟩
theorem dX9_isTitled_41 : jm_d cX9_isTitled 41 (.iaload) 1 42 := ⟨by decide +kernel, rfl⟩
theorem dX9_isTitled_42 : jm_d cX9_isTitled 42 (.aload_n 0) 1 43 := ⟨by decide +kernel, rfl⟩
theorem dX9_isTitled_43 : jm_d cX9_isTitled 43 (.getfield 49) 3 46 := ⟨by decide +kernel, rfl⟩
theorem dX9_isTitled_46 : jm_d cX9_isTitled 46 (.iload_n 2) 1 47 := ⟨by decide +kernel, rfl⟩
theorem dX9_isTitled_47 : jm_d cX9_isTitled 47 (.iload 5) 2 49 := ⟨by decide +kernel, rfl⟩
theorem dX9_isTitled_49 : jm_d cX9_isTitled 49 (.iadd) 1 50 := ⟨by decide +kernel, rfl⟩
theorem dX9_isTitled_50 : jm_d cX9_isTitled 50 (.iaload) 1 51 := ⟨by decide +kernel, rfl⟩
theorem dX9_isTitled_51 : jm_d cX9_isTitled 51 (.bipush 97) 2 53 := ⟨by decide +kernel, rfl⟩
theorem dX9_isTitled_53 : jm_d cX9_isTitled 53 (.isub) 1 54 := ⟨by decide +kernel, rfl⟩
theorem dX9_isTitled_54 : jm_b cX9_isTitled 54 (.if_icmp .ne) 57 61 := ⟨7, by decide +kernel, rfl, by decide⟩
theorem dX9_isTitled_57 : jm_d cX9_isTitled 57 (.iconst 1) 1 58 := ⟨by decide +kernel, rfl⟩
theorem dX9_isTitled_58 : jm_b cX9_isTitled 58 .goto 61 62 := ⟨4, by decide +kernel, rfl, by decide⟩
theorem dX9_isTitled_62 : jm_d cX9_isTitled 62 (.istore 4) 2 64 := ⟨by decide +kernel, rfl⟩
theorem dX9_isTitled_64 : jm_d cX9_isTitled 64 (.iinc 5 1) 3 67 := ⟨by decide +kernel, rfl⟩
theorem dX9_isTitled_67 : jm_b cX9_isTitled 67 .goto 70 20 := ⟨(-47), by decide +kernel, rfl, by decide⟩
theorem dX9_isTitled_61 : jm_d cX9_isTitled 61 (.iconst 0) 1 62 := ⟨by decide +kernel, rfl⟩
theorem dX9_isTitled_70 : jm_d cX9_isTitled 70 (.iload 4) 2 72 := ⟨by decide +kernel, rfl⟩
theorem dX9_isTitled_72 : jm_d cX9_isTitled 72 (.ireturn) 1 73 := ⟨by decide +kernel, rfl⟩
set_option maxHeartbeats 4000000 in
set_option maxRecDepth 100000 in
theorem kM_isTitled (E : jm_Ev) (hE : jm_dj E jm_LM) {M : jm_M} {p1 : Int32} {p2 : Int32} {p3 : Int32}  {r : Int32} (h : sM_isTitled M p1 p2 p3 = some r) : jm_Ct E jm_LM yX9_isTitled cX9_isTitled 6 (some .boolean) 0 0 [.ref (jm_a E 0 0), .int p1, .int p2, .int p3] M (some (.int r)) M := by
  refine jm_enter (lv := [some (.ref (jm_a E 0 0)), some (.int p1), some (.int p2), some (.int p3), none, none]) hE (by decide) (Nat.le_of_ble_eq_true rfl) rfl ?_
  intro z w F hz
  have G : jm_G w 0 [some (.ref (jm_a E 0 0)), some (.int p1), some (.int p2), some (.int p3), none, none] [] M (sM_isTitled M p1 p2 p3) (fun e => z (some (.int e)) M) := by
    unfold sM_isTitled
    refine jm_aload_n (i := 0) F dX9_isTitled_0 rfl rfl ?_
    refine jm_getR F dX9_isTitled_1 fl_X9_37 lo_X9 rfl ?_
    refine jm_iload_n (i := 1) F dX9_isTitled_4 rfl rfl ?_
    refine jm_iald F dX9_isTitled_5 la_X9_10 (fun v1 => ?_)
    refine jm_iload_n (i := 3) F dX9_isTitled_6 rfl rfl ?_
    refine jm_bind (pcJ := 15) (lvJ := fun e2 => [some (.ref (jm_a E 0 0)), some (.int p1), some (.int p2), some (.int p3), none, none]) (stJ := fun e2 => [.int e2]) (MJ := fun e2 => M) ?_ (fun e2 => ?_)
    · refine jm_icmp_ne F dX9_isTitled_7 (fun c3 => ?_) (fun c3 => ?_)
      · refine jm_iconst F dX9_isTitled_10 kc_1 ?_
        refine jm_goto F dX9_isTitled_11 ?_
        exact jm_weakD F (lv' := [some (.ref (jm_a E 0 0)), some (.int p1), some (.int p2), some (.int p3), none, none]) ⟨rfl, rfl, rfl, rfl, trivial⟩ (fun h => h)
      · refine jm_iconst F dX9_isTitled_14 kc_0 ?_
        exact jm_weakD F (lv' := [some (.ref (jm_a E 0 0)), some (.int p1), some (.int p2), some (.int p3), none, none]) ⟨rfl, rfl, rfl, rfl, trivial⟩ (fun h => h)
    · refine jm_istore (i := 4) (lv' := [some (.ref (jm_a E 0 0)), some (.int p1), some (.int p2), some (.int p3), some (.int e2), none]) F dX9_isTitled_15 (by decide) rfl rfl ?_
      refine jm_iconst F dX9_isTitled_17 kc_0 ?_
      refine jm_istore (i := 5) (lv' := [some (.ref (jm_a E 0 0)), some (.int p1), some (.int p2), some (.int p3), some (.int e2), some (.int 0)]) F dX9_isTitled_18 (by decide) rfl rfl ?_
      refine jm_bind (pcJ := 70) (lvJ := fun e10 => [none, none, none, none, some (.int e10), none]) (stJ := fun _ => []) (MJ := fun e10 => M) ?_ (fun e10 => ?_)
      · refine jm_weak F (lv' := [some (.ref (jm_a E 0 0)), some (.int p1), some (.int p2), some (.int p3), some (.int e2), some (.int 0)]) ⟨rfl, rfl, rfl, rfl, rfl, rfl, trivial⟩ ?_
        refine jm_loopR (lvH := fun s4 => [some (.ref (jm_a E 0 0)), some (.int p1), some (.int p2), some (.int p3), some (.int s4.1), some (.int s4.2)]) (MH := fun s4 => M) (fun s4 => ?_) jm_N (e2, 0)
        unfold sM_isTitled_L20
        refine jm_iload F dX9_isTitled_20 rfl ?_
        refine jm_iload_n (i := 3) F dX9_isTitled_22 rfl rfl ?_
        refine jm_icmp_ge F dX9_isTitled_23 (fun c5 => ?_) (fun c5 => ?_)
        · exact jm_weakD F (lv' := [none, none, none, none, some (.int s4.1), none]) ⟨rfl, trivial⟩ (fun h => h)
        · refine jm_iload F dX9_isTitled_26 rfl ?_
          refine jm_if_eq F dX9_isTitled_28 (fun c6 => ?_) (fun c6 => ?_)
          · exact jm_weakD F (lv' := [none, none, none, none, some (.int s4.1), none]) ⟨rfl, trivial⟩ (fun h => h)
          · refine jm_aload_n (i := 0) F dX9_isTitled_31 rfl rfl ?_
            refine jm_getR F dX9_isTitled_32 fl_X9_40 lo_X9 rfl ?_
            refine jm_iconst F dX9_isTitled_35 kc_4 ?_
            refine jm_iload_n (i := 1) F dX9_isTitled_36 rfl rfl ?_
            refine jm_imul F dX9_isTitled_37 ?_
            refine jm_iload F dX9_isTitled_38 rfl ?_
            refine jm_iadd F dX9_isTitled_40 ?_
            refine jm_iald F dX9_isTitled_41 la_X9_11 (fun v7 => ?_)
            refine jm_aload_n (i := 0) F dX9_isTitled_42 rfl rfl ?_
            refine jm_getR F dX9_isTitled_43 fl_X9_49 lo_X9 rfl ?_
            refine jm_iload_n (i := 2) F dX9_isTitled_46 rfl rfl ?_
            refine jm_iload F dX9_isTitled_47 rfl ?_
            refine jm_iadd F dX9_isTitled_49 ?_
            refine jm_iald F dX9_isTitled_50 la_X9_19 (fun v8 => ?_)
            refine jm_bipush F dX9_isTitled_51 kb_97 ?_
            refine jm_isub F dX9_isTitled_53 ?_
            refine jm_icmp_ne F dX9_isTitled_54 (fun c9 => ?_) (fun c9 => ?_)
            · refine jm_iconst F dX9_isTitled_57 kc_1 ?_
              refine jm_goto F dX9_isTitled_58 ?_
              refine jm_istore (i := 4) (lv' := [some (.ref (jm_a E 0 0)), some (.int p1), some (.int p2), some (.int p3), some (.int 1), some (.int s4.2)]) F dX9_isTitled_62 (by decide) rfl rfl ?_
              refine jm_iinc (i := 5) (lv' := [some (.ref (jm_a E 0 0)), some (.int p1), some (.int p2), some (.int p3), some (.int 1), some (.int (s4.2 + 1))]) F dX9_isTitled_64 kc_1 rfl (by decide) rfl rfl ?_
              refine jm_goto F dX9_isTitled_67 ?_
              exact jm_weakD F (lv' := [some (.ref (jm_a E 0 0)), some (.int p1), some (.int p2), some (.int p3), some (.int 1), some (.int (s4.2 + 1))]) ⟨rfl, rfl, rfl, rfl, rfl, rfl, trivial⟩ (fun h => h)
            · refine jm_iconst F dX9_isTitled_61 kc_0 ?_
              refine jm_istore (i := 4) (lv' := [some (.ref (jm_a E 0 0)), some (.int p1), some (.int p2), some (.int p3), some (.int 0), some (.int s4.2)]) F dX9_isTitled_62 (by decide) rfl rfl ?_
              refine jm_iinc (i := 5) (lv' := [some (.ref (jm_a E 0 0)), some (.int p1), some (.int p2), some (.int p3), some (.int 0), some (.int (s4.2 + 1))]) F dX9_isTitled_64 kc_1 rfl (by decide) rfl rfl ?_
              refine jm_goto F dX9_isTitled_67 ?_
              exact jm_weakD F (lv' := [some (.ref (jm_a E 0 0)), some (.int p1), some (.int p2), some (.int p3), some (.int 0), some (.int (s4.2 + 1))]) ⟨rfl, rfl, rfl, rfl, rfl, rfl, trivial⟩ (fun h => h)
      · refine jm_iload F dX9_isTitled_70 rfl ?_
        refine jm_bzB (fun hb12 => ?_)
        exact jm_zret F dX9_isTitled_72 hb12 (fun h => h)
  exact G r h hz
theorem dX9_titledBy_0 : jm_d cX9_titledBy 0 (.iconst 0) 1 1 := ⟨by decide +kernel, rfl⟩
theorem dX9_titledBy_1 : jm_d cX9_titledBy 1 (.istore_n 2) 1 2 := ⟨by decide +kernel, rfl⟩
theorem dX9_titledBy_2 : jm_d cX9_titledBy 2 (.iload_n 2) 1 3 := ⟨by decide +kernel, rfl⟩
theorem dX9_titledBy_3 : jm_d cX9_titledBy 3 (.aload_n 0) 1 4 := ⟨by decide +kernel, rfl⟩
theorem dX9_titledBy_4 : jm_d cX9_titledBy 4 (.getfield 106) 3 7 := ⟨by decide +kernel, rfl⟩
theorem dX9_titledBy_7 : jm_b cX9_titledBy 7 (.if_icmp .ge) 10 38 := ⟨31, by decide +kernel, rfl, by decide⟩
theorem dX9_titledBy_10 : jm_d cX9_titledBy 10 (.aload_n 0) 1 11 := ⟨by decide +kernel, rfl⟩
theorem dX9_titledBy_11 : jm_d cX9_titledBy 11 (.iload_n 2) 1 12 := ⟨by decide +kernel, rfl⟩
theorem dX9_titledBy_12 : jm_d cX9_titledBy 12 (.aload_n 0) 1 13 := ⟨by decide +kernel, rfl⟩
theorem dX9_titledBy_13 : jm_d cX9_titledBy 13 (.getfield 61) 3 16 := ⟨by decide +kernel, rfl⟩
theorem dX9_titledBy_16 : jm_d cX9_titledBy 16 (.iload_n 1) 1 17 := ⟨by decide +kernel, rfl⟩
theorem dX9_titledBy_17 : jm_d cX9_titledBy 17 (.iaload) 1 18 := ⟨by decide +kernel, rfl⟩
theorem dX9_titledBy_18 : jm_d cX9_titledBy 18 (.aload_n 0) 1 19 := ⟨by decide +kernel, rfl⟩
theorem dX9_titledBy_19 : jm_d cX9_titledBy 19 (.getfield 64) 3 22 := ⟨by decide +kernel, rfl⟩
theorem dX9_titledBy_22 : jm_d cX9_titledBy 22 (.iload_n 1) 1 23 := ⟨by decide +kernel, rfl⟩
theorem dX9_titledBy_23 : jm_d cX9_titledBy 23 (.iaload) 1 24 := ⟨by decide +kernel, rfl⟩
theorem dX9_titledBy_24 : jm_d cX9_titledBy 24 (.invokevirtual 210) 3 27 := ⟨by decide +kernel, rfl⟩
theorem dX9_titledBy_27 : jm_b cX9_titledBy 27 (.ifCond .eq) 30 32 := ⟨5, by decide +kernel, rfl, by decide⟩
theorem dX9_titledBy_32 : jm_d cX9_titledBy 32 (.iinc 2 1) 3 35 := ⟨by decide +kernel, rfl⟩
theorem dX9_titledBy_35 : jm_b cX9_titledBy 35 .goto 38 2 := ⟨(-33), by decide +kernel, rfl, by decide⟩
theorem dX9_titledBy_30 : jm_d cX9_titledBy 30 (.iload_n 2) 1 31 := ⟨by decide +kernel, rfl⟩
theorem dX9_titledBy_31 : jm_d cX9_titledBy 31 (.ireturn) 1 32 := ⟨by decide +kernel, rfl⟩
theorem dX9_titledBy_38 : jm_d cX9_titledBy 38 (.bipush (-9)) 2 40 := ⟨by decide +kernel, rfl⟩
theorem dX9_titledBy_40 : jm_d cX9_titledBy 40 (.ireturn) 1 41 := ⟨by decide +kernel, rfl⟩
set_option maxHeartbeats 4000000 in
set_option maxRecDepth 100000 in
theorem kM_titledBy (E : jm_Ev) (hE : jm_dj E jm_LM) {M : jm_M} {p1 : Int32}  {r : Int32} (h : sM_titledBy M p1 = some r) : jm_Ct E jm_LM yX9_titledBy cX9_titledBy 3 (some .int) 1 25 [.ref (jm_a E 0 0), .int p1] M (some (.int r)) M := by
  refine jm_enter (lv := [some (.ref (jm_a E 0 0)), some (.int p1), none]) hE (by decide) (Nat.le_of_ble_eq_true rfl) rfl ?_
  intro z w F hz
  have G : jm_G w 0 [some (.ref (jm_a E 0 0)), some (.int p1), none] [] M (sM_titledBy M p1) (fun e => z (some (.int e)) M) := by
    unfold sM_titledBy
    refine jm_iconst F dX9_titledBy_0 kc_0 ?_
    refine jm_istore_n (i := 2) (lv' := [some (.ref (jm_a E 0 0)), some (.int p1), some (.int 0)]) F dX9_titledBy_1 rfl (by decide) rfl rfl ?_
    refine jm_bindS (pcJ := 38) (lvJ := fun e7 => [none, none, none]) (stJ := fun _ => []) (MJ := fun e7 => M) ?_ (fun e7 => ?_)
    · refine jm_weak F (lv' := [some (.ref (jm_a E 0 0)), some (.int p1), some (.int 0)]) ⟨rfl, rfl, rfl, trivial⟩ ?_
      refine jm_loopR (lvH := fun s1 => [some (.ref (jm_a E 0 0)), some (.int p1), some (.int s1)]) (MH := fun s1 => M) (fun s1 => ?_) jm_N 0
      unfold sM_titledBy_L2
      refine jm_iload_n (i := 2) F dX9_titledBy_2 rfl rfl ?_
      refine jm_aload_n (i := 0) F dX9_titledBy_3 rfl rfl ?_
      refine jm_getI F dX9_titledBy_4 fl_X9_106 lo_X9 rfl ?_
      refine jm_icmp_ge F dX9_titledBy_7 (fun c2 => ?_) (fun c2 => ?_)
      · exact jm_weakD F (lv' := [none, none, none]) trivial (fun h => h)
      · refine jm_aload_n (i := 0) F dX9_titledBy_10 rfl rfl ?_
        refine jm_iload_n (i := 2) F dX9_titledBy_11 rfl rfl ?_
        refine jm_aload_n (i := 0) F dX9_titledBy_12 rfl rfl ?_
        refine jm_getR F dX9_titledBy_13 fl_X9_61 lo_X9 rfl ?_
        refine jm_iload_n (i := 1) F dX9_titledBy_16 rfl rfl ?_
        refine jm_iald F dX9_titledBy_17 la_X9_23 (fun v3 => ?_)
        refine jm_aload_n (i := 0) F dX9_titledBy_18 rfl rfl ?_
        refine jm_getR F dX9_titledBy_19 fl_X9_64 lo_X9 rfl ?_
        refine jm_iload_n (i := 1) F dX9_titledBy_22 rfl rfl ?_
        refine jm_iald F dX9_titledBy_23 la_X9_24 (fun v4 => ?_)
        refine jm_callV (As := [.int s1, .int v3, .int v4]) (st := []) (rv := fun r => some (.int r)) (mm := fun _ => M) F dX9_titledBy_24 qX9_210 rfl lo_X9 rfl (fun r h => kM_isTitled E hE h) rfl (Nat.le_of_ble_eq_true rfl) ⟨Nat.le_of_ble_eq_true rfl, Nat.le_of_ble_eq_true rfl⟩ (fun r5 => ?_)
        refine jm_if_eq F dX9_titledBy_27 (fun c6 => ?_) (fun c6 => ?_)
        · refine jm_iinc (i := 2) (lv' := [some (.ref (jm_a E 0 0)), some (.int p1), some (.int (s1 + 1))]) F dX9_titledBy_32 kc_1 rfl (by decide) rfl rfl ?_
          refine jm_goto F dX9_titledBy_35 ?_
          exact jm_weakD F (lv' := [some (.ref (jm_a E 0 0)), some (.int p1), some (.int (s1 + 1))]) ⟨rfl, rfl, rfl, trivial⟩ (fun h => h)
        · refine jm_iload_n (i := 2) F dX9_titledBy_30 rfl rfl ?_
          exact jm_iret F dX9_titledBy_31 (fun h => h)
    · refine jm_bipush F dX9_titledBy_38 kb_m9 ?_
      exact jm_iret F dX9_titledBy_40 (fun h => h)
  exact G r h hz
theorem dX9_isMore_0 : jm_d cX9_isMore 0 (.aload_n 0) 1 1 := ⟨by decide +kernel, rfl⟩
theorem dX9_isMore_1 : jm_d cX9_isMore 1 (.getfield 13) 3 4 := ⟨by decide +kernel, rfl⟩
theorem dX9_isMore_4 : jm_d cX9_isMore 4 (.aload_n 0) 1 5 := ⟨by decide +kernel, rfl⟩
theorem dX9_isMore_5 : jm_d cX9_isMore 5 (.getfield 91) 3 8 := ⟨by decide +kernel, rfl⟩
theorem dX9_isMore_8 : jm_d cX9_isMore 8 (.iload_n 1) 1 9 := ⟨by decide +kernel, rfl⟩
theorem dX9_isMore_9 : jm_d cX9_isMore 9 (.iastore) 1 10 := ⟨by decide +kernel, rfl⟩
theorem dX9_isMore_10 : jm_d cX9_isMore 10 (.aload_n 0) 1 11 := ⟨by decide +kernel, rfl⟩
theorem dX9_isMore_11 : jm_d cX9_isMore 11 (.getfield 16) 3 14 := ⟨by decide +kernel, rfl⟩
theorem dX9_isMore_14 : jm_d cX9_isMore 14 (.aload_n 0) 1 15 := ⟨by decide +kernel, rfl⟩
theorem dX9_isMore_15 : jm_d cX9_isMore 15 (.getfield 91) 3 18 := ⟨by decide +kernel, rfl⟩
theorem dX9_isMore_18 : jm_d cX9_isMore 18 (.iload_n 2) 1 19 := ⟨by decide +kernel, rfl⟩
theorem dX9_isMore_19 : jm_d cX9_isMore 19 (.iastore) 1 20 := ⟨by decide +kernel, rfl⟩
theorem dX9_isMore_20 : jm_d cX9_isMore 20 (.aload_n 0) 1 21 := ⟨by decide +kernel, rfl⟩
theorem dX9_isMore_21 : jm_d cX9_isMore 21 (.getfield 19) 3 24 := ⟨by decide +kernel, rfl⟩
theorem dX9_isMore_24 : jm_d cX9_isMore 24 (.aload_n 0) 1 25 := ⟨by decide +kernel, rfl⟩
theorem dX9_isMore_25 : jm_d cX9_isMore 25 (.getfield 91) 3 28 := ⟨by decide +kernel, rfl⟩
theorem dX9_isMore_28 : jm_d cX9_isMore 28 (.iload_n 3) 1 29 := ⟨by decide +kernel, rfl⟩
theorem dX9_isMore_29 : jm_d cX9_isMore 29 (.iastore) 1 30 := ⟨by decide +kernel, rfl⟩
theorem dX9_isMore_30 : jm_d cX9_isMore 30 (.aload_n 0) 1 31 := ⟨by decide +kernel, rfl⟩
theorem dX9_isMore_31 : jm_d cX9_isMore 31 (.dup) 1 32 := ⟨by decide +kernel, rfl⟩
theorem dX9_isMore_32 : jm_d cX9_isMore 32 (.getfield 91) 3 35 := ⟨by decide +kernel, rfl⟩
theorem dX9_isMore_35 : jm_d cX9_isMore 35 (.iconst 1) 1 36 := ⟨by decide +kernel, rfl⟩
theorem dX9_isMore_36 : jm_d cX9_isMore 36 (.iadd) 1 37 := ⟨by decide +kernel, rfl⟩
theorem dX9_isMore_37 : jm_d cX9_isMore 37 (.putfield 91) 3 40 := ⟨by decide +kernel, rfl⟩
theorem dX9_isMore_40 : jm_d cX9_isMore 40 (.return_) 1 41 := ⟨by decide +kernel, rfl⟩
set_option maxHeartbeats 4000000 in
set_option maxRecDepth 100000 in
theorem kM_isMore (E : jm_Ev) (hE : jm_dj E jm_LM) {M : jm_M} {p1 : Int32} {p2 : Int32} {p3 : Int32}  {r : jm_M} (h : sM_isMore M p1 p2 p3 = some r) : jm_Ct E jm_LM yX9_isMore cX9_isMore 4 none 0 0 [.ref (jm_a E 0 0), .int p1, .int p2, .int p3] M none r := by
  refine jm_enter (lv := [some (.ref (jm_a E 0 0)), some (.int p1), some (.int p2), some (.int p3)]) hE (by decide) (Nat.le_of_ble_eq_true rfl) rfl ?_
  intro z w F hz
  have G : jm_G w 0 [some (.ref (jm_a E 0 0)), some (.int p1), some (.int p2), some (.int p3)] [] M (sM_isMore M p1 p2 p3) (fun e => z none e) := by
    unfold sM_isMore
    refine jm_aload_n (i := 0) F dX9_isMore_0 rfl rfl ?_
    refine jm_getR F dX9_isMore_1 fl_X9_13 lo_X9 rfl ?_
    refine jm_aload_n (i := 0) F dX9_isMore_4 rfl rfl ?_
    refine jm_getI F dX9_isMore_5 fl_X9_91 lo_X9 rfl ?_
    refine jm_iload_n (i := 1) F dX9_isMore_8 rfl rfl ?_
    refine jm_iast F dX9_isMore_9 la_X9_2 (fun M1 => ?_)
    refine jm_aload_n (i := 0) F dX9_isMore_10 rfl rfl ?_
    refine jm_getR F dX9_isMore_11 fl_X9_16 lo_X9 rfl ?_
    refine jm_aload_n (i := 0) F dX9_isMore_14 rfl rfl ?_
    refine jm_getI F dX9_isMore_15 fl_X9_91 lo_X9 rfl ?_
    refine jm_iload_n (i := 2) F dX9_isMore_18 rfl rfl ?_
    refine jm_iast F dX9_isMore_19 la_X9_3 (fun M2 => ?_)
    refine jm_aload_n (i := 0) F dX9_isMore_20 rfl rfl ?_
    refine jm_getR F dX9_isMore_21 fl_X9_19 lo_X9 rfl ?_
    refine jm_aload_n (i := 0) F dX9_isMore_24 rfl rfl ?_
    refine jm_getI F dX9_isMore_25 fl_X9_91 lo_X9 rfl ?_
    refine jm_iload_n (i := 3) F dX9_isMore_28 rfl rfl ?_
    refine jm_iast F dX9_isMore_29 la_X9_4 (fun M3 => ?_)
    refine jm_aload_n (i := 0) F dX9_isMore_30 rfl rfl ?_
    refine jm_dup F dX9_isMore_31 rfl ?_
    refine jm_getI F dX9_isMore_32 fl_X9_91 lo_X9 rfl ?_
    refine jm_iconst F dX9_isMore_35 kc_1 ?_
    refine jm_iadd F dX9_isMore_36 ?_
    refine jm_putI F dX9_isMore_37 fp_X9_91 lo_X9 rfl (fun M4 => ?_)
    exact jm_vret F dX9_isMore_40 (fun h => h)
  exact G r h hz
theorem dX9_isBrought_0 : jm_d cX9_isBrought 0 (.aload_n 0) 1 1 := ⟨by decide +kernel, rfl⟩
theorem dX9_isBrought_1 : jm_d cX9_isBrought 1 (.getfield 22) 3 4 := ⟨by decide +kernel, rfl⟩
theorem dX9_isBrought_4 : jm_d cX9_isBrought 4 (.aload_n 0) 1 5 := ⟨by decide +kernel, rfl⟩
theorem dX9_isBrought_5 : jm_d cX9_isBrought 5 (.getfield 106) 3 8 := ⟨by decide +kernel, rfl⟩
theorem dX9_isBrought_8 : jm_d cX9_isBrought 8 (.iload_n 1) 1 9 := ⟨by decide +kernel, rfl⟩
theorem dX9_isBrought_9 : jm_d cX9_isBrought 9 (.iastore) 1 10 := ⟨by decide +kernel, rfl⟩
theorem dX9_isBrought_10 : jm_d cX9_isBrought 10 (.aload_n 0) 1 11 := ⟨by decide +kernel, rfl⟩
theorem dX9_isBrought_11 : jm_d cX9_isBrought 11 (.getfield 25) 3 14 := ⟨by decide +kernel, rfl⟩
theorem dX9_isBrought_14 : jm_d cX9_isBrought 14 (.aload_n 0) 1 15 := ⟨by decide +kernel, rfl⟩
theorem dX9_isBrought_15 : jm_d cX9_isBrought 15 (.getfield 106) 3 18 := ⟨by decide +kernel, rfl⟩
theorem dX9_isBrought_18 : jm_d cX9_isBrought 18 (.iload_n 2) 1 19 := ⟨by decide +kernel, rfl⟩
theorem dX9_isBrought_19 : jm_d cX9_isBrought 19 (.iastore) 1 20 := ⟨by decide +kernel, rfl⟩
theorem dX9_isBrought_20 : jm_d cX9_isBrought 20 (.aload_n 0) 1 21 := ⟨by decide +kernel, rfl⟩
theorem dX9_isBrought_21 : jm_d cX9_isBrought 21 (.getfield 28) 3 24 := ⟨by decide +kernel, rfl⟩
theorem dX9_isBrought_24 : jm_d cX9_isBrought 24 (.aload_n 0) 1 25 := ⟨by decide +kernel, rfl⟩
theorem dX9_isBrought_25 : jm_d cX9_isBrought 25 (.getfield 106) 3 28 := ⟨by decide +kernel, rfl⟩
theorem dX9_isBrought_28 : jm_d cX9_isBrought 28 (.iload_n 3) 1 29 := ⟨by decide +kernel, rfl⟩
theorem dX9_isBrought_29 : jm_d cX9_isBrought 29 (.iastore) 1 30 := ⟨by decide +kernel, rfl⟩
theorem dX9_isBrought_30 : jm_d cX9_isBrought 30 (.aload_n 0) 1 31 := ⟨by decide +kernel, rfl⟩
theorem dX9_isBrought_31 : jm_d cX9_isBrought 31 (.getfield 31) 3 34 := ⟨by decide +kernel, rfl⟩
theorem dX9_isBrought_34 : jm_d cX9_isBrought 34 (.aload_n 0) 1 35 := ⟨by decide +kernel, rfl⟩
theorem dX9_isBrought_35 : jm_d cX9_isBrought 35 (.getfield 106) 3 38 := ⟨by decide +kernel, rfl⟩
theorem dX9_isBrought_38 : jm_d cX9_isBrought 38 (.iload_n 3) 1 39 := ⟨by decide +kernel, rfl⟩
theorem dX9_isBrought_39 : jm_d cX9_isBrought 39 (.iastore) 1 40 := ⟨by decide +kernel, rfl⟩
theorem dX9_isBrought_40 : jm_d cX9_isBrought 40 (.aload_n 0) 1 41 := ⟨by decide +kernel, rfl⟩
theorem dX9_isBrought_41 : jm_d cX9_isBrought 41 (.getfield 34) 3 44 := ⟨by decide +kernel, rfl⟩
theorem dX9_isBrought_44 : jm_d cX9_isBrought 44 (.aload_n 0) 1 45 := ⟨by decide +kernel, rfl⟩
theorem dX9_isBrought_45 : jm_d cX9_isBrought 45 (.getfield 106) 3 48 := ⟨by decide +kernel, rfl⟩
theorem dX9_isBrought_48 : jm_d cX9_isBrought 48 (.iconst 0) 1 49 := ⟨by decide +kernel, rfl⟩
theorem dX9_isBrought_49 : jm_d cX9_isBrought 49 (.iastore) 1 50 := ⟨by decide +kernel, rfl⟩
theorem dX9_isBrought_50 : jm_d cX9_isBrought 50 (.aload_n 0) 1 51 := ⟨by decide +kernel, rfl⟩
theorem dX9_isBrought_51 : jm_d cX9_isBrought 51 (.getfield 37) 3 54 := ⟨by decide +kernel, rfl⟩
theorem dX9_isBrought_54 : jm_d cX9_isBrought 54 (.aload_n 0) 1 55 := ⟨by decide +kernel, rfl⟩
theorem dX9_isBrought_55 : jm_d cX9_isBrought 55 (.getfield 106) 3 58 := ⟨by decide +kernel, rfl⟩
theorem dX9_isBrought_58 : jm_d cX9_isBrought 58 (.iconst 0) 1 59 := ⟨by decide +kernel, rfl⟩
theorem dX9_isBrought_59 : jm_d cX9_isBrought 59 (.iastore) 1 60 := ⟨by decide +kernel, rfl⟩
theorem dX9_isBrought_60 : jm_d cX9_isBrought 60 (.aload_n 0) 1 61 := ⟨by decide +kernel, rfl⟩
theorem dX9_isBrought_61 : jm_d cX9_isBrought 61 (.dup) 1 62 := ⟨by decide +kernel, rfl⟩
theorem dX9_isBrought_62 : jm_d cX9_isBrought 62 (.getfield 106) 3 65 := ⟨by decide +kernel, rfl⟩
theorem dX9_isBrought_65 : jm_d cX9_isBrought 65 (.iconst 1) 1 66 := ⟨by decide +kernel, rfl⟩
theorem dX9_isBrought_66 : jm_d cX9_isBrought 66 (.iadd) 1 67 := ⟨by decide +kernel, rfl⟩
theorem dX9_isBrought_67 : jm_d cX9_isBrought 67 (.putfield 106) 3 70 := ⟨by decide +kernel, rfl⟩
theorem dX9_isBrought_70 : jm_d cX9_isBrought 70 (.return_) 1 71 := ⟨by decide +kernel, rfl⟩
set_option maxHeartbeats 4000000 in
set_option maxRecDepth 100000 in
theorem kM_isBrought (E : jm_Ev) (hE : jm_dj E jm_LM) {M : jm_M} {p1 : Int32} {p2 : Int32} {p3 : Int32}  {r : jm_M} (h : sM_isBrought M p1 p2 p3 = some r) : jm_Ct E jm_LM yX9_isBrought cX9_isBrought 4 none 0 0 [.ref (jm_a E 0 0), .int p1, .int p2, .int p3] M none r := by
  refine jm_enter (lv := [some (.ref (jm_a E 0 0)), some (.int p1), some (.int p2), some (.int p3)]) hE (by decide) (Nat.le_of_ble_eq_true rfl) rfl ?_
  intro z w F hz
  have G : jm_G w 0 [some (.ref (jm_a E 0 0)), some (.int p1), some (.int p2), some (.int p3)] [] M (sM_isBrought M p1 p2 p3) (fun e => z none e) := by
    unfold sM_isBrought
    refine jm_aload_n (i := 0) F dX9_isBrought_0 rfl rfl ?_
    refine jm_getR F dX9_isBrought_1 fl_X9_22 lo_X9 rfl ?_
    refine jm_aload_n (i := 0) F dX9_isBrought_4 rfl rfl ?_
    refine jm_getI F dX9_isBrought_5 fl_X9_106 lo_X9 rfl ?_
    refine jm_iload_n (i := 1) F dX9_isBrought_8 rfl rfl ?_
    refine jm_iast F dX9_isBrought_9 la_X9_5 (fun M1 => ?_)
    refine jm_aload_n (i := 0) F dX9_isBrought_10 rfl rfl ?_
    refine jm_getR F dX9_isBrought_11 fl_X9_25 lo_X9 rfl ?_
    refine jm_aload_n (i := 0) F dX9_isBrought_14 rfl rfl ?_
    refine jm_getI F dX9_isBrought_15 fl_X9_106 lo_X9 rfl ?_
    refine jm_iload_n (i := 2) F dX9_isBrought_18 rfl rfl ?_
    refine jm_iast F dX9_isBrought_19 la_X9_6 (fun M2 => ?_)
    refine jm_aload_n (i := 0) F dX9_isBrought_20 rfl rfl ?_
    refine jm_getR F dX9_isBrought_21 fl_X9_28 lo_X9 rfl ?_
    refine jm_aload_n (i := 0) F dX9_isBrought_24 rfl rfl ?_
    refine jm_getI F dX9_isBrought_25 fl_X9_106 lo_X9 rfl ?_
    refine jm_iload_n (i := 3) F dX9_isBrought_28 rfl rfl ?_
    refine jm_iast F dX9_isBrought_29 la_X9_7 (fun M3 => ?_)
    refine jm_aload_n (i := 0) F dX9_isBrought_30 rfl rfl ?_
    refine jm_getR F dX9_isBrought_31 fl_X9_31 lo_X9 rfl ?_
    refine jm_aload_n (i := 0) F dX9_isBrought_34 rfl rfl ?_
    refine jm_getI F dX9_isBrought_35 fl_X9_106 lo_X9 rfl ?_
    refine jm_iload_n (i := 3) F dX9_isBrought_38 rfl rfl ?_
    refine jm_iast F dX9_isBrought_39 la_X9_8 (fun M4 => ?_)
    refine jm_aload_n (i := 0) F dX9_isBrought_40 rfl rfl ?_
    refine jm_getR F dX9_isBrought_41 fl_X9_34 lo_X9 rfl ?_
    refine jm_aload_n (i := 0) F dX9_isBrought_44 rfl rfl ?_
    refine jm_getI F dX9_isBrought_45 fl_X9_106 lo_X9 rfl ?_
    refine jm_iconst F dX9_isBrought_48 kc_0 ?_
    refine jm_iast F dX9_isBrought_49 la_X9_9 (fun M5 => ?_)
    refine jm_aload_n (i := 0) F dX9_isBrought_50 rfl rfl ?_
    refine jm_getR F dX9_isBrought_51 fl_X9_37 lo_X9 rfl ?_
    refine jm_aload_n (i := 0) F dX9_isBrought_54 rfl rfl ?_
    refine jm_getI F dX9_isBrought_55 fl_X9_106 lo_X9 rfl ?_
    refine jm_iconst F dX9_isBrought_58 kc_0 ?_
    refine jm_iast F dX9_isBrought_59 la_X9_10 (fun M6 => ?_)
    refine jm_aload_n (i := 0) F dX9_isBrought_60 rfl rfl ?_
    refine jm_dup F dX9_isBrought_61 rfl ?_
    refine jm_getI F dX9_isBrought_62 fl_X9_106 lo_X9 rfl ?_
    refine jm_iconst F dX9_isBrought_65 kc_1 ?_
    refine jm_iadd F dX9_isBrought_66 ?_
    refine jm_putI F dX9_isBrought_67 fp_X9_106 lo_X9 rfl (fun M7 => ?_)
    exact jm_vret F dX9_isBrought_70 (fun h => h)
  exact G r h hz
theorem dX9_isTitledMore_0 : jm_d cX9_isTitledMore 0 (.aload_n 0) 1 1 := ⟨by decide +kernel, rfl⟩
theorem dX9_isTitledMore_1 : jm_d cX9_isTitledMore 1 (.getfield 106) 3 4 := ⟨by decide +kernel, rfl⟩
theorem dX9_isTitledMore_4 : jm_d cX9_isTitledMore 4 (.iconst 1) 1 5 := ⟨by decide +kernel, rfl⟩
theorem dX9_isTitledMore_5 : jm_d cX9_isTitledMore 5 (.isub) 1 6 := ⟨by decide +kernel, rfl⟩
theorem dX9_isTitledMore_6 : jm_d cX9_isTitledMore 6 (.istore_n 2) 1 7 := ⟨by decide +kernel, rfl⟩
theorem dX9_isTitledMore_7 : jm_d cX9_isTitledMore 7 (.aload_n 0) 1 8 := ⟨by decide +kernel, rfl⟩
theorem dX9_isTitledMore_8 : jm_d cX9_isTitledMore 8 (.getfield 40) 3 11 := ⟨by decide +kernel, rfl⟩
theorem dX9_isTitledMore_11 : jm_d cX9_isTitledMore 11 (.iconst 4) 1 12 := ⟨by decide +kernel, rfl⟩
theorem dX9_isTitledMore_12 : jm_d cX9_isTitledMore 12 (.iload_n 2) 1 13 := ⟨by decide +kernel, rfl⟩
theorem dX9_isTitledMore_13 : jm_d cX9_isTitledMore 13 (.imul) 1 14 := ⟨by decide +kernel, rfl⟩
theorem dX9_isTitledMore_14 : jm_d cX9_isTitledMore 14 (.aload_n 0) 1 15 := ⟨by decide +kernel, rfl⟩
theorem dX9_isTitledMore_15 : jm_d cX9_isTitledMore 15 (.getfield 37) 3 18 := ⟨by decide +kernel, rfl⟩
theorem dX9_isTitledMore_18 : jm_d cX9_isTitledMore 18 (.iload_n 2) 1 19 := ⟨by decide +kernel, rfl⟩
theorem dX9_isTitledMore_19 : jm_d cX9_isTitledMore 19 (.iaload) 1 20 := ⟨by decide +kernel, rfl⟩
theorem dX9_isTitledMore_20 : jm_d cX9_isTitledMore 20 (.iadd) 1 21 := ⟨by decide +kernel, rfl⟩
theorem dX9_isTitledMore_21 : jm_d cX9_isTitledMore 21 (.iload_n 1) 1 22 := ⟨by decide +kernel, rfl⟩
theorem dX9_isTitledMore_22 : jm_d cX9_isTitledMore 22 (.iastore) 1 23 := ⟨by decide +kernel, rfl⟩
theorem dX9_isTitledMore_23 : jm_d cX9_isTitledMore 23 (.aload_n 0) 1 24 := ⟨by decide +kernel, rfl⟩
theorem dX9_isTitledMore_24 : jm_d cX9_isTitledMore 24 (.getfield 37) 3 27 := ⟨by decide +kernel, rfl⟩
theorem dX9_isTitledMore_27 : jm_d cX9_isTitledMore 27 (.iload_n 2) 1 28 := ⟨by decide +kernel, rfl⟩
theorem dX9_isTitledMore_28 : jm_d cX9_isTitledMore 28 (.dup2) 1 29 := ⟨by decide +kernel, rfl⟩
theorem dX9_isTitledMore_29 : jm_d cX9_isTitledMore 29 (.iaload) 1 30 := ⟨by decide +kernel, rfl⟩
theorem dX9_isTitledMore_30 : jm_d cX9_isTitledMore 30 (.iconst 1) 1 31 := ⟨by decide +kernel, rfl⟩
theorem dX9_isTitledMore_31 : jm_d cX9_isTitledMore 31 (.iadd) 1 32 := ⟨by decide +kernel, rfl⟩
theorem dX9_isTitledMore_32 : jm_d cX9_isTitledMore 32 (.iastore) 1 33 := ⟨by decide +kernel, rfl⟩
theorem dX9_isTitledMore_33 : jm_d cX9_isTitledMore 33 (.return_) 1 34 := ⟨by decide +kernel, rfl⟩
set_option maxHeartbeats 4000000 in
set_option maxRecDepth 100000 in
theorem kM_isTitledMore (E : jm_Ev) (hE : jm_dj E jm_LM) {M : jm_M} {p1 : Int32}  {r : jm_M} (h : sM_isTitledMore M p1 = some r) : jm_Ct E jm_LM yX9_isTitledMore cX9_isTitledMore 3 none 0 0 [.ref (jm_a E 0 0), .int p1] M none r := by
  refine jm_enter (lv := [some (.ref (jm_a E 0 0)), some (.int p1), none]) hE (by decide) (Nat.le_of_ble_eq_true rfl) rfl ?_
  intro z w F hz
  have G : jm_G w 0 [some (.ref (jm_a E 0 0)), some (.int p1), none] [] M (sM_isTitledMore M p1) (fun e => z none e) := by
    unfold sM_isTitledMore
    refine jm_aload_n (i := 0) F dX9_isTitledMore_0 rfl rfl ?_
    refine jm_getI F dX9_isTitledMore_1 fl_X9_106 lo_X9 rfl ?_
    refine jm_iconst F dX9_isTitledMore_4 kc_1 ?_
    refine jm_isub F dX9_isTitledMore_5 ?_
    refine jm_nameI (f := fun x1 => [.int x1]) (fun x1 => ?_) rfl
    refine jm_istore_n (i := 2) (lv' := [some (.ref (jm_a E 0 0)), some (.int p1), some (.int x1)]) F dX9_isTitledMore_6 rfl (by decide) rfl rfl ?_
    refine jm_aload_n (i := 0) F dX9_isTitledMore_7 rfl rfl ?_
    refine jm_getR F dX9_isTitledMore_8 fl_X9_40 lo_X9 rfl ?_
    refine jm_iconst F dX9_isTitledMore_11 kc_4 ?_
    refine jm_iload_n (i := 2) F dX9_isTitledMore_12 rfl rfl ?_
    refine jm_imul F dX9_isTitledMore_13 ?_
    refine jm_aload_n (i := 0) F dX9_isTitledMore_14 rfl rfl ?_
    refine jm_getR F dX9_isTitledMore_15 fl_X9_37 lo_X9 rfl ?_
    refine jm_iload_n (i := 2) F dX9_isTitledMore_18 rfl rfl ?_
    refine jm_iald F dX9_isTitledMore_19 la_X9_10 (fun v2 => ?_)
    refine jm_iadd F dX9_isTitledMore_20 ?_
    refine jm_iload_n (i := 1) F dX9_isTitledMore_21 rfl rfl ?_
    refine jm_iast F dX9_isTitledMore_22 la_X9_11 (fun M3 => ?_)
    refine jm_aload_n (i := 0) F dX9_isTitledMore_23 rfl rfl ?_
    refine jm_getR F dX9_isTitledMore_24 fl_X9_37 lo_X9 rfl ?_
    refine jm_iload_n (i := 2) F dX9_isTitledMore_27 rfl rfl ?_
    refine jm_dup2 F dX9_isTitledMore_28 rfl rfl ?_
    refine jm_iald F dX9_isTitledMore_29 la_X9_10 (fun v4 => ?_)
    refine jm_iconst F dX9_isTitledMore_30 kc_1 ?_
    refine jm_iadd F dX9_isTitledMore_31 ?_
    refine jm_iast F dX9_isTitledMore_32 la_X9_10 (fun M5 => ?_)
    exact jm_vret F dX9_isTitledMore_33 (fun h => h)
  exact G r h hz
theorem dX9_comesPerson_0 : jm_d cX9_comesPerson 0 (.aload_n 0) 1 1 := ⟨by decide +kernel, rfl⟩
theorem dX9_comesPerson_1 : jm_d cX9_comesPerson 1 (.getfield 91) 3 4 := ⟨by decide +kernel, rfl⟩
theorem dX9_comesPerson_4 : jm_d cX9_comesPerson 4 (.bipush 6) 2 6 := ⟨by decide +kernel, rfl⟩
theorem dX9_comesPerson_6 : jm_b cX9_comesPerson 6 (.if_icmp .ne) 9 11 := ⟨5, by decide +kernel, rfl, by decide⟩
theorem dX9_comesPerson_9 : jm_d cX9_comesPerson 9 (.iconst 0) 1 10 := ⟨by decide +kernel, rfl⟩
theorem dX9_comesPerson_10 : jm_d cX9_comesPerson 10 (.ireturn) 1 11 := ⟨by decide +kernel, rfl⟩
theorem dX9_comesPerson_11 : jm_d cX9_comesPerson 11 (.aload_n 0) 1 12 := ⟨by decide +kernel, rfl⟩
theorem dX9_comesPerson_12 : jm_d cX9_comesPerson 12 (.aload_n 0) 1 13 := ⟨by decide +kernel, rfl⟩
theorem dX9_comesPerson_13 : jm_d cX9_comesPerson 13 (.getfield 58) 3 16 := ⟨by decide +kernel, rfl⟩
theorem dX9_comesPerson_16 : jm_d cX9_comesPerson 16 (.iload_n 1) 1 17 := ⟨by decide +kernel, rfl⟩
theorem dX9_comesPerson_17 : jm_d cX9_comesPerson 17 (.iaload) 1 18 := ⟨by decide +kernel, rfl⟩
theorem dX9_comesPerson_18 : jm_d cX9_comesPerson 18 (.aload_n 0) 1 19 := ⟨by decide +kernel, rfl⟩
theorem dX9_comesPerson_19 : jm_d cX9_comesPerson 19 (.getfield 58) 3 22 := ⟨by decide +kernel, rfl⟩
theorem dX9_comesPerson_22 : jm_d cX9_comesPerson 22 (.iload_n 1) 1 23 := ⟨by decide +kernel, rfl⟩
theorem dX9_comesPerson_23 : jm_d cX9_comesPerson 23 (.iconst 1) 1 24 := ⟨by decide +kernel, rfl⟩
theorem dX9_comesPerson_24 : jm_d cX9_comesPerson 24 (.iadd) 1 25 := ⟨by decide +kernel, rfl⟩
theorem dX9_comesPerson_25 : jm_d cX9_comesPerson 25 (.iaload) 1 26 := ⟨by decide +kernel, rfl⟩
theorem dX9_comesPerson_26 : jm_d cX9_comesPerson 26 (.aload_n 0) 1 27 := ⟨by decide +kernel, rfl⟩
theorem dX9_comesPerson_27 : jm_d cX9_comesPerson 27 (.getfield 58) 3 30 := ⟨by decide +kernel, rfl⟩
theorem dX9_comesPerson_30 : jm_d cX9_comesPerson 30 (.iload_n 1) 1 31 := ⟨by decide +kernel, rfl⟩
theorem dX9_comesPerson_31 : jm_d cX9_comesPerson 31 (.iconst 2) 1 32 := ⟨by decide +kernel, rfl⟩
theorem dX9_comesPerson_32 : jm_d cX9_comesPerson 32 (.iadd) 1 33 := ⟨by decide +kernel, rfl⟩
theorem dX9_comesPerson_33 : jm_d cX9_comesPerson 33 (.iaload) 1 34 := ⟨by decide +kernel, rfl⟩
theorem dX9_comesPerson_34 : jm_d cX9_comesPerson 34 (.invokevirtual 213) 3 37 := ⟨by decide +kernel, rfl⟩
theorem dX9_comesPerson_37 : jm_d cX9_comesPerson 37 (.iconst 1) 1 38 := ⟨by decide +kernel, rfl⟩
theorem dX9_comesPerson_38 : jm_d cX9_comesPerson 38 (.ireturn) 1 39 := ⟨by decide +kernel, rfl⟩
set_option maxHeartbeats 4000000 in
set_option maxRecDepth 100000 in
theorem kM_comesPerson (E : jm_Ev) (hE : jm_dj E jm_LM) {M : jm_M} {p1 : Int32}  {r : Int32 × jm_M} (h : sM_comesPerson M p1 = some r) : jm_Ct E jm_LM yX9_comesPerson cX9_comesPerson 2 (some .boolean) 1 23 [.ref (jm_a E 0 0), .int p1] M (some (.int r.1)) r.2 := by
  refine jm_enter (lv := [some (.ref (jm_a E 0 0)), some (.int p1)]) hE (by decide) (Nat.le_of_ble_eq_true rfl) rfl ?_
  intro z w F hz
  have G : jm_G w 0 [some (.ref (jm_a E 0 0)), some (.int p1)] [] M (sM_comesPerson M p1) (fun e => z (some (.int e.1)) e.2) := by
    unfold sM_comesPerson
    refine jm_aload_n (i := 0) F dX9_comesPerson_0 rfl rfl ?_
    refine jm_getI F dX9_comesPerson_1 fl_X9_91 lo_X9 rfl ?_
    refine jm_bipush F dX9_comesPerson_4 kb_6 ?_
    refine jm_icmp_ne F dX9_comesPerson_6 (fun c1 => ?_) (fun c1 => ?_)
    · refine jm_iconst F dX9_comesPerson_9 kc_0 ?_
      exact jm_zret F dX9_comesPerson_10 (Or.inl rfl) (fun h => h)
    · refine jm_aload_n (i := 0) F dX9_comesPerson_11 rfl rfl ?_
      refine jm_aload_n (i := 0) F dX9_comesPerson_12 rfl rfl ?_
      refine jm_getR F dX9_comesPerson_13 fl_X9_58 lo_X9 rfl ?_
      refine jm_iload_n (i := 1) F dX9_comesPerson_16 rfl rfl ?_
      refine jm_iald F dX9_comesPerson_17 la_X9_22 (fun v2 => ?_)
      refine jm_aload_n (i := 0) F dX9_comesPerson_18 rfl rfl ?_
      refine jm_getR F dX9_comesPerson_19 fl_X9_58 lo_X9 rfl ?_
      refine jm_iload_n (i := 1) F dX9_comesPerson_22 rfl rfl ?_
      refine jm_iconst F dX9_comesPerson_23 kc_1 ?_
      refine jm_iadd F dX9_comesPerson_24 ?_
      refine jm_iald F dX9_comesPerson_25 la_X9_22 (fun v3 => ?_)
      refine jm_aload_n (i := 0) F dX9_comesPerson_26 rfl rfl ?_
      refine jm_getR F dX9_comesPerson_27 fl_X9_58 lo_X9 rfl ?_
      refine jm_iload_n (i := 1) F dX9_comesPerson_30 rfl rfl ?_
      refine jm_iconst F dX9_comesPerson_31 kc_2 ?_
      refine jm_iadd F dX9_comesPerson_32 ?_
      refine jm_iald F dX9_comesPerson_33 la_X9_22 (fun v4 => ?_)
      refine jm_callV (As := [.int v2, .int v3, .int v4]) (st := []) (rv := fun _ => none) (mm := fun r => r) F dX9_comesPerson_34 qX9_213 rfl lo_X9 rfl (fun r h => kM_isMore E hE h) rfl (Nat.le_of_ble_eq_true rfl) ⟨Nat.le_of_ble_eq_true rfl, Nat.le_of_ble_eq_true rfl⟩ (fun r5 => ?_)
      refine jm_iconst F dX9_comesPerson_37 kc_1 ?_
      exact jm_zret F dX9_comesPerson_38 (Or.inr rfl) (fun h => h)
  exact G r h hz
theorem dX9_comesBook_0 : jm_d cX9_comesBook 0 (.aload_n 0) 1 1 := ⟨by decide +kernel, rfl⟩
theorem dX9_comesBook_1 : jm_d cX9_comesBook 1 (.getfield 58) 3 4 := ⟨by decide +kernel, rfl⟩
theorem dX9_comesBook_4 : jm_d cX9_comesBook 4 (.iload_n 2) 1 5 := ⟨by decide +kernel, rfl⟩
theorem dX9_comesBook_5 : jm_d cX9_comesBook 5 (.iaload) 1 6 := ⟨by decide +kernel, rfl⟩
theorem dX9_comesBook_6 : jm_d cX9_comesBook 6 (.bipush 8) 2 8 := ⟨by decide +kernel, rfl⟩
theorem dX9_comesBook_8 : jm_b cX9_comesBook 8 (.if_icmp .ge) 11 53 := ⟨45, by decide +kernel, rfl, by decide⟩
theorem dX9_comesBook_53 : jm_d cX9_comesBook 53 (.iconst 0) 1 54 := ⟨by decide +kernel, rfl⟩
theorem dX9_comesBook_54 : jm_d cX9_comesBook 54 (.ireturn) 1 55 := ⟨by decide +kernel, rfl⟩
theorem dX9_comesBook_11 : jm_d cX9_comesBook 11 (.aload_n 0) 1 12 := ⟨by decide +kernel, rfl⟩
theorem dX9_comesBook_12 : jm_d cX9_comesBook 12 (.aload_n 0) 1 13 := ⟨by decide +kernel, rfl⟩
theorem dX9_comesBook_13 : jm_d cX9_comesBook 13 (.getfield 58) 3 16 := ⟨by decide +kernel, rfl⟩
theorem dX9_comesBook_16 : jm_d cX9_comesBook 16 (.iload_n 2) 1 17 := ⟨by decide +kernel, rfl⟩
theorem dX9_comesBook_17 : jm_d cX9_comesBook 17 (.iconst 2) 1 18 := ⟨by decide +kernel, rfl⟩
theorem dX9_comesBook_18 : jm_d cX9_comesBook 18 (.iadd) 1 19 := ⟨by decide +kernel, rfl⟩
theorem dX9_comesBook_19 : jm_d cX9_comesBook 19 (.iaload) 1 20 := ⟨by decide +kernel, rfl⟩
theorem dX9_comesBook_20 : jm_d cX9_comesBook 20 (.invokevirtual 217) 3 23 := ⟨by decide +kernel, rfl⟩
theorem dX9_comesBook_23 : jm_b cX9_comesBook 23 (.ifCond .eq) 26 53 := ⟨30, by decide +kernel, rfl, by decide⟩
theorem dX9_comesBook_26 : jm_d cX9_comesBook 26 (.aload_n 0) 1 27 := ⟨by decide +kernel, rfl⟩
theorem dX9_comesBook_27 : jm_d cX9_comesBook 27 (.getfield 64) 3 30 := ⟨by decide +kernel, rfl⟩
theorem dX9_comesBook_30 : jm_d cX9_comesBook 30 (.iload_n 1) 1 31 := ⟨by decide +kernel, rfl⟩
theorem dX9_comesBook_31 : jm_d cX9_comesBook 31 (.iaload) 1 32 := ⟨by decide +kernel, rfl⟩
theorem dX9_comesBook_32 : jm_d cX9_comesBook 32 (.iconst 4) 1 33 := ⟨by decide +kernel, rfl⟩
theorem dX9_comesBook_33 : jm_b cX9_comesBook 33 (.if_icmp .gt) 36 53 := ⟨20, by decide +kernel, rfl, by decide⟩
theorem dX9_comesBook_36 : jm_d cX9_comesBook 36 (.aload_n 0) 1 37 := ⟨by decide +kernel, rfl⟩
theorem dX9_comesBook_37 : jm_d cX9_comesBook 37 (.iload_n 1) 1 38 := ⟨by decide +kernel, rfl⟩
theorem dX9_comesBook_38 : jm_d cX9_comesBook 38 (.invokevirtual 220) 3 41 := ⟨by decide +kernel, rfl⟩
theorem dX9_comesBook_41 : jm_b cX9_comesBook 41 (.ifCond .ge) 44 53 := ⟨12, by decide +kernel, rfl, by decide⟩
theorem dX9_comesBook_44 : jm_d cX9_comesBook 44 (.aload_n 0) 1 45 := ⟨by decide +kernel, rfl⟩
theorem dX9_comesBook_45 : jm_d cX9_comesBook 45 (.getfield 106) 3 48 := ⟨by decide +kernel, rfl⟩
theorem dX9_comesBook_48 : jm_d cX9_comesBook 48 (.bipush 10) 2 50 := ⟨by decide +kernel, rfl⟩
theorem dX9_comesBook_50 : jm_b cX9_comesBook 50 (.if_icmp .ne) 53 55 := ⟨5, by decide +kernel, rfl, by decide⟩
theorem dX9_comesBook_55 : jm_d cX9_comesBook 55 (.aload_n 0) 1 56 := ⟨by decide +kernel, rfl⟩
theorem dX9_comesBook_56 : jm_d cX9_comesBook 56 (.aload_n 0) 1 57 := ⟨by decide +kernel, rfl⟩
theorem dX9_comesBook_57 : jm_d cX9_comesBook 57 (.getfield 58) 3 60 := ⟨by decide +kernel, rfl⟩
theorem dX9_comesBook_60 : jm_d cX9_comesBook 60 (.iload_n 2) 1 61 := ⟨by decide +kernel, rfl⟩
theorem dX9_comesBook_61 : jm_d cX9_comesBook 61 (.iaload) 1 62 := ⟨by decide +kernel, rfl⟩
theorem dX9_comesBook_62 : jm_d cX9_comesBook 62 (.aload_n 0) 1 63 := ⟨by decide +kernel, rfl⟩
theorem dX9_comesBook_63 : jm_d cX9_comesBook 63 (.getfield 58) 3 66 := ⟨by decide +kernel, rfl⟩
theorem dX9_comesBook_66 : jm_d cX9_comesBook 66 (.iload_n 2) 1 67 := ⟨by decide +kernel, rfl⟩
theorem dX9_comesBook_67 : jm_d cX9_comesBook 67 (.iconst 1) 1 68 := ⟨by decide +kernel, rfl⟩
theorem dX9_comesBook_68 : jm_d cX9_comesBook 68 (.iadd) 1 69 := ⟨by decide +kernel, rfl⟩
theorem dX9_comesBook_69 : jm_d cX9_comesBook 69 (.iaload) 1 70 := ⟨by decide +kernel, rfl⟩
theorem dX9_comesBook_70 : jm_d cX9_comesBook 70 (.aload_n 0) 1 71 := ⟨by decide +kernel, rfl⟩
theorem dX9_comesBook_71 : jm_d cX9_comesBook 71 (.getfield 58) 3 74 := ⟨by decide +kernel, rfl⟩
theorem dX9_comesBook_74 : jm_d cX9_comesBook 74 (.iload_n 2) 1 75 := ⟨by decide +kernel, rfl⟩
theorem dX9_comesBook_75 : jm_d cX9_comesBook 75 (.iconst 2) 1 76 := ⟨by decide +kernel, rfl⟩
theorem dX9_comesBook_76 : jm_d cX9_comesBook 76 (.iadd) 1 77 := ⟨by decide +kernel, rfl⟩
theorem dX9_comesBook_77 : jm_d cX9_comesBook 77 (.iaload) 1 78 := ⟨by decide +kernel, rfl⟩
theorem dX9_comesBook_78 : jm_d cX9_comesBook 78 (.invokevirtual 223) 3 81 := ⟨by decide +kernel, rfl⟩
theorem dX9_comesBook_81 : jm_d cX9_comesBook 81 (.iconst 0) 1 82 := ⟨by decide +kernel, rfl⟩
theorem dX9_comesBook_82 : jm_d cX9_comesBook 82 (.istore_n 3) 1 83 := ⟨by decide +kernel, rfl⟩
theorem dX9_comesBook_83 : jm_d cX9_comesBook 83 (.iload_n 3) 1 84 := ⟨by decide +kernel, rfl⟩
theorem dX9_comesBook_84 : jm_d cX9_comesBook 84 (.aload_n 0) 1 85 := ⟨by decide +kernel, rfl⟩
theorem dX9_comesBook_85 : jm_d cX9_comesBook 85 (.getfield 64) 3 88 := ⟨by decide +kernel, rfl⟩
theorem dX9_comesBook_88 : jm_d cX9_comesBook 88 (.iload_n 1) 1 89 := ⟨by decide +kernel, rfl⟩
theorem dX9_comesBook_89 : jm_d cX9_comesBook 89 (.iaload) 1 90 := ⟨by decide +kernel, rfl⟩
theorem dX9_comesBook_90 : jm_b cX9_comesBook 90 (.if_icmp .ge) 93 119 := ⟨29, by decide +kernel, rfl, by decide⟩
theorem dX9_comesBook_93 : jm_d cX9_comesBook 93 (.aload_n 0) 1 94 := ⟨by decide +kernel, rfl⟩
theorem dX9_comesBook_94 : jm_d cX9_comesBook 94 (.aload_n 0) 1 95 := ⟨by decide +kernel, rfl⟩
theorem dX9_comesBook_95 : jm_d cX9_comesBook 95 (.getfield 49) 3 98 := ⟨by decide +kernel, rfl⟩
theorem dX9_comesBook_98 : jm_d cX9_comesBook 98 (.aload_n 0) 1 99 := ⟨by decide +kernel, rfl⟩
theorem dX9_comesBook_99 : jm_d cX9_comesBook 99 (.getfield 61) 3 102 := ⟨by decide +kernel, rfl⟩
theorem dX9_comesBook_102 : jm_d cX9_comesBook 102 (.iload_n 1) 1 103 := ⟨by decide +kernel, rfl⟩
theorem dX9_comesBook_103 : jm_d cX9_comesBook 103 (.iaload) 1 104 := ⟨by decide +kernel, rfl⟩
theorem dX9_comesBook_104 : jm_d cX9_comesBook 104 (.iload_n 3) 1 105 := ⟨by decide +kernel, rfl⟩
theorem dX9_comesBook_105 : jm_d cX9_comesBook 105 (.iadd) 1 106 := ⟨by decide +kernel, rfl⟩
theorem dX9_comesBook_106 : jm_d cX9_comesBook 106 (.iaload) 1 107 := ⟨by decide +kernel, rfl⟩
theorem dX9_comesBook_107 : jm_d cX9_comesBook 107 (.bipush 97) 2 109 := ⟨by decide +kernel, rfl⟩
theorem dX9_comesBook_109 : jm_d cX9_comesBook 109 (.isub) 1 110 := ⟨by decide +kernel, rfl⟩
theorem dX9_comesBook_110 : jm_d cX9_comesBook 110 (.invokevirtual 226) 3 113 := ⟨by decide +kernel, rfl⟩
theorem dX9_comesBook_113 : jm_d cX9_comesBook 113 (.iinc 3 1) 3 116 := ⟨by decide +kernel, rfl⟩
theorem dX9_comesBook_116 : jm_b cX9_comesBook 116 .goto 119 83 := ⟨(-33), by decide +kernel, rfl, by decide⟩
theorem dX9_comesBook_119 : jm_d cX9_comesBook 119 (.iconst 1) 1 120 := ⟨by decide +kernel, rfl⟩
theorem dX9_comesBook_120 : jm_d cX9_comesBook 120 (.ireturn) 1 121 := ⟨by decide +kernel, rfl⟩
set_option maxHeartbeats 4000000 in
set_option maxRecDepth 100000 in
theorem kM_comesBook (E : jm_Ev) (hE : jm_dj E jm_LM) {M : jm_M} {p1 : Int32} {p2 : Int32}  {r : Int32 × jm_M} (h : sM_comesBook M p1 p2 = some r) : jm_Ct E jm_LM yX9_comesBook cX9_comesBook 4 (some .boolean) 3 64 [.ref (jm_a E 0 0), .int p1, .int p2] M (some (.int r.1)) r.2 := by
  refine jm_enter (lv := [some (.ref (jm_a E 0 0)), some (.int p1), some (.int p2), none]) hE (by decide) (Nat.le_of_ble_eq_true rfl) rfl ?_
  intro z w F hz
  have G : jm_G w 0 [some (.ref (jm_a E 0 0)), some (.int p1), some (.int p2), none] [] M (sM_comesBook M p1 p2) (fun e => z (some (.int e.1)) e.2) := by
    unfold sM_comesBook
    refine jm_aload_n (i := 0) F dX9_comesBook_0 rfl rfl ?_
    refine jm_getR F dX9_comesBook_1 fl_X9_58 lo_X9 rfl ?_
    refine jm_iload_n (i := 2) F dX9_comesBook_4 rfl rfl ?_
    refine jm_iald F dX9_comesBook_5 la_X9_22 (fun v1 => ?_)
    refine jm_bipush F dX9_comesBook_6 kb_8 ?_
    refine jm_icmp_ge F dX9_comesBook_8 (fun c2 => ?_) (fun c2 => ?_)
    · refine jm_iconst F dX9_comesBook_53 kc_0 ?_
      exact jm_zret F dX9_comesBook_54 (Or.inl rfl) (fun h => h)
    · refine jm_aload_n (i := 0) F dX9_comesBook_11 rfl rfl ?_
      refine jm_aload_n (i := 0) F dX9_comesBook_12 rfl rfl ?_
      refine jm_getR F dX9_comesBook_13 fl_X9_58 lo_X9 rfl ?_
      refine jm_iload_n (i := 2) F dX9_comesBook_16 rfl rfl ?_
      refine jm_iconst F dX9_comesBook_17 kc_2 ?_
      refine jm_iadd F dX9_comesBook_18 ?_
      refine jm_iald F dX9_comesBook_19 la_X9_22 (fun v3 => ?_)
      refine jm_callV (As := [.int v3]) (st := []) (rv := fun r => some (.int r)) (mm := fun _ => M) F dX9_comesBook_20 qX9_217 rfl lo_X9 rfl (fun r h => kM_isPlace E hE h) rfl (Nat.le_of_ble_eq_true rfl) ⟨Nat.le_of_ble_eq_true rfl, Nat.le_of_ble_eq_true rfl⟩ (fun r4 => ?_)
      refine jm_if_eq F dX9_comesBook_23 (fun c5 => ?_) (fun c5 => ?_)
      · refine jm_iconst F dX9_comesBook_53 kc_0 ?_
        exact jm_zret F dX9_comesBook_54 (Or.inl rfl) (fun h => h)
      · refine jm_aload_n (i := 0) F dX9_comesBook_26 rfl rfl ?_
        refine jm_getR F dX9_comesBook_27 fl_X9_64 lo_X9 rfl ?_
        refine jm_iload_n (i := 1) F dX9_comesBook_30 rfl rfl ?_
        refine jm_iald F dX9_comesBook_31 la_X9_24 (fun v6 => ?_)
        refine jm_iconst F dX9_comesBook_32 kc_4 ?_
        refine jm_icmp_gt F dX9_comesBook_33 (fun c7 => ?_) (fun c7 => ?_)
        · refine jm_iconst F dX9_comesBook_53 kc_0 ?_
          exact jm_zret F dX9_comesBook_54 (Or.inl rfl) (fun h => h)
        · refine jm_aload_n (i := 0) F dX9_comesBook_36 rfl rfl ?_
          refine jm_iload_n (i := 1) F dX9_comesBook_37 rfl rfl ?_
          refine jm_callV (As := [.int p1]) (st := []) (rv := fun r => some (.int r)) (mm := fun _ => M) F dX9_comesBook_38 qX9_220 rfl lo_X9 rfl (fun r h => kM_titledBy E hE h) rfl (Nat.le_of_ble_eq_true rfl) ⟨Nat.le_of_ble_eq_true rfl, Nat.le_of_ble_eq_true rfl⟩ (fun r8 => ?_)
          refine jm_if_ge F dX9_comesBook_41 (fun c9 => ?_) (fun c9 => ?_)
          · refine jm_iconst F dX9_comesBook_53 kc_0 ?_
            exact jm_zret F dX9_comesBook_54 (Or.inl rfl) (fun h => h)
          · refine jm_aload_n (i := 0) F dX9_comesBook_44 rfl rfl ?_
            refine jm_getI F dX9_comesBook_45 fl_X9_106 lo_X9 rfl ?_
            refine jm_bipush F dX9_comesBook_48 kb_10 ?_
            refine jm_icmp_ne F dX9_comesBook_50 (fun c10 => ?_) (fun c10 => ?_)
            · refine jm_iconst F dX9_comesBook_53 kc_0 ?_
              exact jm_zret F dX9_comesBook_54 (Or.inl rfl) (fun h => h)
            · refine jm_aload_n (i := 0) F dX9_comesBook_55 rfl rfl ?_
              refine jm_aload_n (i := 0) F dX9_comesBook_56 rfl rfl ?_
              refine jm_getR F dX9_comesBook_57 fl_X9_58 lo_X9 rfl ?_
              refine jm_iload_n (i := 2) F dX9_comesBook_60 rfl rfl ?_
              refine jm_iald F dX9_comesBook_61 la_X9_22 (fun v11 => ?_)
              refine jm_aload_n (i := 0) F dX9_comesBook_62 rfl rfl ?_
              refine jm_getR F dX9_comesBook_63 fl_X9_58 lo_X9 rfl ?_
              refine jm_iload_n (i := 2) F dX9_comesBook_66 rfl rfl ?_
              refine jm_iconst F dX9_comesBook_67 kc_1 ?_
              refine jm_iadd F dX9_comesBook_68 ?_
              refine jm_iald F dX9_comesBook_69 la_X9_22 (fun v12 => ?_)
              refine jm_aload_n (i := 0) F dX9_comesBook_70 rfl rfl ?_
              refine jm_getR F dX9_comesBook_71 fl_X9_58 lo_X9 rfl ?_
              refine jm_iload_n (i := 2) F dX9_comesBook_74 rfl rfl ?_
              refine jm_iconst F dX9_comesBook_75 kc_2 ?_
              refine jm_iadd F dX9_comesBook_76 ?_
              refine jm_iald F dX9_comesBook_77 la_X9_22 (fun v13 => ?_)
              refine jm_callV (As := [.int v11, .int v12, .int v13]) (st := []) (rv := fun _ => none) (mm := fun r => r) F dX9_comesBook_78 qX9_223 rfl lo_X9 rfl (fun r h => kM_isBrought E hE h) rfl (Nat.le_of_ble_eq_true rfl) ⟨Nat.le_of_ble_eq_true rfl, Nat.le_of_ble_eq_true rfl⟩ (fun r14 => ?_)
              refine jm_iconst F dX9_comesBook_81 kc_0 ?_
              refine jm_istore_n (i := 3) (lv' := [some (.ref (jm_a E 0 0)), some (.int p1), some (.int p2), some (.int 0)]) F dX9_comesBook_82 rfl (by decide) rfl rfl ?_
              refine jm_bind (pcJ := 119) (lvJ := fun e21 => [none, none, none, none]) (stJ := fun _ => []) (MJ := fun e21 => e21) ?_ (fun e21 => ?_)
              · refine jm_weak F (lv' := [some (.ref (jm_a E 0 0)), some (.int p1), none, some (.int 0)]) ⟨rfl, rfl, rfl, trivial⟩ ?_
                refine jm_loopR (lvH := fun s15 => [some (.ref (jm_a E 0 0)), some (.int p1), none, some (.int s15.1)]) (MH := fun s15 => s15.2) (fun s15 => ?_) jm_N (0, r14)
                unfold sM_comesBook_L83
                refine jm_iload_n (i := 3) F dX9_comesBook_83 rfl rfl ?_
                refine jm_aload_n (i := 0) F dX9_comesBook_84 rfl rfl ?_
                refine jm_getR F dX9_comesBook_85 fl_X9_64 lo_X9 rfl ?_
                refine jm_iload_n (i := 1) F dX9_comesBook_88 rfl rfl ?_
                refine jm_iald F dX9_comesBook_89 la_X9_24 (fun v16 => ?_)
                refine jm_icmp_ge F dX9_comesBook_90 (fun c17 => ?_) (fun c17 => ?_)
                · exact jm_weakD F (lv' := [none, none, none, none]) trivial (fun h => h)
                · refine jm_aload_n (i := 0) F dX9_comesBook_93 rfl rfl ?_
                  refine jm_aload_n (i := 0) F dX9_comesBook_94 rfl rfl ?_
                  refine jm_getR F dX9_comesBook_95 fl_X9_49 lo_X9 rfl ?_
                  refine jm_aload_n (i := 0) F dX9_comesBook_98 rfl rfl ?_
                  refine jm_getR F dX9_comesBook_99 fl_X9_61 lo_X9 rfl ?_
                  refine jm_iload_n (i := 1) F dX9_comesBook_102 rfl rfl ?_
                  refine jm_iald F dX9_comesBook_103 la_X9_23 (fun v18 => ?_)
                  refine jm_iload_n (i := 3) F dX9_comesBook_104 rfl rfl ?_
                  refine jm_iadd F dX9_comesBook_105 ?_
                  refine jm_iald F dX9_comesBook_106 la_X9_19 (fun v19 => ?_)
                  refine jm_bipush F dX9_comesBook_107 kb_97 ?_
                  refine jm_isub F dX9_comesBook_109 ?_
                  refine jm_callV (As := [.int (v19 - 97)]) (st := []) (rv := fun _ => none) (mm := fun r => r) F dX9_comesBook_110 qX9_226 rfl lo_X9 rfl (fun r h => kM_isTitledMore E hE h) rfl (Nat.le_of_ble_eq_true rfl) ⟨Nat.le_of_ble_eq_true rfl, Nat.le_of_ble_eq_true rfl⟩ (fun r20 => ?_)
                  refine jm_iinc (i := 3) (lv' := [some (.ref (jm_a E 0 0)), some (.int p1), none, some (.int (s15.1 + 1))]) F dX9_comesBook_113 kc_1 rfl (by decide) rfl rfl ?_
                  refine jm_goto F dX9_comesBook_116 ?_
                  exact jm_weakD F (lv' := [some (.ref (jm_a E 0 0)), some (.int p1), none, some (.int (s15.1 + 1))]) ⟨rfl, rfl, rfl, trivial⟩ (fun h => h)
              · refine jm_iconst F dX9_comesBook_119 kc_1 ?_
                exact jm_zret F dX9_comesBook_120 (Or.inr rfl) (fun h => h)
  exact G r h hz
theorem dX9_comesReading_0 : jm_d cX9_comesReading 0 (.aload_n 0) 1 1 := ⟨by decide +kernel, rfl⟩
theorem dX9_comesReading_1 : jm_d cX9_comesReading 1 (.iload_n 1) 1 2 := ⟨by decide +kernel, rfl⟩
theorem dX9_comesReading_2 : jm_d cX9_comesReading 2 (.invokevirtual 220) 3 5 := ⟨by decide +kernel, rfl⟩
theorem dX9_comesReading_5 : jm_d cX9_comesReading 5 (.istore_n 3) 1 6 := ⟨by decide +kernel, rfl⟩
theorem dX9_comesReading_6 : jm_d cX9_comesReading 6 (.aload_n 0) 1 7 := ⟨by decide +kernel, rfl⟩
theorem dX9_comesReading_7 : jm_d cX9_comesReading 7 (.aload_n 0) 1 8 := ⟨by decide +kernel, rfl⟩
theorem dX9_comesReading_8 : jm_d cX9_comesReading 8 (.getfield 58) 3 11 := ⟨by decide +kernel, rfl⟩
theorem dX9_comesReading_11 : jm_d cX9_comesReading 11 (.iload_n 2) 1 12 := ⟨by decide +kernel, rfl⟩
theorem dX9_comesReading_12 : jm_d cX9_comesReading 12 (.iaload) 1 13 := ⟨by decide +kernel, rfl⟩
theorem dX9_comesReading_13 : jm_d cX9_comesReading 13 (.invokevirtual 102) 3 16 := ⟨by decide +kernel, rfl⟩
theorem dX9_comesReading_16 : jm_b cX9_comesReading 16 (.ifCond .eq) 19 23 := ⟨7, by decide +kernel, rfl, by decide⟩
theorem dX9_comesReading_23 : jm_d cX9_comesReading 23 (.iconst 0) 1 24 := ⟨by decide +kernel, rfl⟩
theorem dX9_comesReading_24 : jm_d cX9_comesReading 24 (.ireturn) 1 25 := ⟨by decide +kernel, rfl⟩
theorem dX9_comesReading_19 : jm_d cX9_comesReading 19 (.iload_n 3) 1 20 := ⟨by decide +kernel, rfl⟩
theorem dX9_comesReading_20 : jm_b cX9_comesReading 20 (.ifCond .ge) 23 25 := ⟨5, by decide +kernel, rfl, by decide⟩
theorem dX9_comesReading_25 : jm_d cX9_comesReading 25 (.aload_n 0) 1 26 := ⟨by decide +kernel, rfl⟩
theorem dX9_comesReading_26 : jm_d cX9_comesReading 26 (.getfield 34) 3 29 := ⟨by decide +kernel, rfl⟩
theorem dX9_comesReading_29 : jm_d cX9_comesReading 29 (.iload_n 3) 1 30 := ⟨by decide +kernel, rfl⟩
theorem dX9_comesReading_30 : jm_d cX9_comesReading 30 (.dup2) 1 31 := ⟨by decide +kernel, rfl⟩
theorem dX9_comesReading_31 : jm_d cX9_comesReading 31 (.iaload) 1 32 := ⟨by decide +kernel, rfl⟩
theorem dX9_comesReading_32 : jm_d cX9_comesReading 32 (.iconst 1) 1 33 := ⟨by decide +kernel, rfl⟩
theorem dX9_comesReading_33 : jm_d cX9_comesReading 33 (.aload_n 0) 1 34 := ⟨by decide +kernel, rfl⟩
theorem dX9_comesReading_34 : jm_d cX9_comesReading 34 (.getfield 58) 3 37 := ⟨by decide +kernel, rfl⟩
theorem dX9_comesReading_37 : jm_d cX9_comesReading 37 (.iload_n 2) 1 38 := ⟨by decide +kernel, rfl⟩
theorem dX9_comesReading_38 : jm_d cX9_comesReading 38 (.iaload) 1 39 := ⟨by decide +kernel, rfl⟩
theorem dX9_comesReading_39 : jm_d cX9_comesReading 39 (.ishl) 1 40 := ⟨by decide +kernel, rfl⟩
theorem dX9_comesReading_40 : jm_d cX9_comesReading 40 (.ior) 1 41 := ⟨by decide +kernel, rfl⟩
theorem dX9_comesReading_41 : jm_d cX9_comesReading 41 (.iastore) 1 42 := ⟨by decide +kernel, rfl⟩
theorem dX9_comesReading_42 : jm_d cX9_comesReading 42 (.iconst 1) 1 43 := ⟨by decide +kernel, rfl⟩
theorem dX9_comesReading_43 : jm_d cX9_comesReading 43 (.ireturn) 1 44 := ⟨by decide +kernel, rfl⟩
set_option maxHeartbeats 4000000 in
set_option maxRecDepth 100000 in
theorem kM_comesReading (E : jm_Ev) (hE : jm_dj E jm_LM) {M : jm_M} {p1 : Int32} {p2 : Int32}  {r : Int32 × jm_M} (h : sM_comesReading M p1 p2 = some r) : jm_Ct E jm_LM yX9_comesReading cX9_comesReading 4 (some .boolean) 2 47 [.ref (jm_a E 0 0), .int p1, .int p2] M (some (.int r.1)) r.2 := by
  refine jm_enter (lv := [some (.ref (jm_a E 0 0)), some (.int p1), some (.int p2), none]) hE (by decide) (Nat.le_of_ble_eq_true rfl) rfl ?_
  intro z w F hz
  have G : jm_G w 0 [some (.ref (jm_a E 0 0)), some (.int p1), some (.int p2), none] [] M (sM_comesReading M p1 p2) (fun e => z (some (.int e.1)) e.2) := by
    unfold sM_comesReading
    refine jm_aload_n (i := 0) F dX9_comesReading_0 rfl rfl ?_
    refine jm_iload_n (i := 1) F dX9_comesReading_1 rfl rfl ?_
    refine jm_callV (As := [.int p1]) (st := []) (rv := fun r => some (.int r)) (mm := fun _ => M) F dX9_comesReading_2 qX9_220 rfl lo_X9 rfl (fun r h => kM_titledBy E hE h) rfl (Nat.le_of_ble_eq_true rfl) ⟨Nat.le_of_ble_eq_true rfl, Nat.le_of_ble_eq_true rfl⟩ (fun r1 => ?_)
    refine jm_istore_n (i := 3) (lv' := [some (.ref (jm_a E 0 0)), some (.int p1), some (.int p2), some (.int r1)]) F dX9_comesReading_5 rfl (by decide) rfl rfl ?_
    refine jm_aload_n (i := 0) F dX9_comesReading_6 rfl rfl ?_
    refine jm_aload_n (i := 0) F dX9_comesReading_7 rfl rfl ?_
    refine jm_getR F dX9_comesReading_8 fl_X9_58 lo_X9 rfl ?_
    refine jm_iload_n (i := 2) F dX9_comesReading_11 rfl rfl ?_
    refine jm_iald F dX9_comesReading_12 la_X9_22 (fun v2 => ?_)
    refine jm_callV (As := [.int v2]) (st := []) (rv := fun r => some (.int r)) (mm := fun _ => M) F dX9_comesReading_13 qX9_102 rfl lo_X9 rfl (fun r h => kM_isPerson E hE h) rfl (Nat.le_of_ble_eq_true rfl) ⟨Nat.le_of_ble_eq_true rfl, Nat.le_of_ble_eq_true rfl⟩ (fun r3 => ?_)
    refine jm_if_eq F dX9_comesReading_16 (fun c4 => ?_) (fun c4 => ?_)
    · refine jm_iconst F dX9_comesReading_23 kc_0 ?_
      exact jm_zret F dX9_comesReading_24 (Or.inl rfl) (fun h => h)
    · refine jm_iload_n (i := 3) F dX9_comesReading_19 rfl rfl ?_
      refine jm_if_ge F dX9_comesReading_20 (fun c5 => ?_) (fun c5 => ?_)
      · refine jm_aload_n (i := 0) F dX9_comesReading_25 rfl rfl ?_
        refine jm_getR F dX9_comesReading_26 fl_X9_34 lo_X9 rfl ?_
        refine jm_iload_n (i := 3) F dX9_comesReading_29 rfl rfl ?_
        refine jm_dup2 F dX9_comesReading_30 rfl rfl ?_
        refine jm_iald F dX9_comesReading_31 la_X9_9 (fun v6 => ?_)
        refine jm_iconst F dX9_comesReading_32 kc_1 ?_
        refine jm_aload_n (i := 0) F dX9_comesReading_33 rfl rfl ?_
        refine jm_getR F dX9_comesReading_34 fl_X9_58 lo_X9 rfl ?_
        refine jm_iload_n (i := 2) F dX9_comesReading_37 rfl rfl ?_
        refine jm_iald F dX9_comesReading_38 la_X9_22 (fun v7 => ?_)
        refine jm_ishl F dX9_comesReading_39 ?_
        refine jm_ior F dX9_comesReading_40 ?_
        refine jm_iast F dX9_comesReading_41 la_X9_9 (fun M8 => ?_)
        refine jm_iconst F dX9_comesReading_42 kc_1 ?_
        exact jm_zret F dX9_comesReading_43 (Or.inr rfl) (fun h => h)
      · refine jm_iconst F dX9_comesReading_23 kc_0 ?_
        exact jm_zret F dX9_comesReading_24 (Or.inl rfl) (fun h => h)
  exact G r h hz
theorem dX9_comesHolding_0 : jm_d cX9_comesHolding 0 (.aload_n 0) 1 1 := ⟨by decide +kernel, rfl⟩
theorem dX9_comesHolding_1 : jm_d cX9_comesHolding 1 (.iload_n 1) 1 2 := ⟨by decide +kernel, rfl⟩
theorem dX9_comesHolding_2 : jm_d cX9_comesHolding 2 (.invokevirtual 220) 3 5 := ⟨by decide +kernel, rfl⟩
theorem dX9_comesHolding_5 : jm_d cX9_comesHolding 5 (.istore_n 3) 1 6 := ⟨by decide +kernel, rfl⟩
theorem dX9_comesHolding_6 : jm_d cX9_comesHolding 6 (.aload_n 0) 1 7 := ⟨by decide +kernel, rfl⟩
theorem dX9_comesHolding_7 : jm_d cX9_comesHolding 7 (.aload_n 0) 1 8 := ⟨by decide +kernel, rfl⟩
theorem dX9_comesHolding_8 : jm_d cX9_comesHolding 8 (.getfield 58) 3 11 := ⟨by decide +kernel, rfl⟩
theorem dX9_comesHolding_11 : jm_d cX9_comesHolding 11 (.iload_n 2) 1 12 := ⟨by decide +kernel, rfl⟩
theorem dX9_comesHolding_12 : jm_d cX9_comesHolding 12 (.iaload) 1 13 := ⟨by decide +kernel, rfl⟩
theorem dX9_comesHolding_13 : jm_d cX9_comesHolding 13 (.invokevirtual 217) 3 16 := ⟨by decide +kernel, rfl⟩
theorem dX9_comesHolding_16 : jm_b cX9_comesHolding 16 (.ifCond .eq) 19 23 := ⟨7, by decide +kernel, rfl, by decide⟩
theorem dX9_comesHolding_23 : jm_d cX9_comesHolding 23 (.iconst 0) 1 24 := ⟨by decide +kernel, rfl⟩
theorem dX9_comesHolding_24 : jm_d cX9_comesHolding 24 (.ireturn) 1 25 := ⟨by decide +kernel, rfl⟩
theorem dX9_comesHolding_19 : jm_d cX9_comesHolding 19 (.iload_n 3) 1 20 := ⟨by decide +kernel, rfl⟩
theorem dX9_comesHolding_20 : jm_b cX9_comesHolding 20 (.ifCond .ge) 23 25 := ⟨5, by decide +kernel, rfl, by decide⟩
theorem dX9_comesHolding_25 : jm_d cX9_comesHolding 25 (.aload_n 0) 1 26 := ⟨by decide +kernel, rfl⟩
theorem dX9_comesHolding_26 : jm_d cX9_comesHolding 26 (.getfield 31) 3 29 := ⟨by decide +kernel, rfl⟩
theorem dX9_comesHolding_29 : jm_d cX9_comesHolding 29 (.iload_n 3) 1 30 := ⟨by decide +kernel, rfl⟩
theorem dX9_comesHolding_30 : jm_d cX9_comesHolding 30 (.aload_n 0) 1 31 := ⟨by decide +kernel, rfl⟩
theorem dX9_comesHolding_31 : jm_d cX9_comesHolding 31 (.getfield 58) 3 34 := ⟨by decide +kernel, rfl⟩
theorem dX9_comesHolding_34 : jm_d cX9_comesHolding 34 (.iload_n 2) 1 35 := ⟨by decide +kernel, rfl⟩
theorem dX9_comesHolding_35 : jm_d cX9_comesHolding 35 (.iaload) 1 36 := ⟨by decide +kernel, rfl⟩
theorem dX9_comesHolding_36 : jm_d cX9_comesHolding 36 (.iastore) 1 37 := ⟨by decide +kernel, rfl⟩
theorem dX9_comesHolding_37 : jm_d cX9_comesHolding 37 (.iconst 1) 1 38 := ⟨by decide +kernel, rfl⟩
theorem dX9_comesHolding_38 : jm_d cX9_comesHolding 38 (.ireturn) 1 39 := ⟨by decide +kernel, rfl⟩
set_option maxHeartbeats 4000000 in
set_option maxRecDepth 100000 in
theorem kM_comesHolding (E : jm_Ev) (hE : jm_dj E jm_LM) {M : jm_M} {p1 : Int32} {p2 : Int32}  {r : Int32 × jm_M} (h : sM_comesHolding M p1 p2 = some r) : jm_Ct E jm_LM yX9_comesHolding cX9_comesHolding 4 (some .boolean) 3 64 [.ref (jm_a E 0 0), .int p1, .int p2] M (some (.int r.1)) r.2 := by
  refine jm_enter (lv := [some (.ref (jm_a E 0 0)), some (.int p1), some (.int p2), none]) hE (by decide) (Nat.le_of_ble_eq_true rfl) rfl ?_
  intro z w F hz
  have G : jm_G w 0 [some (.ref (jm_a E 0 0)), some (.int p1), some (.int p2), none] [] M (sM_comesHolding M p1 p2) (fun e => z (some (.int e.1)) e.2) := by
    unfold sM_comesHolding
    refine jm_aload_n (i := 0) F dX9_comesHolding_0 rfl rfl ?_
    refine jm_iload_n (i := 1) F dX9_comesHolding_1 rfl rfl ?_
    refine jm_callV (As := [.int p1]) (st := []) (rv := fun r => some (.int r)) (mm := fun _ => M) F dX9_comesHolding_2 qX9_220 rfl lo_X9 rfl (fun r h => kM_titledBy E hE h) rfl (Nat.le_of_ble_eq_true rfl) ⟨Nat.le_of_ble_eq_true rfl, Nat.le_of_ble_eq_true rfl⟩ (fun r1 => ?_)
    refine jm_istore_n (i := 3) (lv' := [some (.ref (jm_a E 0 0)), some (.int p1), some (.int p2), some (.int r1)]) F dX9_comesHolding_5 rfl (by decide) rfl rfl ?_
    refine jm_aload_n (i := 0) F dX9_comesHolding_6 rfl rfl ?_
    refine jm_aload_n (i := 0) F dX9_comesHolding_7 rfl rfl ?_
    refine jm_getR F dX9_comesHolding_8 fl_X9_58 lo_X9 rfl ?_
    refine jm_iload_n (i := 2) F dX9_comesHolding_11 rfl rfl ?_
    refine jm_iald F dX9_comesHolding_12 la_X9_22 (fun v2 => ?_)
    refine jm_callV (As := [.int v2]) (st := []) (rv := fun r => some (.int r)) (mm := fun _ => M) F dX9_comesHolding_13 qX9_217 rfl lo_X9 rfl (fun r h => kM_isPlace E hE h) rfl (Nat.le_of_ble_eq_true rfl) ⟨Nat.le_of_ble_eq_true rfl, Nat.le_of_ble_eq_true rfl⟩ (fun r3 => ?_)
    refine jm_if_eq F dX9_comesHolding_16 (fun c4 => ?_) (fun c4 => ?_)
    · refine jm_iconst F dX9_comesHolding_23 kc_0 ?_
      exact jm_zret F dX9_comesHolding_24 (Or.inl rfl) (fun h => h)
    · refine jm_iload_n (i := 3) F dX9_comesHolding_19 rfl rfl ?_
      refine jm_if_ge F dX9_comesHolding_20 (fun c5 => ?_) (fun c5 => ?_)
      · refine jm_aload_n (i := 0) F dX9_comesHolding_25 rfl rfl ?_
        refine jm_getR F dX9_comesHolding_26 fl_X9_31 lo_X9 rfl ?_
        refine jm_iload_n (i := 3) F dX9_comesHolding_29 rfl rfl ?_
        refine jm_aload_n (i := 0) F dX9_comesHolding_30 rfl rfl ?_
        refine jm_getR F dX9_comesHolding_31 fl_X9_58 lo_X9 rfl ?_
        refine jm_iload_n (i := 2) F dX9_comesHolding_34 rfl rfl ?_
        refine jm_iald F dX9_comesHolding_35 la_X9_22 (fun v6 => ?_)
        refine jm_iast F dX9_comesHolding_36 la_X9_8 (fun M7 => ?_)
        refine jm_iconst F dX9_comesHolding_37 kc_1 ?_
        exact jm_zret F dX9_comesHolding_38 (Or.inr rfl) (fun h => h)
      · refine jm_iconst F dX9_comesHolding_23 kc_0 ?_
        exact jm_zret F dX9_comesHolding_24 (Or.inl rfl) (fun h => h)
  exact G r h hz
theorem dX9_comesLaw_0 : jm_d cX9_comesLaw 0 (.aload_n 0) 1 1 := ⟨by decide +kernel, rfl⟩
theorem dX9_comesLaw_1 : jm_d cX9_comesLaw 1 (.getfield 64) 3 4 := ⟨by decide +kernel, rfl⟩
theorem dX9_comesLaw_4 : jm_d cX9_comesLaw 4 (.iload_n 1) 1 5 := ⟨by decide +kernel, rfl⟩
theorem dX9_comesLaw_5 : jm_d cX9_comesLaw 5 (.iaload) 1 6 := ⟨by decide +kernel, rfl⟩
theorem dX9_comesLaw_6 : jm_d cX9_comesLaw 6 (.bipush 6) 2 8 := ⟨by decide +kernel, rfl⟩
theorem dX9_comesLaw_8 : jm_b cX9_comesLaw 8 (.if_icmp .le) 11 13 := ⟨5, by decide +kernel, rfl, by decide⟩
theorem dX9_comesLaw_13 : jm_d cX9_comesLaw 13 (.aload_n 0) 1 14 := ⟨by decide +kernel, rfl⟩
theorem dX9_comesLaw_14 : jm_d cX9_comesLaw 14 (.aload_n 0) 1 15 := ⟨by decide +kernel, rfl⟩
theorem dX9_comesLaw_15 : jm_d cX9_comesLaw 15 (.getfield 64) 3 18 := ⟨by decide +kernel, rfl⟩
theorem dX9_comesLaw_18 : jm_d cX9_comesLaw 18 (.iload_n 1) 1 19 := ⟨by decide +kernel, rfl⟩
theorem dX9_comesLaw_19 : jm_d cX9_comesLaw 19 (.iaload) 1 20 := ⟨by decide +kernel, rfl⟩
theorem dX9_comesLaw_20 : jm_d cX9_comesLaw 20 (.putfield 122) 3 23 := ⟨by decide +kernel, rfl⟩
theorem dX9_comesLaw_23 : jm_d cX9_comesLaw 23 (.iconst 0) 1 24 := ⟨by decide +kernel, rfl⟩
theorem dX9_comesLaw_24 : jm_d cX9_comesLaw 24 (.istore_n 2) 1 25 := ⟨by decide +kernel, rfl⟩
theorem dX9_comesLaw_25 : jm_d cX9_comesLaw 25 (.iload_n 2) 1 26 := ⟨by decide +kernel, rfl⟩
theorem dX9_comesLaw_26 : jm_d cX9_comesLaw 26 (.aload_n 0) 1 27 := ⟨by decide +kernel, rfl⟩
theorem dX9_comesLaw_27 : jm_d cX9_comesLaw 27 (.getfield 122) 3 30 := ⟨by decide +kernel, rfl⟩
theorem dX9_comesLaw_30 : jm_b cX9_comesLaw 30 (.if_icmp .ge) 33 77 := ⟨47, by decide +kernel, rfl, by decide⟩
theorem dX9_comesLaw_33 : jm_d cX9_comesLaw 33 (.aload_n 0) 1 34 := ⟨by decide +kernel, rfl⟩
theorem dX9_comesLaw_34 : jm_d cX9_comesLaw 34 (.getfield 43) 3 37 := ⟨by decide +kernel, rfl⟩
theorem dX9_comesLaw_37 : jm_d cX9_comesLaw 37 (.iload_n 2) 1 38 := ⟨by decide +kernel, rfl⟩
theorem dX9_comesLaw_38 : jm_d cX9_comesLaw 38 (.aload_n 0) 1 39 := ⟨by decide +kernel, rfl⟩
theorem dX9_comesLaw_39 : jm_d cX9_comesLaw 39 (.getfield 67) 3 42 := ⟨by decide +kernel, rfl⟩
theorem dX9_comesLaw_42 : jm_d cX9_comesLaw 42 (.aload_n 0) 1 43 := ⟨by decide +kernel, rfl⟩
theorem dX9_comesLaw_43 : jm_d cX9_comesLaw 43 (.getfield 61) 3 46 := ⟨by decide +kernel, rfl⟩
theorem dX9_comesLaw_46 : jm_d cX9_comesLaw 46 (.iload_n 1) 1 47 := ⟨by decide +kernel, rfl⟩
theorem dX9_comesLaw_47 : jm_d cX9_comesLaw 47 (.iaload) 1 48 := ⟨by decide +kernel, rfl⟩
theorem dX9_comesLaw_48 : jm_d cX9_comesLaw 48 (.iload_n 2) 1 49 := ⟨by decide +kernel, rfl⟩
theorem dX9_comesLaw_49 : jm_d cX9_comesLaw 49 (.iadd) 1 50 := ⟨by decide +kernel, rfl⟩
theorem dX9_comesLaw_50 : jm_d cX9_comesLaw 50 (.iaload) 1 51 := ⟨by decide +kernel, rfl⟩
theorem dX9_comesLaw_51 : jm_d cX9_comesLaw 51 (.iastore) 1 52 := ⟨by decide +kernel, rfl⟩
theorem dX9_comesLaw_52 : jm_d cX9_comesLaw 52 (.aload_n 0) 1 53 := ⟨by decide +kernel, rfl⟩
theorem dX9_comesLaw_53 : jm_d cX9_comesLaw 53 (.getfield 46) 3 56 := ⟨by decide +kernel, rfl⟩
theorem dX9_comesLaw_56 : jm_d cX9_comesLaw 56 (.iload_n 2) 1 57 := ⟨by decide +kernel, rfl⟩
theorem dX9_comesLaw_57 : jm_d cX9_comesLaw 57 (.aload_n 0) 1 58 := ⟨by decide +kernel, rfl⟩
theorem dX9_comesLaw_58 : jm_d cX9_comesLaw 58 (.getfield 70) 3 61 := ⟨by decide +kernel, rfl⟩
theorem dX9_comesLaw_61 : jm_d cX9_comesLaw 61 (.aload_n 0) 1 62 := ⟨by decide +kernel, rfl⟩
theorem dX9_comesLaw_62 : jm_d cX9_comesLaw 62 (.getfield 61) 3 65 := ⟨by decide +kernel, rfl⟩
theorem dX9_comesLaw_65 : jm_d cX9_comesLaw 65 (.iload_n 1) 1 66 := ⟨by decide +kernel, rfl⟩
theorem dX9_comesLaw_66 : jm_d cX9_comesLaw 66 (.iaload) 1 67 := ⟨by decide +kernel, rfl⟩
theorem dX9_comesLaw_67 : jm_d cX9_comesLaw 67 (.iload_n 2) 1 68 := ⟨by decide +kernel, rfl⟩
theorem dX9_comesLaw_68 : jm_d cX9_comesLaw 68 (.iadd) 1 69 := ⟨by decide +kernel, rfl⟩
theorem dX9_comesLaw_69 : jm_d cX9_comesLaw 69 (.iaload) 1 70 := ⟨by decide +kernel, rfl⟩
theorem dX9_comesLaw_70 : jm_d cX9_comesLaw 70 (.iastore) 1 71 := ⟨by decide +kernel, rfl⟩
theorem dX9_comesLaw_71 : jm_d cX9_comesLaw 71 (.iinc 2 1) 3 74 := ⟨by decide +kernel, rfl⟩
theorem dX9_comesLaw_74 : jm_b cX9_comesLaw 74 .goto 77 25 := ⟨(-49), by decide +kernel, rfl, by decide⟩
theorem dX9_comesLaw_77 : jm_d cX9_comesLaw 77 (.iconst 1) 1 78 := ⟨by decide +kernel, rfl⟩
theorem dX9_comesLaw_78 : jm_d cX9_comesLaw 78 (.ireturn) 1 79 := ⟨by decide +kernel, rfl⟩
theorem dX9_comesLaw_11 : jm_d cX9_comesLaw 11 (.iconst 0) 1 12 := ⟨by decide +kernel, rfl⟩
theorem dX9_comesLaw_12 : jm_d cX9_comesLaw 12 (.ireturn) 1 13 := ⟨by decide +kernel, rfl⟩
set_option maxHeartbeats 4000000 in
set_option maxRecDepth 100000 in
theorem kM_comesLaw (E : jm_Ev) (hE : jm_dj E jm_LM) {M : jm_M} {p1 : Int32}  {r : Int32 × jm_M} (h : sM_comesLaw M p1 = some r) : jm_Ct E jm_LM yX9_comesLaw cX9_comesLaw 3 (some .boolean) 0 0 [.ref (jm_a E 0 0), .int p1] M (some (.int r.1)) r.2 := by
  refine jm_enter (lv := [some (.ref (jm_a E 0 0)), some (.int p1), none]) hE (by decide) (Nat.le_of_ble_eq_true rfl) rfl ?_
  intro z w F hz
  have G : jm_G w 0 [some (.ref (jm_a E 0 0)), some (.int p1), none] [] M (sM_comesLaw M p1) (fun e => z (some (.int e.1)) e.2) := by
    unfold sM_comesLaw
    refine jm_aload_n (i := 0) F dX9_comesLaw_0 rfl rfl ?_
    refine jm_getR F dX9_comesLaw_1 fl_X9_64 lo_X9 rfl ?_
    refine jm_iload_n (i := 1) F dX9_comesLaw_4 rfl rfl ?_
    refine jm_iald F dX9_comesLaw_5 la_X9_24 (fun v1 => ?_)
    refine jm_bipush F dX9_comesLaw_6 kb_6 ?_
    refine jm_icmp_le F dX9_comesLaw_8 (fun c2 => ?_) (fun c2 => ?_)
    · refine jm_aload_n (i := 0) F dX9_comesLaw_13 rfl rfl ?_
      refine jm_aload_n (i := 0) F dX9_comesLaw_14 rfl rfl ?_
      refine jm_getR F dX9_comesLaw_15 fl_X9_64 lo_X9 rfl ?_
      refine jm_iload_n (i := 1) F dX9_comesLaw_18 rfl rfl ?_
      refine jm_iald F dX9_comesLaw_19 la_X9_24 (fun v3 => ?_)
      refine jm_putI F dX9_comesLaw_20 fp_X9_122 lo_X9 rfl (fun M4 => ?_)
      refine jm_iconst F dX9_comesLaw_23 kc_0 ?_
      refine jm_istore_n (i := 2) (lv' := [some (.ref (jm_a E 0 0)), some (.int p1), some (.int 0)]) F dX9_comesLaw_24 rfl (by decide) rfl rfl ?_
      refine jm_bind (pcJ := 77) (lvJ := fun e13 => [none, none, none]) (stJ := fun _ => []) (MJ := fun e13 => e13) ?_ (fun e13 => ?_)
      · refine jm_weak F (lv' := [some (.ref (jm_a E 0 0)), some (.int p1), some (.int 0)]) ⟨rfl, rfl, rfl, trivial⟩ ?_
        refine jm_loopR (lvH := fun s5 => [some (.ref (jm_a E 0 0)), some (.int p1), some (.int s5.1)]) (MH := fun s5 => s5.2) (fun s5 => ?_) jm_N (0, M4)
        unfold sM_comesLaw_L25
        refine jm_iload_n (i := 2) F dX9_comesLaw_25 rfl rfl ?_
        refine jm_aload_n (i := 0) F dX9_comesLaw_26 rfl rfl ?_
        refine jm_getI F dX9_comesLaw_27 fl_X9_122 lo_X9 rfl ?_
        refine jm_icmp_ge F dX9_comesLaw_30 (fun c6 => ?_) (fun c6 => ?_)
        · exact jm_weakD F (lv' := [none, none, none]) trivial (fun h => h)
        · refine jm_aload_n (i := 0) F dX9_comesLaw_33 rfl rfl ?_
          refine jm_getR F dX9_comesLaw_34 fl_X9_43 lo_X9 rfl ?_
          refine jm_iload_n (i := 2) F dX9_comesLaw_37 rfl rfl ?_
          refine jm_aload_n (i := 0) F dX9_comesLaw_38 rfl rfl ?_
          refine jm_getR F dX9_comesLaw_39 fl_X9_67 lo_X9 rfl ?_
          refine jm_aload_n (i := 0) F dX9_comesLaw_42 rfl rfl ?_
          refine jm_getR F dX9_comesLaw_43 fl_X9_61 lo_X9 rfl ?_
          refine jm_iload_n (i := 1) F dX9_comesLaw_46 rfl rfl ?_
          refine jm_iald F dX9_comesLaw_47 la_X9_23 (fun v7 => ?_)
          refine jm_iload_n (i := 2) F dX9_comesLaw_48 rfl rfl ?_
          refine jm_iadd F dX9_comesLaw_49 ?_
          refine jm_iald F dX9_comesLaw_50 la_X9_25 (fun v8 => ?_)
          refine jm_iast F dX9_comesLaw_51 la_X9_12 (fun M9 => ?_)
          refine jm_aload_n (i := 0) F dX9_comesLaw_52 rfl rfl ?_
          refine jm_getR F dX9_comesLaw_53 fl_X9_46 lo_X9 rfl ?_
          refine jm_iload_n (i := 2) F dX9_comesLaw_56 rfl rfl ?_
          refine jm_aload_n (i := 0) F dX9_comesLaw_57 rfl rfl ?_
          refine jm_getR F dX9_comesLaw_58 fl_X9_70 lo_X9 rfl ?_
          refine jm_aload_n (i := 0) F dX9_comesLaw_61 rfl rfl ?_
          refine jm_getR F dX9_comesLaw_62 fl_X9_61 lo_X9 rfl ?_
          refine jm_iload_n (i := 1) F dX9_comesLaw_65 rfl rfl ?_
          refine jm_iald F dX9_comesLaw_66 la_X9_23 (fun v10 => ?_)
          refine jm_iload_n (i := 2) F dX9_comesLaw_67 rfl rfl ?_
          refine jm_iadd F dX9_comesLaw_68 ?_
          refine jm_iald F dX9_comesLaw_69 la_X9_26 (fun v11 => ?_)
          refine jm_iast F dX9_comesLaw_70 la_X9_13 (fun M12 => ?_)
          refine jm_iinc (i := 2) (lv' := [some (.ref (jm_a E 0 0)), some (.int p1), some (.int (s5.1 + 1))]) F dX9_comesLaw_71 kc_1 rfl (by decide) rfl rfl ?_
          refine jm_goto F dX9_comesLaw_74 ?_
          exact jm_weakD F (lv' := [some (.ref (jm_a E 0 0)), some (.int p1), some (.int (s5.1 + 1))]) ⟨rfl, rfl, rfl, trivial⟩ (fun h => h)
      · refine jm_iconst F dX9_comesLaw_77 kc_1 ?_
        exact jm_zret F dX9_comesLaw_78 (Or.inr rfl) (fun h => h)
    · refine jm_iconst F dX9_comesLaw_11 kc_0 ?_
      exact jm_zret F dX9_comesLaw_12 (Or.inl rfl) (fun h => h)
  exact G r h hz
theorem dX9_comesWeeks_0 : jm_d cX9_comesWeeks 0 (.iload_n 1) 1 1 := ⟨by decide +kernel, rfl⟩
theorem dX9_comesWeeks_1 : jm_d cX9_comesWeeks 1 (.iconst 1) 1 2 := ⟨by decide +kernel, rfl⟩
theorem dX9_comesWeeks_2 : jm_d cX9_comesWeeks 2 (.bipush 60) 2 4 := ⟨by decide +kernel, rfl⟩
theorem dX9_comesWeeks_4 : jm_d cX9_comesWeeks 4 (.invokestatic 98) 3 7 := ⟨by decide +kernel, rfl⟩
theorem dX9_comesWeeks_7 : jm_b cX9_comesWeeks 7 (.ifCond .eq) 10 22 := ⟨15, by decide +kernel, rfl, by decide⟩
theorem dX9_comesWeeks_22 : jm_d cX9_comesWeeks 22 (.iconst 0) 1 23 := ⟨by decide +kernel, rfl⟩
theorem dX9_comesWeeks_23 : jm_d cX9_comesWeeks 23 (.ireturn) 1 24 := ⟨by decide +kernel, rfl⟩
theorem dX9_comesWeeks_10 : jm_d cX9_comesWeeks 10 (.aload_n 0) 1 11 := ⟨by decide +kernel, rfl⟩
theorem dX9_comesWeeks_11 : jm_d cX9_comesWeeks 11 (.getfield 116) 3 14 := ⟨by decide +kernel, rfl⟩
theorem dX9_comesWeeks_14 : jm_d cX9_comesWeeks 14 (.iload_n 1) 1 15 := ⟨by decide +kernel, rfl⟩
theorem dX9_comesWeeks_15 : jm_d cX9_comesWeeks 15 (.iadd) 1 16 := ⟨by decide +kernel, rfl⟩
theorem dX9_comesWeeks_16 : jm_d cX9_comesWeeks 16 (.sipush 999) 3 19 := ⟨by decide +kernel, rfl⟩
theorem dX9_comesWeeks_19 : jm_b cX9_comesWeeks 19 (.if_icmp .le) 22 24 := ⟨5, by decide +kernel, rfl, by decide⟩
theorem dX9_comesWeeks_24 : jm_d cX9_comesWeeks 24 (.aload_n 0) 1 25 := ⟨by decide +kernel, rfl⟩
theorem dX9_comesWeeks_25 : jm_d cX9_comesWeeks 25 (.iload_n 1) 1 26 := ⟨by decide +kernel, rfl⟩
theorem dX9_comesWeeks_26 : jm_d cX9_comesWeeks 26 (.invokevirtual 229) 3 29 := ⟨by decide +kernel, rfl⟩
theorem dX9_comesWeeks_29 : jm_d cX9_comesWeeks 29 (.iconst 1) 1 30 := ⟨by decide +kernel, rfl⟩
theorem dX9_comesWeeks_30 : jm_d cX9_comesWeeks 30 (.ireturn) 1 31 := ⟨by decide +kernel, rfl⟩
set_option maxHeartbeats 4000000 in
set_option maxRecDepth 100000 in
theorem kM_comesWeeks (E : jm_Ev) (hE : jm_dj E jm_LM) {M : jm_M} {p1 : Int32}  {r : Int32 × jm_M} (h : sM_comesWeeks M p1 = some r) : jm_Ct E jm_LM yX9_comesWeeks cX9_comesWeeks 2 (some .boolean) 5 113 [.ref (jm_a E 0 0), .int p1] M (some (.int r.1)) r.2 := by
  refine jm_enter (lv := [some (.ref (jm_a E 0 0)), some (.int p1)]) hE (by decide) (Nat.le_of_ble_eq_true rfl) rfl ?_
  intro z w F hz
  have G : jm_G w 0 [some (.ref (jm_a E 0 0)), some (.int p1)] [] M (sM_comesWeeks M p1) (fun e => z (some (.int e.1)) e.2) := by
    unfold sM_comesWeeks
    refine jm_iload_n (i := 1) F dX9_comesWeeks_0 rfl rfl ?_
    refine jm_iconst F dX9_comesWeeks_1 kc_1 ?_
    refine jm_bipush F dX9_comesWeeks_2 kb_60 ?_
    refine jm_callS (As := [.int p1, .int 1, .int 60]) (st := []) (rv := fun r => some (.int r)) (mm := fun _ => M) F dX9_comesWeeks_4 qX9_98 rfl (fun r h => kM_isIn E hE h) rfl (Nat.le_of_ble_eq_true rfl) ⟨Nat.le_of_ble_eq_true rfl, Nat.le_of_ble_eq_true rfl⟩ (fun r1 => ?_)
    refine jm_if_eq F dX9_comesWeeks_7 (fun c2 => ?_) (fun c2 => ?_)
    · refine jm_iconst F dX9_comesWeeks_22 kc_0 ?_
      exact jm_zret F dX9_comesWeeks_23 (Or.inl rfl) (fun h => h)
    · refine jm_aload_n (i := 0) F dX9_comesWeeks_10 rfl rfl ?_
      refine jm_getI F dX9_comesWeeks_11 fl_X9_116 lo_X9 rfl ?_
      refine jm_iload_n (i := 1) F dX9_comesWeeks_14 rfl rfl ?_
      refine jm_iadd F dX9_comesWeeks_15 ?_
      refine jm_sipush F dX9_comesWeeks_16 ks_999 ?_
      refine jm_icmp_le F dX9_comesWeeks_19 (fun c3 => ?_) (fun c3 => ?_)
      · refine jm_aload_n (i := 0) F dX9_comesWeeks_24 rfl rfl ?_
        refine jm_iload_n (i := 1) F dX9_comesWeeks_25 rfl rfl ?_
        refine jm_callV (As := [.int p1]) (st := []) (rv := fun _ => none) (mm := fun r => r) F dX9_comesWeeks_26 qX9_229 rfl lo_X9 rfl (fun r h => kM_goes E hE h) rfl (Nat.le_of_ble_eq_true rfl) ⟨Nat.le_of_ble_eq_true rfl, Nat.le_of_ble_eq_true rfl⟩ (fun r4 => ?_)
        refine jm_iconst F dX9_comesWeeks_29 kc_1 ?_
        exact jm_zret F dX9_comesWeeks_30 (Or.inr rfl) (fun h => h)
      · refine jm_iconst F dX9_comesWeeks_22 kc_0 ?_
        exact jm_zret F dX9_comesWeeks_23 (Or.inl rfl) (fun h => h)
  exact G r h hz
theorem dX9_comesTold_0 : jm_d cX9_comesTold 0 (.iconst 3) 1 1 := ⟨by decide +kernel, rfl⟩
theorem dX9_comesTold_1 : jm_d cX9_comesTold 1 (.iload_n 1) 1 2 := ⟨by decide +kernel, rfl⟩
theorem dX9_comesTold_2 : jm_d cX9_comesTold 2 (.imul) 1 3 := ⟨by decide +kernel, rfl⟩
theorem dX9_comesTold_3 : jm_d cX9_comesTold 3 (.istore_n 2) 1 4 := ⟨by decide +kernel, rfl⟩
theorem dX9_comesTold_4 : jm_d cX9_comesTold 4 (.aload_n 0) 1 5 := ⟨by decide +kernel, rfl⟩
theorem dX9_comesTold_5 : jm_d cX9_comesTold 5 (.getfield 52) 3 8 := ⟨by decide +kernel, rfl⟩
theorem dX9_comesTold_8 : jm_d cX9_comesTold 8 (.iload_n 1) 1 9 := ⟨by decide +kernel, rfl⟩
theorem dX9_comesTold_9 : jm_d cX9_comesTold 9 (.iaload) 1 10 := ⟨by decide +kernel, rfl⟩
theorem dX9_comesTold_10 : decode cX9_comesTold 10 = .ok (.lookupswitch 83 #[(98, 56), (104, 70), (108, 77), (112, 50), (114, 63)], 50) := by decide +kernel
theorem dX9_comesTold_66 : jm_d cX9_comesTold 66 (.aload_n 0) 1 67 := ⟨by decide +kernel, rfl⟩
theorem dX9_comesTold_67 : jm_d cX9_comesTold 67 (.iload_n 1) 1 68 := ⟨by decide +kernel, rfl⟩
theorem dX9_comesTold_68 : jm_d cX9_comesTold 68 (.iload_n 2) 1 69 := ⟨by decide +kernel, rfl⟩
theorem dX9_comesTold_69 : jm_d cX9_comesTold 69 (.invokevirtual 235) 3 72 := ⟨by decide +kernel, rfl⟩
theorem dX9_comesTold_72 : jm_d cX9_comesTold 72 (.ireturn) 1 73 := ⟨by decide +kernel, rfl⟩
theorem dX9_comesTold_80 : jm_d cX9_comesTold 80 (.aload_n 0) 1 81 := ⟨by decide +kernel, rfl⟩
theorem dX9_comesTold_81 : jm_d cX9_comesTold 81 (.iload_n 1) 1 82 := ⟨by decide +kernel, rfl⟩
theorem dX9_comesTold_82 : jm_d cX9_comesTold 82 (.iload_n 2) 1 83 := ⟨by decide +kernel, rfl⟩
theorem dX9_comesTold_83 : jm_d cX9_comesTold 83 (.invokevirtual 241) 3 86 := ⟨by decide +kernel, rfl⟩
theorem dX9_comesTold_86 : jm_d cX9_comesTold 86 (.ireturn) 1 87 := ⟨by decide +kernel, rfl⟩
theorem dX9_comesTold_87 : jm_d cX9_comesTold 87 (.aload_n 0) 1 88 := ⟨by decide +kernel, rfl⟩
theorem dX9_comesTold_88 : jm_d cX9_comesTold 88 (.iload_n 1) 1 89 := ⟨by decide +kernel, rfl⟩
theorem dX9_comesTold_89 : jm_d cX9_comesTold 89 (.invokevirtual 244) 3 92 := ⟨by decide +kernel, rfl⟩
theorem dX9_comesTold_92 : jm_d cX9_comesTold 92 (.ireturn) 1 93 := ⟨by decide +kernel, rfl⟩
theorem dX9_comesTold_60 : jm_d cX9_comesTold 60 (.aload_n 0) 1 61 := ⟨by decide +kernel, rfl⟩
theorem dX9_comesTold_61 : jm_d cX9_comesTold 61 (.iload_n 2) 1 62 := ⟨by decide +kernel, rfl⟩
theorem dX9_comesTold_62 : jm_d cX9_comesTold 62 (.invokevirtual 232) 3 65 := ⟨by decide +kernel, rfl⟩
theorem dX9_comesTold_65 : jm_d cX9_comesTold 65 (.ireturn) 1 66 := ⟨by decide +kernel, rfl⟩
theorem dX9_comesTold_73 : jm_d cX9_comesTold 73 (.aload_n 0) 1 74 := ⟨by decide +kernel, rfl⟩
theorem dX9_comesTold_74 : jm_d cX9_comesTold 74 (.iload_n 1) 1 75 := ⟨by decide +kernel, rfl⟩
theorem dX9_comesTold_75 : jm_d cX9_comesTold 75 (.iload_n 2) 1 76 := ⟨by decide +kernel, rfl⟩
theorem dX9_comesTold_76 : jm_d cX9_comesTold 76 (.invokevirtual 238) 3 79 := ⟨by decide +kernel, rfl⟩
theorem dX9_comesTold_79 : jm_d cX9_comesTold 79 (.ireturn) 1 80 := ⟨by decide +kernel, rfl⟩
theorem dX9_comesTold_93 : jm_d cX9_comesTold 93 (.aload_n 0) 1 94 := ⟨by decide +kernel, rfl⟩
theorem dX9_comesTold_94 : jm_d cX9_comesTold 94 (.aload_n 0) 1 95 := ⟨by decide +kernel, rfl⟩
theorem dX9_comesTold_95 : jm_d cX9_comesTold 95 (.getfield 58) 3 98 := ⟨by decide +kernel, rfl⟩
theorem dX9_comesTold_98 : jm_d cX9_comesTold 98 (.iload_n 2) 1 99 := ⟨by decide +kernel, rfl⟩
theorem dX9_comesTold_99 : jm_d cX9_comesTold 99 (.iaload) 1 100 := ⟨by decide +kernel, rfl⟩
theorem dX9_comesTold_100 : jm_d cX9_comesTold 100 (.invokevirtual 247) 3 103 := ⟨by decide +kernel, rfl⟩
theorem dX9_comesTold_103 : jm_d cX9_comesTold 103 (.ireturn) 1 104 := ⟨by decide +kernel, rfl⟩
set_option maxHeartbeats 4000000 in
set_option maxRecDepth 100000 in
theorem kM_comesTold (E : jm_Ev) (hE : jm_dj E jm_LM) {M : jm_M} {p1 : Int32}  {r : Int32 × jm_M} (h : sM_comesTold M p1 = some r) : jm_Ct E jm_LM yX9_comesTold cX9_comesTold 3 (some .boolean) 6 134 [.ref (jm_a E 0 0), .int p1] M (some (.int r.1)) r.2 := by
  refine jm_enter (lv := [some (.ref (jm_a E 0 0)), some (.int p1), none]) hE (by decide) (Nat.le_of_ble_eq_true rfl) rfl ?_
  intro z w F hz
  have G : jm_G w 0 [some (.ref (jm_a E 0 0)), some (.int p1), none] [] M (sM_comesTold M p1) (fun e => z (some (.int e.1)) e.2) := by
    unfold sM_comesTold
    refine jm_iconst F dX9_comesTold_0 kc_3 ?_
    refine jm_iload_n (i := 1) F dX9_comesTold_1 rfl rfl ?_
    refine jm_imul F dX9_comesTold_2 ?_
    refine jm_nameI (f := fun x1 => [.int x1]) (fun x1 => ?_) rfl
    refine jm_istore_n (i := 2) (lv' := [some (.ref (jm_a E 0 0)), some (.int p1), some (.int x1)]) F dX9_comesTold_3 rfl (by decide) rfl rfl ?_
    refine jm_aload_n (i := 0) F dX9_comesTold_4 rfl rfl ?_
    refine jm_getR F dX9_comesTold_5 fl_X9_52 lo_X9 rfl ?_
    refine jm_iload_n (i := 1) F dX9_comesTold_8 rfl rfl ?_
    refine jm_iald F dX9_comesTold_9 la_X9_20 (fun v2 => ?_)
    refine jm_ite (fun c3 => ?_) (fun c3 => ?_)
    · refine jm_lsw (off := 56) (tgt := 66) F dX9_comesTold_10 (by decide) (by rw [c3]; decide) (by decide) ?_
      refine jm_aload_n (i := 0) F dX9_comesTold_66 rfl rfl ?_
      refine jm_iload_n (i := 1) F dX9_comesTold_67 rfl rfl ?_
      refine jm_iload_n (i := 2) F dX9_comesTold_68 rfl rfl ?_
      refine jm_callV (As := [.int p1, .int x1]) (st := []) (rv := fun r => some (.int r.1)) (mm := fun r => r.2) F dX9_comesTold_69 qX9_235 rfl lo_X9 rfl (fun r h => kM_comesBook E hE h) rfl (Nat.le_of_ble_eq_true rfl) ⟨Nat.le_of_ble_eq_true rfl, Nat.le_of_ble_eq_true rfl⟩ (fun r4 => ?_)
      refine jm_bzB (fun hb6 => ?_)
      exact jm_zret F dX9_comesTold_72 hb6 (fun h => h)
    · refine jm_ite (fun c7 => ?_) (fun c7 => ?_)
      · refine jm_lsw (off := 70) (tgt := 80) F dX9_comesTold_10 (by decide) (by rw [c7]; decide) (by decide) ?_
        refine jm_aload_n (i := 0) F dX9_comesTold_80 rfl rfl ?_
        refine jm_iload_n (i := 1) F dX9_comesTold_81 rfl rfl ?_
        refine jm_iload_n (i := 2) F dX9_comesTold_82 rfl rfl ?_
        refine jm_callV (As := [.int p1, .int x1]) (st := []) (rv := fun r => some (.int r.1)) (mm := fun r => r.2) F dX9_comesTold_83 qX9_241 rfl lo_X9 rfl (fun r h => kM_comesHolding E hE h) rfl (Nat.le_of_ble_eq_true rfl) ⟨Nat.le_of_ble_eq_true rfl, Nat.le_of_ble_eq_true rfl⟩ (fun r8 => ?_)
        refine jm_bzB (fun hb10 => ?_)
        exact jm_zret F dX9_comesTold_86 hb10 (fun h => h)
      · refine jm_ite (fun c11 => ?_) (fun c11 => ?_)
        · refine jm_lsw (off := 77) (tgt := 87) F dX9_comesTold_10 (by decide) (by rw [c11]; decide) (by decide) ?_
          refine jm_aload_n (i := 0) F dX9_comesTold_87 rfl rfl ?_
          refine jm_iload_n (i := 1) F dX9_comesTold_88 rfl rfl ?_
          refine jm_callV (As := [.int p1]) (st := []) (rv := fun r => some (.int r.1)) (mm := fun r => r.2) F dX9_comesTold_89 qX9_244 rfl lo_X9 rfl (fun r h => kM_comesLaw E hE h) rfl (Nat.le_of_ble_eq_true rfl) ⟨Nat.le_of_ble_eq_true rfl, Nat.le_of_ble_eq_true rfl⟩ (fun r12 => ?_)
          refine jm_bzB (fun hb14 => ?_)
          exact jm_zret F dX9_comesTold_92 hb14 (fun h => h)
        · refine jm_ite (fun c15 => ?_) (fun c15 => ?_)
          · refine jm_lsw (off := 50) (tgt := 60) F dX9_comesTold_10 (by decide) (by rw [c15]; decide) (by decide) ?_
            refine jm_aload_n (i := 0) F dX9_comesTold_60 rfl rfl ?_
            refine jm_iload_n (i := 2) F dX9_comesTold_61 rfl rfl ?_
            refine jm_callV (As := [.int x1]) (st := []) (rv := fun r => some (.int r.1)) (mm := fun r => r.2) F dX9_comesTold_62 qX9_232 rfl lo_X9 rfl (fun r h => kM_comesPerson E hE h) rfl (Nat.le_of_ble_eq_true rfl) ⟨Nat.le_of_ble_eq_true rfl, Nat.le_of_ble_eq_true rfl⟩ (fun r16 => ?_)
            refine jm_bzB (fun hb18 => ?_)
            exact jm_zret F dX9_comesTold_65 hb18 (fun h => h)
          · refine jm_ite (fun c19 => ?_) (fun c19 => ?_)
            · refine jm_lsw (off := 63) (tgt := 73) F dX9_comesTold_10 (by decide) (by rw [c19]; decide) (by decide) ?_
              refine jm_aload_n (i := 0) F dX9_comesTold_73 rfl rfl ?_
              refine jm_iload_n (i := 1) F dX9_comesTold_74 rfl rfl ?_
              refine jm_iload_n (i := 2) F dX9_comesTold_75 rfl rfl ?_
              refine jm_callV (As := [.int p1, .int x1]) (st := []) (rv := fun r => some (.int r.1)) (mm := fun r => r.2) F dX9_comesTold_76 qX9_238 rfl lo_X9 rfl (fun r h => kM_comesReading E hE h) rfl (Nat.le_of_ble_eq_true rfl) ⟨Nat.le_of_ble_eq_true rfl, Nat.le_of_ble_eq_true rfl⟩ (fun r20 => ?_)
              refine jm_bzB (fun hb22 => ?_)
              exact jm_zret F dX9_comesTold_79 hb22 (fun h => h)
            · refine jm_lsw (off := 83) (tgt := 93) F dX9_comesTold_10 (by decide) ((lv_osw c3 (by decide)).trans ((lv_osw c7 (by decide)).trans ((lv_osw c11 (by decide)).trans ((lv_osw c15 (by decide)).trans ((lv_osw c19 (by decide)).trans rfl))))) (by decide) ?_
              refine jm_aload_n (i := 0) F dX9_comesTold_93 rfl rfl ?_
              refine jm_aload_n (i := 0) F dX9_comesTold_94 rfl rfl ?_
              refine jm_getR F dX9_comesTold_95 fl_X9_58 lo_X9 rfl ?_
              refine jm_iload_n (i := 2) F dX9_comesTold_98 rfl rfl ?_
              refine jm_iald F dX9_comesTold_99 la_X9_22 (fun v23 => ?_)
              refine jm_callV (As := [.int v23]) (st := []) (rv := fun r => some (.int r.1)) (mm := fun r => r.2) F dX9_comesTold_100 qX9_247 rfl lo_X9 rfl (fun r h => kM_comesWeeks E hE h) rfl (Nat.le_of_ble_eq_true rfl) ⟨Nat.le_of_ble_eq_true rfl, Nat.le_of_ble_eq_true rfl⟩ (fun r24 => ?_)
              refine jm_bzB (fun hb26 => ?_)
              exact jm_zret F dX9_comesTold_103 hb26 (fun h => h)
  exact G r h hz
theorem dX9_passes_0 : jm_d cX9_passes 0 (.iconst 0) 1 1 := ⟨by decide +kernel, rfl⟩
theorem dX9_passes_1 : jm_d cX9_passes 1 (.istore_n 2) 1 2 := ⟨by decide +kernel, rfl⟩
theorem dX9_passes_2 : jm_d cX9_passes 2 (.iload_n 2) 1 3 := ⟨by decide +kernel, rfl⟩
theorem dX9_passes_3 : jm_d cX9_passes 3 (.aload_n 1) 1 4 := ⟨by decide +kernel, rfl⟩
theorem dX9_passes_4 : jm_d cX9_passes 4 (.arraylength) 1 5 := ⟨by decide +kernel, rfl⟩
theorem dX9_passes_5 : jm_b cX9_passes 5 (.if_icmp .ge) 8 58 := ⟨53, by decide +kernel, rfl, by decide⟩
theorem dX9_passes_8 : jm_d cX9_passes 8 (.aload_n 0) 1 9 := ⟨by decide +kernel, rfl⟩
theorem dX9_passes_9 : jm_d cX9_passes 9 (.getfield 263) 3 12 := ⟨by decide +kernel, rfl⟩
theorem dX9_passes_12 : jm_b cX9_passes 12 (.ifCond .eq) 15 30 := ⟨18, by decide +kernel, rfl, by decide⟩
theorem dX9_passes_30 : jm_d cX9_passes 30 (.aload_n 1) 1 31 := ⟨by decide +kernel, rfl⟩
theorem dX9_passes_31 : jm_d cX9_passes 31 (.iload_n 2) 1 32 := ⟨by decide +kernel, rfl⟩
theorem dX9_passes_32 : jm_d cX9_passes 32 (.aload_n 0) 1 33 := ⟨by decide +kernel, rfl⟩
theorem dX9_passes_33 : jm_d cX9_passes 33 (.getfield 73) 3 36 := ⟨by decide +kernel, rfl⟩
theorem dX9_passes_36 : jm_d cX9_passes 36 (.aload_n 0) 1 37 := ⟨by decide +kernel, rfl⟩
theorem dX9_passes_37 : jm_d cX9_passes 37 (.getfield 266) 3 40 := ⟨by decide +kernel, rfl⟩
theorem dX9_passes_40 : jm_d cX9_passes 40 (.iaload) 1 41 := ⟨by decide +kernel, rfl⟩
theorem dX9_passes_41 : jm_d cX9_passes 41 (.iastore) 1 42 := ⟨by decide +kernel, rfl⟩
theorem dX9_passes_15 : jm_d cX9_passes 15 (.aload_n 0) 1 16 := ⟨by decide +kernel, rfl⟩
theorem dX9_passes_16 : jm_d cX9_passes 16 (.getfield 73) 3 19 := ⟨by decide +kernel, rfl⟩
theorem dX9_passes_19 : jm_d cX9_passes 19 (.aload_n 0) 1 20 := ⟨by decide +kernel, rfl⟩
theorem dX9_passes_20 : jm_d cX9_passes 20 (.getfield 266) 3 23 := ⟨by decide +kernel, rfl⟩
theorem dX9_passes_23 : jm_d cX9_passes 23 (.aload_n 1) 1 24 := ⟨by decide +kernel, rfl⟩
theorem dX9_passes_24 : jm_d cX9_passes 24 (.iload_n 2) 1 25 := ⟨by decide +kernel, rfl⟩
theorem dX9_passes_25 : jm_d cX9_passes 25 (.iaload) 1 26 := ⟨by decide +kernel, rfl⟩
theorem dX9_passes_26 : jm_d cX9_passes 26 (.iastore) 1 27 := ⟨by decide +kernel, rfl⟩
theorem dX9_passes_27 : jm_b cX9_passes 27 .goto 30 42 := ⟨15, by decide +kernel, rfl, by decide⟩
theorem dX9_passes_42 : jm_d cX9_passes 42 (.aload_n 0) 1 43 := ⟨by decide +kernel, rfl⟩
theorem dX9_passes_43 : jm_d cX9_passes 43 (.dup) 1 44 := ⟨by decide +kernel, rfl⟩
theorem dX9_passes_44 : jm_d cX9_passes 44 (.getfield 266) 3 47 := ⟨by decide +kernel, rfl⟩
theorem dX9_passes_47 : jm_d cX9_passes 47 (.iconst 1) 1 48 := ⟨by decide +kernel, rfl⟩
theorem dX9_passes_48 : jm_d cX9_passes 48 (.iadd) 1 49 := ⟨by decide +kernel, rfl⟩
theorem dX9_passes_49 : jm_d cX9_passes 49 (.putfield 266) 3 52 := ⟨by decide +kernel, rfl⟩
theorem dX9_passes_52 : jm_d cX9_passes 52 (.iinc 2 1) 3 55 := ⟨by decide +kernel, rfl⟩
theorem dX9_passes_55 : jm_b cX9_passes 55 .goto 58 2 := ⟨(-53), by decide +kernel, rfl, by decide⟩
theorem dX9_passes_58 : jm_d cX9_passes 58 (.return_) 1 59 := ⟨by decide +kernel, rfl⟩
set_option maxHeartbeats 4000000 in
set_option maxRecDepth 100000 in
theorem kM_passes (E : jm_Ev) (hE : jm_dj E jm_LM) {M : jm_M} {p1 : Nat × Nat}  {r : jm_M} (h : sM_passes M p1 = some r) : jm_Ct E jm_LM yX9_passes cX9_passes 3 none 0 0 [.ref (jm_a E 0 0), .ref (jm_a E p1.1 p1.2)] M none r := by
  refine jm_enter (lv := [some (.ref (jm_a E 0 0)), some (.ref (jm_a E p1.1 p1.2)), none]) hE (by decide) (Nat.le_of_ble_eq_true rfl) rfl ?_
  intro z w F hz
  have G : jm_G w 0 [some (.ref (jm_a E 0 0)), some (.ref (jm_a E p1.1 p1.2)), none] [] M (sM_passes M p1) (fun e => z none e) := by
    unfold sM_passes
    refine jm_iconst F dX9_passes_0 kc_0 ?_
    refine jm_istore_n (i := 2) (lv' := [some (.ref (jm_a E 0 0)), some (.ref (jm_a E p1.1 p1.2)), some (.int 0)]) F dX9_passes_1 rfl (by decide) rfl rfl ?_
    refine jm_bind (pcJ := 58) (lvJ := fun e13 => [none, none, none]) (stJ := fun _ => []) (MJ := fun e13 => e13) ?_ (fun e13 => ?_)
    · refine jm_weak F (lv' := [some (.ref (jm_a E 0 0)), some (.ref (jm_a E p1.1 p1.2)), some (.int 0)]) ⟨rfl, rfl, rfl, trivial⟩ ?_
      refine jm_loopR (lvH := fun s1 => [some (.ref (jm_a E 0 0)), some (.ref (jm_a E p1.1 p1.2)), some (.int s1.1)]) (MH := fun s1 => s1.2) (fun s1 => ?_) jm_N (0, M)
      unfold sM_passes_L2
      refine jm_iload_n (i := 2) F dX9_passes_2 rfl rfl ?_
      refine jm_aload_n (i := 1) F dX9_passes_3 rfl rfl ?_
      refine jm_lenB (r := p1) (fun N2 hN2 => ?_)
      refine jm_alen F dX9_passes_4 hN2 ?_
      refine jm_icmp_ge F dX9_passes_5 (fun c3 => ?_) (fun c3 => ?_)
      · exact jm_weakD F (lv' := [none, none, none]) trivial (fun h => h)
      · refine jm_aload_n (i := 0) F dX9_passes_8 rfl rfl ?_
        refine jm_getI F dX9_passes_9 fl_X9_263 lo_X9 rfl ?_
        refine jm_bind (pcJ := 42) (lvJ := fun e4 => [some (.ref (jm_a E 0 0)), some (.ref (jm_a E p1.1 p1.2)), some (.int s1.1)]) (stJ := fun e4 => []) (MJ := fun e4 => e4) ?_ (fun e4 => ?_)
        · refine jm_if_eq F dX9_passes_12 (fun c5 => ?_) (fun c5 => ?_)
          · refine jm_aload_n (i := 1) F dX9_passes_30 rfl rfl ?_
            refine jm_iload_n (i := 2) F dX9_passes_31 rfl rfl ?_
            refine jm_aload_n (i := 0) F dX9_passes_32 rfl rfl ?_
            refine jm_getR F dX9_passes_33 fl_X9_73 lo_X9 rfl ?_
            refine jm_aload_n (i := 0) F dX9_passes_36 rfl rfl ?_
            refine jm_getI F dX9_passes_37 fl_X9_266 lo_X9 rfl ?_
            refine jm_iald F dX9_passes_40 la_X9_32 (fun v6 => ?_)
            refine jm_lenB (r := p1) (fun N7 hN7 => ?_)
            refine jm_iast F dX9_passes_41 hN7 (fun M8 => ?_)
            exact jm_weakD F (lv' := [some (.ref (jm_a E 0 0)), some (.ref (jm_a E p1.1 p1.2)), some (.int s1.1)]) ⟨rfl, rfl, rfl, trivial⟩ (fun h => h)
          · refine jm_aload_n (i := 0) F dX9_passes_15 rfl rfl ?_
            refine jm_getR F dX9_passes_16 fl_X9_73 lo_X9 rfl ?_
            refine jm_aload_n (i := 0) F dX9_passes_19 rfl rfl ?_
            refine jm_getI F dX9_passes_20 fl_X9_266 lo_X9 rfl ?_
            refine jm_aload_n (i := 1) F dX9_passes_23 rfl rfl ?_
            refine jm_iload_n (i := 2) F dX9_passes_24 rfl rfl ?_
            refine jm_lenB (r := p1) (fun N9 hN9 => ?_)
            refine jm_iald F dX9_passes_25 hN9 (fun v10 => ?_)
            refine jm_iast F dX9_passes_26 la_X9_32 (fun M11 => ?_)
            refine jm_goto F dX9_passes_27 ?_
            exact jm_weakD F (lv' := [some (.ref (jm_a E 0 0)), some (.ref (jm_a E p1.1 p1.2)), some (.int s1.1)]) ⟨rfl, rfl, rfl, trivial⟩ (fun h => h)
        · refine jm_aload_n (i := 0) F dX9_passes_42 rfl rfl ?_
          refine jm_dup F dX9_passes_43 rfl ?_
          refine jm_getI F dX9_passes_44 fl_X9_266 lo_X9 rfl ?_
          refine jm_iconst F dX9_passes_47 kc_1 ?_
          refine jm_iadd F dX9_passes_48 ?_
          refine jm_putI F dX9_passes_49 fp_X9_266 lo_X9 rfl (fun M12 => ?_)
          refine jm_iinc (i := 2) (lv' := [some (.ref (jm_a E 0 0)), some (.ref (jm_a E p1.1 p1.2)), some (.int (s1.1 + 1))]) F dX9_passes_52 kc_1 rfl (by decide) rfl rfl ?_
          refine jm_goto F dX9_passes_55 ?_
          exact jm_weakD F (lv' := [some (.ref (jm_a E 0 0)), some (.ref (jm_a E p1.1 p1.2)), some (.int (s1.1 + 1))]) ⟨rfl, rfl, rfl, trivial⟩ (fun h => h)
    · exact jm_vret F dX9_passes_58 (fun h => h)
  exact G r h hz
theorem dX9_passOne_0 : jm_d cX9_passOne 0 (.aload_n 0) 1 1 := ⟨by decide +kernel, rfl⟩
theorem dX9_passOne_1 : jm_d cX9_passOne 1 (.getfield 263) 3 4 := ⟨by decide +kernel, rfl⟩
theorem dX9_passOne_4 : jm_b cX9_passOne 4 (.ifCond .eq) 7 11 := ⟨7, by decide +kernel, rfl, by decide⟩
theorem dX9_passOne_11 : jm_d cX9_passOne 11 (.aload_n 0) 1 12 := ⟨by decide +kernel, rfl⟩
theorem dX9_passOne_12 : jm_d cX9_passOne 12 (.getfield 73) 3 15 := ⟨by decide +kernel, rfl⟩
theorem dX9_passOne_15 : jm_d cX9_passOne 15 (.aload_n 0) 1 16 := ⟨by decide +kernel, rfl⟩
theorem dX9_passOne_16 : jm_d cX9_passOne 16 (.getfield 266) 3 19 := ⟨by decide +kernel, rfl⟩
theorem dX9_passOne_19 : jm_d cX9_passOne 19 (.iaload) 1 20 := ⟨by decide +kernel, rfl⟩
theorem dX9_passOne_7 : jm_d cX9_passOne 7 (.iload_n 1) 1 8 := ⟨by decide +kernel, rfl⟩
theorem dX9_passOne_8 : jm_b cX9_passOne 8 .goto 11 20 := ⟨12, by decide +kernel, rfl, by decide⟩
theorem dX9_passOne_20 : jm_d cX9_passOne 20 (.istore_n 2) 1 21 := ⟨by decide +kernel, rfl⟩
theorem dX9_passOne_21 : jm_d cX9_passOne 21 (.aload_n 0) 1 22 := ⟨by decide +kernel, rfl⟩
theorem dX9_passOne_22 : jm_d cX9_passOne 22 (.getfield 263) 3 25 := ⟨by decide +kernel, rfl⟩
theorem dX9_passOne_25 : jm_b cX9_passOne 25 (.ifCond .eq) 28 38 := ⟨13, by decide +kernel, rfl, by decide⟩
theorem dX9_passOne_28 : jm_d cX9_passOne 28 (.aload_n 0) 1 29 := ⟨by decide +kernel, rfl⟩
theorem dX9_passOne_29 : jm_d cX9_passOne 29 (.getfield 73) 3 32 := ⟨by decide +kernel, rfl⟩
theorem dX9_passOne_32 : jm_d cX9_passOne 32 (.aload_n 0) 1 33 := ⟨by decide +kernel, rfl⟩
theorem dX9_passOne_33 : jm_d cX9_passOne 33 (.getfield 266) 3 36 := ⟨by decide +kernel, rfl⟩
theorem dX9_passOne_36 : jm_d cX9_passOne 36 (.iload_n 1) 1 37 := ⟨by decide +kernel, rfl⟩
theorem dX9_passOne_37 : jm_d cX9_passOne 37 (.iastore) 1 38 := ⟨by decide +kernel, rfl⟩
theorem dX9_passOne_38 : jm_d cX9_passOne 38 (.aload_n 0) 1 39 := ⟨by decide +kernel, rfl⟩
theorem dX9_passOne_39 : jm_d cX9_passOne 39 (.dup) 1 40 := ⟨by decide +kernel, rfl⟩
theorem dX9_passOne_40 : jm_d cX9_passOne 40 (.getfield 266) 3 43 := ⟨by decide +kernel, rfl⟩
theorem dX9_passOne_43 : jm_d cX9_passOne 43 (.iconst 1) 1 44 := ⟨by decide +kernel, rfl⟩
theorem dX9_passOne_44 : jm_d cX9_passOne 44 (.iadd) 1 45 := ⟨by decide +kernel, rfl⟩
theorem dX9_passOne_45 : jm_d cX9_passOne 45 (.putfield 266) 3 48 := ⟨by decide +kernel, rfl⟩
theorem dX9_passOne_48 : jm_d cX9_passOne 48 (.iload_n 2) 1 49 := ⟨by decide +kernel, rfl⟩
theorem dX9_passOne_49 : jm_d cX9_passOne 49 (.ireturn) 1 50 := ⟨by decide +kernel, rfl⟩
set_option maxHeartbeats 4000000 in
set_option maxRecDepth 100000 in
theorem kM_passOne (E : jm_Ev) (hE : jm_dj E jm_LM) {M : jm_M} {p1 : Int32}  {r : Int32 × jm_M} (h : sM_passOne M p1 = some r) : jm_Ct E jm_LM yX9_passOne cX9_passOne 3 (some .int) 0 0 [.ref (jm_a E 0 0), .int p1] M (some (.int r.1)) r.2 := by
  refine jm_enter (lv := [some (.ref (jm_a E 0 0)), some (.int p1), none]) hE (by decide) (Nat.le_of_ble_eq_true rfl) rfl ?_
  intro z w F hz
  have G : jm_G w 0 [some (.ref (jm_a E 0 0)), some (.int p1), none] [] M (sM_passOne M p1) (fun e => z (some (.int e.1)) e.2) := by
    unfold sM_passOne
    refine jm_aload_n (i := 0) F dX9_passOne_0 rfl rfl ?_
    refine jm_getI F dX9_passOne_1 fl_X9_263 lo_X9 rfl ?_
    refine jm_bind (pcJ := 20) (lvJ := fun e1 => [some (.ref (jm_a E 0 0)), some (.int p1), none]) (stJ := fun e1 => [.int e1]) (MJ := fun e1 => M) ?_ (fun e1 => ?_)
    · refine jm_if_eq F dX9_passOne_4 (fun c2 => ?_) (fun c2 => ?_)
      · refine jm_aload_n (i := 0) F dX9_passOne_11 rfl rfl ?_
        refine jm_getR F dX9_passOne_12 fl_X9_73 lo_X9 rfl ?_
        refine jm_aload_n (i := 0) F dX9_passOne_15 rfl rfl ?_
        refine jm_getI F dX9_passOne_16 fl_X9_266 lo_X9 rfl ?_
        refine jm_iald F dX9_passOne_19 la_X9_32 (fun v3 => ?_)
        exact jm_weakD F (lv' := [some (.ref (jm_a E 0 0)), some (.int p1), none]) ⟨rfl, rfl, trivial⟩ (fun h => h)
      · refine jm_iload_n (i := 1) F dX9_passOne_7 rfl rfl ?_
        refine jm_goto F dX9_passOne_8 ?_
        exact jm_weakD F (lv' := [some (.ref (jm_a E 0 0)), some (.int p1), none]) ⟨rfl, rfl, trivial⟩ (fun h => h)
    · refine jm_istore_n (i := 2) (lv' := [some (.ref (jm_a E 0 0)), some (.int p1), some (.int e1)]) F dX9_passOne_20 rfl (by decide) rfl rfl ?_
      refine jm_aload_n (i := 0) F dX9_passOne_21 rfl rfl ?_
      refine jm_getI F dX9_passOne_22 fl_X9_263 lo_X9 rfl ?_
      refine jm_bind (pcJ := 38) (lvJ := fun e4 => [some (.ref (jm_a E 0 0)), none, some (.int e1)]) (stJ := fun e4 => []) (MJ := fun e4 => e4) ?_ (fun e4 => ?_)
      · refine jm_if_eq F dX9_passOne_25 (fun c5 => ?_) (fun c5 => ?_)
        · exact jm_weakD F (lv' := [some (.ref (jm_a E 0 0)), none, some (.int e1)]) ⟨rfl, rfl, trivial⟩ (fun h => h)
        · refine jm_aload_n (i := 0) F dX9_passOne_28 rfl rfl ?_
          refine jm_getR F dX9_passOne_29 fl_X9_73 lo_X9 rfl ?_
          refine jm_aload_n (i := 0) F dX9_passOne_32 rfl rfl ?_
          refine jm_getI F dX9_passOne_33 fl_X9_266 lo_X9 rfl ?_
          refine jm_iload_n (i := 1) F dX9_passOne_36 rfl rfl ?_
          refine jm_iast F dX9_passOne_37 la_X9_32 (fun M6 => ?_)
          exact jm_weakD F (lv' := [some (.ref (jm_a E 0 0)), none, some (.int e1)]) ⟨rfl, rfl, trivial⟩ (fun h => h)
      · refine jm_aload_n (i := 0) F dX9_passOne_38 rfl rfl ?_
        refine jm_dup F dX9_passOne_39 rfl ?_
        refine jm_getI F dX9_passOne_40 fl_X9_266 lo_X9 rfl ?_
        refine jm_iconst F dX9_passOne_43 kc_1 ?_
        refine jm_iadd F dX9_passOne_44 ?_
        refine jm_putI F dX9_passOne_45 fp_X9_266 lo_X9 rfl (fun M7 => ?_)
        refine jm_iload_n (i := 2) F dX9_passOne_48 rfl rfl ?_
        exact jm_iret F dX9_passOne_49 (fun h => h)
  exact G r h hz
theorem dX9_passesAll_0 : jm_d cX9_passesAll 0 (.aload_n 0) 1 1 := ⟨by decide +kernel, rfl⟩
theorem dX9_passesAll_1 : jm_d cX9_passesAll 1 (.sipush 135) 3 4 := ⟨by decide +kernel, rfl⟩
theorem dX9_passesAll_4 : jm_d cX9_passesAll 4 (.iload_n 1) 1 5 := ⟨by decide +kernel, rfl⟩
theorem dX9_passesAll_5 : jm_d cX9_passesAll 5 (.imul) 1 6 := ⟨by decide +kernel, rfl⟩
theorem dX9_passesAll_6 : jm_d cX9_passesAll 6 (.putfield 266) 3 9 := ⟨by decide +kernel, rfl⟩
theorem dX9_passesAll_9 : jm_d cX9_passesAll 9 (.aload_n 0) 1 10 := ⟨by decide +kernel, rfl⟩
theorem dX9_passesAll_10 : jm_d cX9_passesAll 10 (.iload_n 2) 1 11 := ⟨by decide +kernel, rfl⟩
theorem dX9_passesAll_11 : jm_d cX9_passesAll 11 (.putfield 263) 3 14 := ⟨by decide +kernel, rfl⟩
theorem dX9_passesAll_14 : jm_d cX9_passesAll 14 (.aload_n 0) 1 15 := ⟨by decide +kernel, rfl⟩
theorem dX9_passesAll_15 : jm_d cX9_passesAll 15 (.aload_n 0) 1 16 := ⟨by decide +kernel, rfl⟩
theorem dX9_passesAll_16 : jm_d cX9_passesAll 16 (.getfield 13) 3 19 := ⟨by decide +kernel, rfl⟩
theorem dX9_passesAll_19 : jm_d cX9_passesAll 19 (.invokevirtual 269) 3 22 := ⟨by decide +kernel, rfl⟩
theorem dX9_passesAll_22 : jm_d cX9_passesAll 22 (.aload_n 0) 1 23 := ⟨by decide +kernel, rfl⟩
theorem dX9_passesAll_23 : jm_d cX9_passesAll 23 (.aload_n 0) 1 24 := ⟨by decide +kernel, rfl⟩
theorem dX9_passesAll_24 : jm_d cX9_passesAll 24 (.getfield 16) 3 27 := ⟨by decide +kernel, rfl⟩
theorem dX9_passesAll_27 : jm_d cX9_passesAll 27 (.invokevirtual 269) 3 30 := ⟨by decide +kernel, rfl⟩
theorem dX9_passesAll_30 : jm_d cX9_passesAll 30 (.aload_n 0) 1 31 := ⟨by decide +kernel, rfl⟩
theorem dX9_passesAll_31 : jm_d cX9_passesAll 31 (.aload_n 0) 1 32 := ⟨by decide +kernel, rfl⟩
theorem dX9_passesAll_32 : jm_d cX9_passesAll 32 (.getfield 19) 3 35 := ⟨by decide +kernel, rfl⟩
theorem dX9_passesAll_35 : jm_d cX9_passesAll 35 (.invokevirtual 269) 3 38 := ⟨by decide +kernel, rfl⟩
theorem dX9_passesAll_38 : jm_d cX9_passesAll 38 (.aload_n 0) 1 39 := ⟨by decide +kernel, rfl⟩
theorem dX9_passesAll_39 : jm_d cX9_passesAll 39 (.aload_n 0) 1 40 := ⟨by decide +kernel, rfl⟩
theorem dX9_passesAll_40 : jm_d cX9_passesAll 40 (.getfield 22) 3 43 := ⟨by decide +kernel, rfl⟩
theorem dX9_passesAll_43 : jm_d cX9_passesAll 43 (.invokevirtual 269) 3 46 := ⟨by decide +kernel, rfl⟩
theorem dX9_passesAll_46 : jm_d cX9_passesAll 46 (.aload_n 0) 1 47 := ⟨by decide +kernel, rfl⟩
theorem dX9_passesAll_47 : jm_d cX9_passesAll 47 (.aload_n 0) 1 48 := ⟨by decide +kernel, rfl⟩
theorem dX9_passesAll_48 : jm_d cX9_passesAll 48 (.getfield 25) 3 51 := ⟨by decide +kernel, rfl⟩
theorem dX9_passesAll_51 : jm_d cX9_passesAll 51 (.invokevirtual 269) 3 54 := ⟨by decide +kernel, rfl⟩
theorem dX9_passesAll_54 : jm_d cX9_passesAll 54 (.aload_n 0) 1 55 := ⟨by decide +kernel, rfl⟩
theorem dX9_passesAll_55 : jm_d cX9_passesAll 55 (.aload_n 0) 1 56 := ⟨by decide +kernel, rfl⟩
theorem dX9_passesAll_56 : jm_d cX9_passesAll 56 (.getfield 28) 3 59 := ⟨by decide +kernel, rfl⟩
theorem dX9_passesAll_59 : jm_d cX9_passesAll 59 (.invokevirtual 269) 3 62 := ⟨by decide +kernel, rfl⟩
theorem dX9_passesAll_62 : jm_d cX9_passesAll 62 (.aload_n 0) 1 63 := ⟨by decide +kernel, rfl⟩
theorem dX9_passesAll_63 : jm_d cX9_passesAll 63 (.aload_n 0) 1 64 := ⟨by decide +kernel, rfl⟩
theorem dX9_passesAll_64 : jm_d cX9_passesAll 64 (.getfield 31) 3 67 := ⟨by decide +kernel, rfl⟩
theorem dX9_passesAll_67 : jm_d cX9_passesAll 67 (.invokevirtual 269) 3 70 := ⟨by decide +kernel, rfl⟩
theorem dX9_passesAll_70 : jm_d cX9_passesAll 70 (.aload_n 0) 1 71 := ⟨by decide +kernel, rfl⟩
theorem dX9_passesAll_71 : jm_d cX9_passesAll 71 (.aload_n 0) 1 72 := ⟨by decide +kernel, rfl⟩
theorem dX9_passesAll_72 : jm_d cX9_passesAll 72 (.getfield 34) 3 75 := ⟨by decide +kernel, rfl⟩
theorem dX9_passesAll_75 : jm_d cX9_passesAll 75 (.invokevirtual 269) 3 78 := ⟨by decide +kernel, rfl⟩
theorem dX9_passesAll_78 : jm_d cX9_passesAll 78 (.aload_n 0) 1 79 := ⟨by decide +kernel, rfl⟩
theorem dX9_passesAll_79 : jm_d cX9_passesAll 79 (.aload_n 0) 1 80 := ⟨by decide +kernel, rfl⟩
theorem dX9_passesAll_80 : jm_d cX9_passesAll 80 (.getfield 37) 3 83 := ⟨by decide +kernel, rfl⟩
theorem dX9_passesAll_83 : jm_d cX9_passesAll 83 (.invokevirtual 269) 3 86 := ⟨by decide +kernel, rfl⟩
theorem dX9_passesAll_86 : jm_d cX9_passesAll 86 (.aload_n 0) 1 87 := ⟨by decide +kernel, rfl⟩
theorem dX9_passesAll_87 : jm_d cX9_passesAll 87 (.aload_n 0) 1 88 := ⟨by decide +kernel, rfl⟩
theorem dX9_passesAll_88 : jm_d cX9_passesAll 88 (.getfield 40) 3 91 := ⟨by decide +kernel, rfl⟩
theorem dX9_passesAll_91 : jm_d cX9_passesAll 91 (.invokevirtual 269) 3 94 := ⟨by decide +kernel, rfl⟩
theorem dX9_passesAll_94 : jm_d cX9_passesAll 94 (.aload_n 0) 1 95 := ⟨by decide +kernel, rfl⟩
theorem dX9_passesAll_95 : jm_d cX9_passesAll 95 (.aload_n 0) 1 96 := ⟨by decide +kernel, rfl⟩
theorem dX9_passesAll_96 : jm_d cX9_passesAll 96 (.getfield 43) 3 99 := ⟨by decide +kernel, rfl⟩
theorem dX9_passesAll_99 : jm_d cX9_passesAll 99 (.invokevirtual 269) 3 102 := ⟨by decide +kernel, rfl⟩
theorem dX9_passesAll_102 : jm_d cX9_passesAll 102 (.aload_n 0) 1 103 := ⟨by decide +kernel, rfl⟩
theorem dX9_passesAll_103 : jm_d cX9_passesAll 103 (.aload_n 0) 1 104 := ⟨by decide +kernel, rfl⟩
theorem dX9_passesAll_104 : jm_d cX9_passesAll 104 (.getfield 46) 3 107 := ⟨by decide +kernel, rfl⟩
theorem dX9_passesAll_107 : jm_d cX9_passesAll 107 (.invokevirtual 269) 3 110 := ⟨by decide +kernel, rfl⟩
theorem dX9_passesAll_110 : jm_d cX9_passesAll 110 (.aload_n 0) 1 111 := ⟨by decide +kernel, rfl⟩
theorem dX9_passesAll_111 : jm_d cX9_passesAll 111 (.aload_n 0) 1 112 := ⟨by decide +kernel, rfl⟩
theorem dX9_passesAll_112 : jm_d cX9_passesAll 112 (.aload_n 0) 1 113 := ⟨by decide +kernel, rfl⟩
theorem dX9_passesAll_113 : jm_d cX9_passesAll 113 (.getfield 91) 3 116 := ⟨by decide +kernel, rfl⟩
theorem dX9_passesAll_116 : jm_d cX9_passesAll 116 (.invokevirtual 273) 3 119 := ⟨by decide +kernel, rfl⟩
theorem dX9_passesAll_119 : jm_d cX9_passesAll 119 (.putfield 91) 3 122 := ⟨by decide +kernel, rfl⟩
theorem dX9_passesAll_122 : jm_d cX9_passesAll 122 (.aload_n 0) 1 123 := ⟨by decide +kernel, rfl⟩
theorem dX9_passesAll_123 : jm_d cX9_passesAll 123 (.aload_n 0) 1 124 := ⟨by decide +kernel, rfl⟩
theorem dX9_passesAll_124 : jm_d cX9_passesAll 124 (.aload_n 0) 1 125 := ⟨by decide +kernel, rfl⟩
theorem dX9_passesAll_125 : jm_d cX9_passesAll 125 (.getfield 106) 3 128 := ⟨by decide +kernel, rfl⟩
theorem dX9_passesAll_128 : jm_d cX9_passesAll 128 (.invokevirtual 273) 3 131 := ⟨by decide +kernel, rfl⟩
theorem dX9_passesAll_131 : jm_d cX9_passesAll 131 (.putfield 106) 3 134 := ⟨by decide +kernel, rfl⟩
theorem dX9_passesAll_134 : jm_d cX9_passesAll 134 (.aload_n 0) 1 135 := ⟨by decide +kernel, rfl⟩
theorem dX9_passesAll_135 : jm_d cX9_passesAll 135 (.aload_n 0) 1 136 := ⟨by decide +kernel, rfl⟩
theorem dX9_passesAll_136 : jm_d cX9_passesAll 136 (.aload_n 0) 1 137 := ⟨by decide +kernel, rfl⟩
theorem dX9_passesAll_137 : jm_d cX9_passesAll 137 (.getfield 116) 3 140 := ⟨by decide +kernel, rfl⟩
theorem dX9_passesAll_140 : jm_d cX9_passesAll 140 (.invokevirtual 273) 3 143 := ⟨by decide +kernel, rfl⟩
theorem dX9_passesAll_143 : jm_d cX9_passesAll 143 (.putfield 116) 3 146 := ⟨by decide +kernel, rfl⟩
theorem dX9_passesAll_146 : jm_d cX9_passesAll 146 (.aload_n 0) 1 147 := ⟨by decide +kernel, rfl⟩
theorem dX9_passesAll_147 : jm_d cX9_passesAll 147 (.aload_n 0) 1 148 := ⟨by decide +kernel, rfl⟩
theorem dX9_passesAll_148 : jm_d cX9_passesAll 148 (.aload_n 0) 1 149 := ⟨by decide +kernel, rfl⟩
theorem dX9_passesAll_149 : jm_d cX9_passesAll 149 (.getfield 122) 3 152 := ⟨by decide +kernel, rfl⟩
theorem dX9_passesAll_152 : jm_d cX9_passesAll 152 (.invokevirtual 273) 3 155 := ⟨by decide +kernel, rfl⟩
theorem dX9_passesAll_155 : jm_d cX9_passesAll 155 (.putfield 122) 3 158 := ⟨by decide +kernel, rfl⟩
theorem dX9_passesAll_158 : jm_d cX9_passesAll 158 (.return_) 1 159 := ⟨by decide +kernel, rfl⟩
set_option maxHeartbeats 4000000 in
set_option maxRecDepth 100000 in
theorem kM_passesAll (E : jm_Ev) (hE : jm_dj E jm_LM) {M : jm_M} {p1 : Int32} {p2 : Int32}  {r : jm_M} (h : sM_passesAll M p1 p2 = some r) : jm_Ct E jm_LM yX9_passesAll cX9_passesAll 3 none 1 22 [.ref (jm_a E 0 0), .int p1, .int p2] M none r := by
  refine jm_enter (lv := [some (.ref (jm_a E 0 0)), some (.int p1), some (.int p2)]) hE (by decide) (Nat.le_of_ble_eq_true rfl) rfl ?_
  intro z w F hz
  have G : jm_G w 0 [some (.ref (jm_a E 0 0)), some (.int p1), some (.int p2)] [] M (sM_passesAll M p1 p2) (fun e => z none e) := by
    unfold sM_passesAll
    refine jm_aload_n (i := 0) F dX9_passesAll_0 rfl rfl ?_
    refine jm_sipush F dX9_passesAll_1 ks_135 ?_
    refine jm_iload_n (i := 1) F dX9_passesAll_4 rfl rfl ?_
    refine jm_imul F dX9_passesAll_5 ?_
    refine jm_putI F dX9_passesAll_6 fp_X9_266 lo_X9 rfl (fun M1 => ?_)
    refine jm_aload_n (i := 0) F dX9_passesAll_9 rfl rfl ?_
    refine jm_iload_n (i := 2) F dX9_passesAll_10 rfl rfl ?_
    refine jm_putZ F dX9_passesAll_11 fp_X9_263 lo_X9 rfl (fun M2 => ?_)
    refine jm_aload_n (i := 0) F dX9_passesAll_14 rfl rfl ?_
    refine jm_aload_n (i := 0) F dX9_passesAll_15 rfl rfl ?_
    refine jm_getR F dX9_passesAll_16 fl_X9_13 lo_X9 rfl ?_
    refine jm_callV (As := [.ref (jm_a E 0 2)]) (st := []) (rv := fun _ => none) (mm := fun r => r) F dX9_passesAll_19 qX9_269 rfl lo_X9 rfl (fun r h => kM_passes E hE h) rfl (Nat.le_of_ble_eq_true rfl) ⟨Nat.le_of_ble_eq_true rfl, Nat.le_of_ble_eq_true rfl⟩ (fun r3 => ?_)
    refine jm_aload_n (i := 0) F dX9_passesAll_22 rfl rfl ?_
    refine jm_aload_n (i := 0) F dX9_passesAll_23 rfl rfl ?_
    refine jm_getR F dX9_passesAll_24 fl_X9_16 lo_X9 rfl ?_
    refine jm_callV (As := [.ref (jm_a E 0 3)]) (st := []) (rv := fun _ => none) (mm := fun r => r) F dX9_passesAll_27 qX9_269 rfl lo_X9 rfl (fun r h => kM_passes E hE h) rfl (Nat.le_of_ble_eq_true rfl) ⟨Nat.le_of_ble_eq_true rfl, Nat.le_of_ble_eq_true rfl⟩ (fun r4 => ?_)
    refine jm_aload_n (i := 0) F dX9_passesAll_30 rfl rfl ?_
    refine jm_aload_n (i := 0) F dX9_passesAll_31 rfl rfl ?_
    refine jm_getR F dX9_passesAll_32 fl_X9_19 lo_X9 rfl ?_
    refine jm_callV (As := [.ref (jm_a E 0 4)]) (st := []) (rv := fun _ => none) (mm := fun r => r) F dX9_passesAll_35 qX9_269 rfl lo_X9 rfl (fun r h => kM_passes E hE h) rfl (Nat.le_of_ble_eq_true rfl) ⟨Nat.le_of_ble_eq_true rfl, Nat.le_of_ble_eq_true rfl⟩ (fun r5 => ?_)
    refine jm_aload_n (i := 0) F dX9_passesAll_38 rfl rfl ?_
    refine jm_aload_n (i := 0) F dX9_passesAll_39 rfl rfl ?_
    refine jm_getR F dX9_passesAll_40 fl_X9_22 lo_X9 rfl ?_
    refine jm_callV (As := [.ref (jm_a E 0 5)]) (st := []) (rv := fun _ => none) (mm := fun r => r) F dX9_passesAll_43 qX9_269 rfl lo_X9 rfl (fun r h => kM_passes E hE h) rfl (Nat.le_of_ble_eq_true rfl) ⟨Nat.le_of_ble_eq_true rfl, Nat.le_of_ble_eq_true rfl⟩ (fun r6 => ?_)
    refine jm_aload_n (i := 0) F dX9_passesAll_46 rfl rfl ?_
    refine jm_aload_n (i := 0) F dX9_passesAll_47 rfl rfl ?_
    refine jm_getR F dX9_passesAll_48 fl_X9_25 lo_X9 rfl ?_
    refine jm_callV (As := [.ref (jm_a E 0 6)]) (st := []) (rv := fun _ => none) (mm := fun r => r) F dX9_passesAll_51 qX9_269 rfl lo_X9 rfl (fun r h => kM_passes E hE h) rfl (Nat.le_of_ble_eq_true rfl) ⟨Nat.le_of_ble_eq_true rfl, Nat.le_of_ble_eq_true rfl⟩ (fun r7 => ?_)
    refine jm_aload_n (i := 0) F dX9_passesAll_54 rfl rfl ?_
    refine jm_aload_n (i := 0) F dX9_passesAll_55 rfl rfl ?_
    refine jm_getR F dX9_passesAll_56 fl_X9_28 lo_X9 rfl ?_
    refine jm_callV (As := [.ref (jm_a E 0 7)]) (st := []) (rv := fun _ => none) (mm := fun r => r) F dX9_passesAll_59 qX9_269 rfl lo_X9 rfl (fun r h => kM_passes E hE h) rfl (Nat.le_of_ble_eq_true rfl) ⟨Nat.le_of_ble_eq_true rfl, Nat.le_of_ble_eq_true rfl⟩ (fun r8 => ?_)
    refine jm_aload_n (i := 0) F dX9_passesAll_62 rfl rfl ?_
    refine jm_aload_n (i := 0) F dX9_passesAll_63 rfl rfl ?_
    refine jm_getR F dX9_passesAll_64 fl_X9_31 lo_X9 rfl ?_
    refine jm_callV (As := [.ref (jm_a E 0 8)]) (st := []) (rv := fun _ => none) (mm := fun r => r) F dX9_passesAll_67 qX9_269 rfl lo_X9 rfl (fun r h => kM_passes E hE h) rfl (Nat.le_of_ble_eq_true rfl) ⟨Nat.le_of_ble_eq_true rfl, Nat.le_of_ble_eq_true rfl⟩ (fun r9 => ?_)
    refine jm_aload_n (i := 0) F dX9_passesAll_70 rfl rfl ?_
    refine jm_aload_n (i := 0) F dX9_passesAll_71 rfl rfl ?_
    refine jm_getR F dX9_passesAll_72 fl_X9_34 lo_X9 rfl ?_
    refine jm_callV (As := [.ref (jm_a E 0 9)]) (st := []) (rv := fun _ => none) (mm := fun r => r) F dX9_passesAll_75 qX9_269 rfl lo_X9 rfl (fun r h => kM_passes E hE h) rfl (Nat.le_of_ble_eq_true rfl) ⟨Nat.le_of_ble_eq_true rfl, Nat.le_of_ble_eq_true rfl⟩ (fun r10 => ?_)
    refine jm_aload_n (i := 0) F dX9_passesAll_78 rfl rfl ?_
    refine jm_aload_n (i := 0) F dX9_passesAll_79 rfl rfl ?_
    refine jm_getR F dX9_passesAll_80 fl_X9_37 lo_X9 rfl ?_
    refine jm_callV (As := [.ref (jm_a E 0 10)]) (st := []) (rv := fun _ => none) (mm := fun r => r) F dX9_passesAll_83 qX9_269 rfl lo_X9 rfl (fun r h => kM_passes E hE h) rfl (Nat.le_of_ble_eq_true rfl) ⟨Nat.le_of_ble_eq_true rfl, Nat.le_of_ble_eq_true rfl⟩ (fun r11 => ?_)
    refine jm_aload_n (i := 0) F dX9_passesAll_86 rfl rfl ?_
    refine jm_aload_n (i := 0) F dX9_passesAll_87 rfl rfl ?_
    refine jm_getR F dX9_passesAll_88 fl_X9_40 lo_X9 rfl ?_
    refine jm_callV (As := [.ref (jm_a E 0 11)]) (st := []) (rv := fun _ => none) (mm := fun r => r) F dX9_passesAll_91 qX9_269 rfl lo_X9 rfl (fun r h => kM_passes E hE h) rfl (Nat.le_of_ble_eq_true rfl) ⟨Nat.le_of_ble_eq_true rfl, Nat.le_of_ble_eq_true rfl⟩ (fun r12 => ?_)
    refine jm_aload_n (i := 0) F dX9_passesAll_94 rfl rfl ?_
    refine jm_aload_n (i := 0) F dX9_passesAll_95 rfl rfl ?_
    refine jm_getR F dX9_passesAll_96 fl_X9_43 lo_X9 rfl ?_
    refine jm_callV (As := [.ref (jm_a E 0 12)]) (st := []) (rv := fun _ => none) (mm := fun r => r) F dX9_passesAll_99 qX9_269 rfl lo_X9 rfl (fun r h => kM_passes E hE h) rfl (Nat.le_of_ble_eq_true rfl) ⟨Nat.le_of_ble_eq_true rfl, Nat.le_of_ble_eq_true rfl⟩ (fun r13 => ?_)
    refine jm_aload_n (i := 0) F dX9_passesAll_102 rfl rfl ?_
    refine jm_aload_n (i := 0) F dX9_passesAll_103 rfl rfl ?_
    refine jm_getR F dX9_passesAll_104 fl_X9_46 lo_X9 rfl ?_
    refine jm_callV (As := [.ref (jm_a E 0 13)]) (st := []) (rv := fun _ => none) (mm := fun r => r) F dX9_passesAll_107 qX9_269 rfl lo_X9 rfl (fun r h => kM_passes E hE h) rfl (Nat.le_of_ble_eq_true rfl) ⟨Nat.le_of_ble_eq_true rfl, Nat.le_of_ble_eq_true rfl⟩ (fun r14 => ?_)
    refine jm_aload_n (i := 0) F dX9_passesAll_110 rfl rfl ?_
    refine jm_aload_n (i := 0) F dX9_passesAll_111 rfl rfl ?_
    refine jm_aload_n (i := 0) F dX9_passesAll_112 rfl rfl ?_
    refine jm_getI F dX9_passesAll_113 fl_X9_91 lo_X9 rfl ?_
    refine jm_callV (As := [.int (r14 0 0 13)]) (st := [.ref (jm_a E 0 0)]) (rv := fun r => some (.int r.1)) (mm := fun r => r.2) F dX9_passesAll_116 qX9_273 rfl lo_X9 rfl (fun r h => kM_passOne E hE h) rfl (Nat.le_of_ble_eq_true rfl) ⟨Nat.le_of_ble_eq_true rfl, Nat.le_of_ble_eq_true rfl⟩ (fun r15 => ?_)
    refine jm_putI F dX9_passesAll_119 fp_X9_91 lo_X9 rfl (fun M16 => ?_)
    refine jm_aload_n (i := 0) F dX9_passesAll_122 rfl rfl ?_
    refine jm_aload_n (i := 0) F dX9_passesAll_123 rfl rfl ?_
    refine jm_aload_n (i := 0) F dX9_passesAll_124 rfl rfl ?_
    refine jm_getI F dX9_passesAll_125 fl_X9_106 lo_X9 rfl ?_
    refine jm_callV (As := [.int (M16 0 0 14)]) (st := [.ref (jm_a E 0 0)]) (rv := fun r => some (.int r.1)) (mm := fun r => r.2) F dX9_passesAll_128 qX9_273 rfl lo_X9 rfl (fun r h => kM_passOne E hE h) rfl (Nat.le_of_ble_eq_true rfl) ⟨Nat.le_of_ble_eq_true rfl, Nat.le_of_ble_eq_true rfl⟩ (fun r17 => ?_)
    refine jm_putI F dX9_passesAll_131 fp_X9_106 lo_X9 rfl (fun M18 => ?_)
    refine jm_aload_n (i := 0) F dX9_passesAll_134 rfl rfl ?_
    refine jm_aload_n (i := 0) F dX9_passesAll_135 rfl rfl ?_
    refine jm_aload_n (i := 0) F dX9_passesAll_136 rfl rfl ?_
    refine jm_getI F dX9_passesAll_137 fl_X9_116 lo_X9 rfl ?_
    refine jm_callV (As := [.int (M18 0 0 15)]) (st := [.ref (jm_a E 0 0)]) (rv := fun r => some (.int r.1)) (mm := fun r => r.2) F dX9_passesAll_140 qX9_273 rfl lo_X9 rfl (fun r h => kM_passOne E hE h) rfl (Nat.le_of_ble_eq_true rfl) ⟨Nat.le_of_ble_eq_true rfl, Nat.le_of_ble_eq_true rfl⟩ (fun r19 => ?_)
    refine jm_putI F dX9_passesAll_143 fp_X9_116 lo_X9 rfl (fun M20 => ?_)
    refine jm_aload_n (i := 0) F dX9_passesAll_146 rfl rfl ?_
    refine jm_aload_n (i := 0) F dX9_passesAll_147 rfl rfl ?_
    refine jm_aload_n (i := 0) F dX9_passesAll_148 rfl rfl ?_
    refine jm_getI F dX9_passesAll_149 fl_X9_122 lo_X9 rfl ?_
    refine jm_callV (As := [.int (M20 0 0 16)]) (st := [.ref (jm_a E 0 0)]) (rv := fun r => some (.int r.1)) (mm := fun r => r.2) F dX9_passesAll_152 qX9_273 rfl lo_X9 rfl (fun r h => kM_passOne E hE h) rfl (Nat.le_of_ble_eq_true rfl) ⟨Nat.le_of_ble_eq_true rfl, Nat.le_of_ble_eq_true rfl⟩ (fun r21 => ?_)
    refine jm_putI F dX9_passesAll_155 fp_X9_122 lo_X9 rfl (fun M22 => ?_)
    exact jm_vret F dX9_passesAll_158 (fun h => h)
  exact G r h hz
theorem dX9_town_0 : jm_d cX9_town 0 (.aload_n 0) 1 1 := ⟨by decide +kernel, rfl⟩
theorem dX9_town_1 : jm_d cX9_town 1 (.iconst 0) 1 2 := ⟨by decide +kernel, rfl⟩
theorem dX9_town_2 : jm_d cX9_town 2 (.putfield 175) 3 5 := ⟨by decide +kernel, rfl⟩
theorem dX9_town_5 : jm_d cX9_town 5 (.aload_n 0) 1 6 := ⟨by decide +kernel, rfl⟩
theorem dX9_town_6 : jm_d cX9_town 6 (.iconst 0) 1 7 := ⟨by decide +kernel, rfl⟩
theorem dX9_town_7 : jm_d cX9_town 7 (.putfield 188) 3 10 := ⟨by decide +kernel, rfl⟩
theorem dX9_town_10 : jm_d cX9_town 10 (.aload_n 0) 1 11 := ⟨by decide +kernel, rfl⟩
theorem dX9_town_11 : jm_d cX9_town 11 (.iconst 0) 1 12 := ⟨by decide +kernel, rfl⟩
theorem dX9_town_12 : jm_d cX9_town 12 (.putfield 191) 3 15 := ⟨by decide +kernel, rfl⟩
theorem dX9_town_15 : jm_d cX9_town 15 (.iconst 1) 1 16 := ⟨by decide +kernel, rfl⟩
theorem dX9_town_16 : jm_d cX9_town 16 (.istore_n 1) 1 17 := ⟨by decide +kernel, rfl⟩
theorem dX9_town_17 : jm_d cX9_town 17 (.iload_n 1) 1 18 := ⟨by decide +kernel, rfl⟩
theorem dX9_town_18 : jm_b cX9_town 18 (.ifCond .eq) 21 65 := ⟨47, by decide +kernel, rfl, by decide⟩
theorem dX9_town_21 : jm_d cX9_town 21 (.aload_n 0) 1 22 := ⟨by decide +kernel, rfl⟩
theorem dX9_town_22 : jm_d cX9_town 22 (.getfield 175) 3 25 := ⟨by decide +kernel, rfl⟩
theorem dX9_town_25 : jm_d cX9_town 25 (.aload_n 0) 1 26 := ⟨by decide +kernel, rfl⟩
theorem dX9_town_26 : jm_d cX9_town 26 (.getfield 169) 3 29 := ⟨by decide +kernel, rfl⟩
theorem dX9_town_29 : jm_b cX9_town 29 (.if_icmp .lt) 32 39 := ⟨10, by decide +kernel, rfl, by decide⟩
theorem dX9_town_39 : jm_d cX9_town 39 (.aload_n 0) 1 40 := ⟨by decide +kernel, rfl⟩
theorem dX9_town_40 : jm_d cX9_town 40 (.invokevirtual 250) 3 43 := ⟨by decide +kernel, rfl⟩
theorem dX9_town_43 : jm_d cX9_town 43 (.istore_n 1) 1 44 := ⟨by decide +kernel, rfl⟩
theorem dX9_town_44 : jm_d cX9_town 44 (.aload_n 0) 1 45 := ⟨by decide +kernel, rfl⟩
theorem dX9_town_45 : jm_d cX9_town 45 (.dup) 1 46 := ⟨by decide +kernel, rfl⟩
theorem dX9_town_46 : jm_d cX9_town 46 (.getfield 188) 3 49 := ⟨by decide +kernel, rfl⟩
theorem dX9_town_49 : jm_d cX9_town 49 (.iload_n 1) 1 50 := ⟨by decide +kernel, rfl⟩
theorem dX9_town_50 : jm_b cX9_town 50 (.ifCond .eq) 53 57 := ⟨7, by decide +kernel, rfl, by decide⟩
theorem dX9_town_57 : jm_d cX9_town 57 (.iconst 0) 1 58 := ⟨by decide +kernel, rfl⟩
theorem dX9_town_53 : jm_d cX9_town 53 (.iconst 1) 1 54 := ⟨by decide +kernel, rfl⟩
theorem dX9_town_54 : jm_b cX9_town 54 .goto 57 58 := ⟨4, by decide +kernel, rfl, by decide⟩
theorem dX9_town_58 : jm_d cX9_town 58 (.iadd) 1 59 := ⟨by decide +kernel, rfl⟩
theorem dX9_town_59 : jm_d cX9_town 59 (.putfield 188) 3 62 := ⟨by decide +kernel, rfl⟩
theorem dX9_town_62 : jm_b cX9_town 62 .goto 65 17 := ⟨(-45), by decide +kernel, rfl, by decide⟩
theorem dX9_town_32 : jm_d cX9_town 32 (.aload_n 0) 1 33 := ⟨by decide +kernel, rfl⟩
theorem dX9_town_33 : jm_d cX9_town 33 (.getfield 188) 3 36 := ⟨by decide +kernel, rfl⟩
theorem dX9_town_36 : jm_b cX9_town 36 (.ifCond .ne) 39 65 := ⟨29, by decide +kernel, rfl, by decide⟩
theorem dX9_town_65 : jm_d cX9_town 65 (.aload_n 0) 1 66 := ⟨by decide +kernel, rfl⟩
theorem dX9_town_66 : jm_d cX9_town 66 (.iconst 0) 1 67 := ⟨by decide +kernel, rfl⟩
theorem dX9_town_67 : jm_d cX9_town 67 (.putfield 169) 3 70 := ⟨by decide +kernel, rfl⟩
theorem dX9_town_70 : jm_d cX9_town 70 (.iload_n 1) 1 71 := ⟨by decide +kernel, rfl⟩
theorem dX9_town_71 : jm_b cX9_town 71 (.ifCond .ne) 74 83 := ⟨12, by decide +kernel, rfl, by decide⟩
theorem dX9_town_74 : jm_d cX9_town 74 (.sipush (-1000)) 3 77 := ⟨by decide +kernel, rfl⟩
theorem dX9_town_77 : jm_d cX9_town 77 (.aload_n 0) 1 78 := ⟨by decide +kernel, rfl⟩
theorem dX9_town_78 : jm_d cX9_town 78 (.getfield 175) 3 81 := ⟨by decide +kernel, rfl⟩
theorem dX9_town_81 : jm_d cX9_town 81 (.isub) 1 82 := ⟨by decide +kernel, rfl⟩
theorem dX9_town_82 : jm_d cX9_town 82 (.ireturn) 1 83 := ⟨by decide +kernel, rfl⟩
theorem dX9_town_83 : jm_d cX9_town 83 (.aload_n 0) 1 84 := ⟨by decide +kernel, rfl⟩
theorem dX9_town_84 : jm_d cX9_town 84 (.iconst 1) 1 85 := ⟨by decide +kernel, rfl⟩
theorem dX9_town_85 : jm_d cX9_town 85 (.iconst 1) 1 86 := ⟨by decide +kernel, rfl⟩
theorem dX9_town_86 : jm_d cX9_town 86 (.invokevirtual 253) 3 89 := ⟨by decide +kernel, rfl⟩
theorem dX9_town_89 : jm_d cX9_town 89 (.iconst 0) 1 90 := ⟨by decide +kernel, rfl⟩
theorem dX9_town_90 : jm_d cX9_town 90 (.istore_n 2) 1 91 := ⟨by decide +kernel, rfl⟩
theorem dX9_town_91 : jm_d cX9_town 91 (.iload_n 2) 1 92 := ⟨by decide +kernel, rfl⟩
theorem dX9_town_92 : jm_d cX9_town 92 (.aload_n 0) 1 93 := ⟨by decide +kernel, rfl⟩
theorem dX9_town_93 : jm_d cX9_town 93 (.getfield 188) 3 96 := ⟨by decide +kernel, rfl⟩
theorem dX9_town_96 : jm_b cX9_town 96 (.if_icmp .ge) 99 133 := ⟨37, by decide +kernel, rfl, by decide⟩
theorem dX9_town_99 : jm_d cX9_town 99 (.aload_n 0) 1 100 := ⟨by decide +kernel, rfl⟩
theorem dX9_town_100 : jm_d cX9_town 100 (.iload_n 2) 1 101 := ⟨by decide +kernel, rfl⟩
theorem dX9_town_101 : jm_d cX9_town 101 (.invokevirtual 257) 3 104 := ⟨by decide +kernel, rfl⟩
theorem dX9_town_104 : jm_b cX9_town 104 (.ifCond .eq) 107 110 := ⟨6, by decide +kernel, rfl, by decide⟩
theorem dX9_town_110 : jm_d cX9_town 110 (.aload_n 0) 1 111 := ⟨by decide +kernel, rfl⟩
theorem dX9_town_111 : jm_d cX9_town 111 (.iconst 1) 1 112 := ⟨by decide +kernel, rfl⟩
theorem dX9_town_112 : jm_d cX9_town 112 (.iconst 0) 1 113 := ⟨by decide +kernel, rfl⟩
theorem dX9_town_113 : jm_d cX9_town 113 (.invokevirtual 253) 3 116 := ⟨by decide +kernel, rfl⟩
theorem dX9_town_116 : jm_d cX9_town 116 (.sipush (-2000)) 3 119 := ⟨by decide +kernel, rfl⟩
theorem dX9_town_119 : jm_d cX9_town 119 (.aload_n 0) 1 120 := ⟨by decide +kernel, rfl⟩
theorem dX9_town_120 : jm_d cX9_town 120 (.getfield 55) 3 123 := ⟨by decide +kernel, rfl⟩
theorem dX9_town_123 : jm_d cX9_town 123 (.iload_n 2) 1 124 := ⟨by decide +kernel, rfl⟩
theorem dX9_town_124 : jm_d cX9_town 124 (.iaload) 1 125 := ⟨by decide +kernel, rfl⟩
theorem dX9_town_125 : jm_d cX9_town 125 (.isub) 1 126 := ⟨by decide +kernel, rfl⟩
theorem dX9_town_126 : jm_d cX9_town 126 (.ireturn) 1 127 := ⟨by decide +kernel, rfl⟩
theorem dX9_town_107 : jm_b cX9_town 107 .goto 110 127 := ⟨20, by decide +kernel, rfl, by decide⟩
theorem dX9_town_127 : jm_d cX9_town 127 (.iinc 2 1) 3 130 := ⟨by decide +kernel, rfl⟩
theorem dX9_town_130 : jm_b cX9_town 130 .goto 133 91 := ⟨(-39), by decide +kernel, rfl, by decide⟩
theorem dX9_town_133 : jm_d cX9_town 133 (.aload_n 0) 1 134 := ⟨by decide +kernel, rfl⟩
theorem dX9_town_134 : jm_d cX9_town 134 (.iconst 0) 1 135 := ⟨by decide +kernel, rfl⟩
theorem dX9_town_135 : jm_d cX9_town 135 (.putfield 260) 3 138 := ⟨by decide +kernel, rfl⟩
theorem dX9_town_138 : jm_d cX9_town 138 (.aload_n 0) 1 139 := ⟨by decide +kernel, rfl⟩
theorem dX9_town_139 : jm_d cX9_town 139 (.getfield 188) 3 142 := ⟨by decide +kernel, rfl⟩
theorem dX9_town_142 : jm_d cX9_town 142 (.ireturn) 1 143 := ⟨by decide +kernel, rfl⟩
set_option maxHeartbeats 4000000 in
set_option maxRecDepth 100000 in
theorem kM_town (E : jm_Ev) (hE : jm_dj E jm_LM) {M : jm_M}  {r : Int32 × jm_M} (h : sM_town M = some r) : jm_Ct E jm_LM yX9_town cX9_town 3 (some .int) 7 156 [.ref (jm_a E 0 0)] M (some (.int r.1)) r.2 := by
  refine jm_enter (lv := [some (.ref (jm_a E 0 0)), none, none]) hE (by decide) (Nat.le_of_ble_eq_true rfl) rfl ?_
  intro z w F hz
  have G : jm_G w 0 [some (.ref (jm_a E 0 0)), none, none] [] M (sM_town M) (fun e => z (some (.int e.1)) e.2) := by
    unfold sM_town
    refine jm_aload_n (i := 0) F dX9_town_0 rfl rfl ?_
    refine jm_iconst F dX9_town_1 kc_0 ?_
    refine jm_putI F dX9_town_2 fp_X9_175 lo_X9 rfl (fun M1 => ?_)
    refine jm_aload_n (i := 0) F dX9_town_5 rfl rfl ?_
    refine jm_iconst F dX9_town_6 kc_0 ?_
    refine jm_putI F dX9_town_7 fp_X9_188 lo_X9 rfl (fun M2 => ?_)
    refine jm_aload_n (i := 0) F dX9_town_10 rfl rfl ?_
    refine jm_iconst F dX9_town_11 kc_0 ?_
    refine jm_putI F dX9_town_12 fp_X9_191 lo_X9 rfl (fun M3 => ?_)
    refine jm_iconst F dX9_town_15 kc_1 ?_
    refine jm_istore_n (i := 1) (lv' := [some (.ref (jm_a E 0 0)), some (.int 1), none]) F dX9_town_16 rfl (by decide) rfl rfl ?_
    refine jm_bind (pcJ := 65) (lvJ := fun e16 => [some (.ref (jm_a E 0 0)), some (.int e16.1), none]) (stJ := fun _ => []) (MJ := fun e16 => e16.2) ?_ (fun e16 => ?_)
    · refine jm_weak F (lv' := [some (.ref (jm_a E 0 0)), some (.int 1), none]) ⟨rfl, rfl, trivial⟩ ?_
      refine jm_loopR (lvH := fun s4 => [some (.ref (jm_a E 0 0)), some (.int s4.1), none]) (MH := fun s4 => s4.2) (fun s4 => ?_) jm_N (1, M3)
      unfold sM_town_L17
      refine jm_iload_n (i := 1) F dX9_town_17 rfl rfl ?_
      refine jm_if_eq F dX9_town_18 (fun c5 => ?_) (fun c5 => ?_)
      · exact jm_weakD F (lv' := [some (.ref (jm_a E 0 0)), some (.int s4.1), none]) ⟨rfl, rfl, trivial⟩ (fun h => h)
      · refine jm_aload_n (i := 0) F dX9_town_21 rfl rfl ?_
        refine jm_getI F dX9_town_22 fl_X9_175 lo_X9 rfl ?_
        refine jm_aload_n (i := 0) F dX9_town_25 rfl rfl ?_
        refine jm_getI F dX9_town_26 fl_X9_169 lo_X9 rfl ?_
        refine jm_icmp_lt F dX9_town_29 (fun c6 => ?_) (fun c6 => ?_)
        · refine jm_aload_n (i := 0) F dX9_town_39 rfl rfl ?_
          refine jm_callV (As := []) (st := []) (rv := fun r => some (.int r.1)) (mm := fun r => r.2) F dX9_town_40 qX9_250 rfl lo_X9 rfl (fun r h => kM_statement E hE h) rfl (Nat.le_of_ble_eq_true rfl) ⟨Nat.le_of_ble_eq_true rfl, Nat.le_of_ble_eq_true rfl⟩ (fun r7 => ?_)
          refine jm_istore_n (i := 1) (lv' := [some (.ref (jm_a E 0 0)), some (.int r7.1), none]) F dX9_town_43 rfl (by decide) rfl rfl ?_
          refine jm_aload_n (i := 0) F dX9_town_44 rfl rfl ?_
          refine jm_dup F dX9_town_45 rfl ?_
          refine jm_getI F dX9_town_46 fl_X9_188 lo_X9 rfl ?_
          refine jm_iload_n (i := 1) F dX9_town_49 rfl rfl ?_
          refine jm_bind (pcJ := 58) (lvJ := fun e8 => [some (.ref (jm_a E 0 0)), some (.int r7.1), none]) (stJ := fun e8 => [.int e8, .int (r7.2 0 0 28), .ref (jm_a E 0 0)]) (MJ := fun e8 => r7.2) ?_ (fun e8 => ?_)
          · refine jm_if_eq F dX9_town_50 (fun c9 => ?_) (fun c9 => ?_)
            · refine jm_iconst F dX9_town_57 kc_0 ?_
              exact jm_weakD F (lv' := [some (.ref (jm_a E 0 0)), some (.int r7.1), none]) ⟨rfl, rfl, trivial⟩ (fun h => h)
            · refine jm_iconst F dX9_town_53 kc_1 ?_
              refine jm_goto F dX9_town_54 ?_
              exact jm_weakD F (lv' := [some (.ref (jm_a E 0 0)), some (.int r7.1), none]) ⟨rfl, rfl, trivial⟩ (fun h => h)
          · refine jm_iadd F dX9_town_58 ?_
            refine jm_putI F dX9_town_59 fp_X9_188 lo_X9 rfl (fun M10 => ?_)
            refine jm_goto F dX9_town_62 ?_
            exact jm_weakD F (lv' := [some (.ref (jm_a E 0 0)), some (.int r7.1), none]) ⟨rfl, rfl, trivial⟩ (fun h => h)
        · refine jm_aload_n (i := 0) F dX9_town_32 rfl rfl ?_
          refine jm_getI F dX9_town_33 fl_X9_188 lo_X9 rfl ?_
          refine jm_if_ne F dX9_town_36 (fun c11 => ?_) (fun c11 => ?_)
          · refine jm_aload_n (i := 0) F dX9_town_39 rfl rfl ?_
            refine jm_callV (As := []) (st := []) (rv := fun r => some (.int r.1)) (mm := fun r => r.2) F dX9_town_40 qX9_250 rfl lo_X9 rfl (fun r h => kM_statement E hE h) rfl (Nat.le_of_ble_eq_true rfl) ⟨Nat.le_of_ble_eq_true rfl, Nat.le_of_ble_eq_true rfl⟩ (fun r12 => ?_)
            refine jm_istore_n (i := 1) (lv' := [some (.ref (jm_a E 0 0)), some (.int r12.1), none]) F dX9_town_43 rfl (by decide) rfl rfl ?_
            refine jm_aload_n (i := 0) F dX9_town_44 rfl rfl ?_
            refine jm_dup F dX9_town_45 rfl ?_
            refine jm_getI F dX9_town_46 fl_X9_188 lo_X9 rfl ?_
            refine jm_iload_n (i := 1) F dX9_town_49 rfl rfl ?_
            refine jm_bind (pcJ := 58) (lvJ := fun e13 => [some (.ref (jm_a E 0 0)), some (.int r12.1), none]) (stJ := fun e13 => [.int e13, .int (r12.2 0 0 28), .ref (jm_a E 0 0)]) (MJ := fun e13 => r12.2) ?_ (fun e13 => ?_)
            · refine jm_if_eq F dX9_town_50 (fun c14 => ?_) (fun c14 => ?_)
              · refine jm_iconst F dX9_town_57 kc_0 ?_
                exact jm_weakD F (lv' := [some (.ref (jm_a E 0 0)), some (.int r12.1), none]) ⟨rfl, rfl, trivial⟩ (fun h => h)
              · refine jm_iconst F dX9_town_53 kc_1 ?_
                refine jm_goto F dX9_town_54 ?_
                exact jm_weakD F (lv' := [some (.ref (jm_a E 0 0)), some (.int r12.1), none]) ⟨rfl, rfl, trivial⟩ (fun h => h)
            · refine jm_iadd F dX9_town_58 ?_
              refine jm_putI F dX9_town_59 fp_X9_188 lo_X9 rfl (fun M15 => ?_)
              refine jm_goto F dX9_town_62 ?_
              exact jm_weakD F (lv' := [some (.ref (jm_a E 0 0)), some (.int r12.1), none]) ⟨rfl, rfl, trivial⟩ (fun h => h)
          · exact jm_weakD F (lv' := [some (.ref (jm_a E 0 0)), some (.int s4.1), none]) ⟨rfl, rfl, trivial⟩ (fun h => h)
    · refine jm_aload_n (i := 0) F dX9_town_65 rfl rfl ?_
      refine jm_iconst F dX9_town_66 kc_0 ?_
      refine jm_putI F dX9_town_67 fp_X9_169 lo_X9 rfl (fun M17 => ?_)
      refine jm_iload_n (i := 1) F dX9_town_70 rfl rfl ?_
      refine jm_if_ne F dX9_town_71 (fun c18 => ?_) (fun c18 => ?_)
      · refine jm_sipush F dX9_town_74 ks_m1000 ?_
        refine jm_aload_n (i := 0) F dX9_town_77 rfl rfl ?_
        refine jm_getI F dX9_town_78 fl_X9_175 lo_X9 rfl ?_
        refine jm_isub F dX9_town_81 ?_
        exact jm_iret F dX9_town_82 (fun h => h)
      · refine jm_aload_n (i := 0) F dX9_town_83 rfl rfl ?_
        refine jm_iconst F dX9_town_84 kc_1 ?_
        refine jm_iconst F dX9_town_85 kc_1 ?_
        refine jm_callV (As := [.int 1, .int 1]) (st := []) (rv := fun _ => none) (mm := fun r => r) F dX9_town_86 qX9_253 rfl lo_X9 rfl (fun r h => kM_passesAll E hE h) rfl (Nat.le_of_ble_eq_true rfl) ⟨Nat.le_of_ble_eq_true rfl, Nat.le_of_ble_eq_true rfl⟩ (fun r19 => ?_)
        refine jm_iconst F dX9_town_89 kc_0 ?_
        refine jm_istore_n (i := 2) (lv' := [some (.ref (jm_a E 0 0)), some (.int e16.1), some (.int 0)]) F dX9_town_90 rfl (by decide) rfl rfl ?_
        refine jm_bindS (pcJ := 133) (lvJ := fun e26 => [some (.ref (jm_a E 0 0)), none, none]) (stJ := fun _ => []) (MJ := fun e26 => e26) ?_ (fun e26 => ?_)
        · refine jm_weak F (lv' := [some (.ref (jm_a E 0 0)), none, some (.int 0)]) ⟨rfl, rfl, trivial⟩ ?_
          refine jm_loopR (lvH := fun s20 => [some (.ref (jm_a E 0 0)), none, some (.int s20.1)]) (MH := fun s20 => s20.2) (fun s20 => ?_) jm_N (0, r19)
          unfold sM_town_L91
          refine jm_iload_n (i := 2) F dX9_town_91 rfl rfl ?_
          refine jm_aload_n (i := 0) F dX9_town_92 rfl rfl ?_
          refine jm_getI F dX9_town_93 fl_X9_188 lo_X9 rfl ?_
          refine jm_icmp_ge F dX9_town_96 (fun c21 => ?_) (fun c21 => ?_)
          · exact jm_weakD F (lv' := [some (.ref (jm_a E 0 0)), none, none]) ⟨rfl, trivial⟩ (fun h => h)
          · refine jm_aload_n (i := 0) F dX9_town_99 rfl rfl ?_
            refine jm_iload_n (i := 2) F dX9_town_100 rfl rfl ?_
            refine jm_callV (As := [.int s20.1]) (st := []) (rv := fun r => some (.int r.1)) (mm := fun r => r.2) F dX9_town_101 qX9_257 rfl lo_X9 rfl (fun r h => kM_comesTold E hE h) rfl (Nat.le_of_ble_eq_true rfl) ⟨Nat.le_of_ble_eq_true rfl, Nat.le_of_ble_eq_true rfl⟩ (fun r22 => ?_)
            refine jm_if_eq F dX9_town_104 (fun c23 => ?_) (fun c23 => ?_)
            · refine jm_aload_n (i := 0) F dX9_town_110 rfl rfl ?_
              refine jm_iconst F dX9_town_111 kc_1 ?_
              refine jm_iconst F dX9_town_112 kc_0 ?_
              refine jm_callV (As := [.int 1, .int 0]) (st := []) (rv := fun _ => none) (mm := fun r => r) F dX9_town_113 qX9_253 rfl lo_X9 rfl (fun r h => kM_passesAll E hE h) rfl (Nat.le_of_ble_eq_true rfl) ⟨Nat.le_of_ble_eq_true rfl, Nat.le_of_ble_eq_true rfl⟩ (fun r24 => ?_)
              refine jm_sipush F dX9_town_116 ks_m2000 ?_
              refine jm_aload_n (i := 0) F dX9_town_119 rfl rfl ?_
              refine jm_getR F dX9_town_120 fl_X9_55 lo_X9 rfl ?_
              refine jm_iload_n (i := 2) F dX9_town_123 rfl rfl ?_
              refine jm_iald F dX9_town_124 la_X9_21 (fun v25 => ?_)
              refine jm_isub F dX9_town_125 ?_
              exact jm_iret F dX9_town_126 (fun h => h)
            · refine jm_goto F dX9_town_107 ?_
              refine jm_iinc (i := 2) (lv' := [some (.ref (jm_a E 0 0)), none, some (.int (s20.1 + 1))]) F dX9_town_127 kc_1 rfl (by decide) rfl rfl ?_
              refine jm_goto F dX9_town_130 ?_
              exact jm_weakD F (lv' := [some (.ref (jm_a E 0 0)), none, some (.int (s20.1 + 1))]) ⟨rfl, rfl, trivial⟩ (fun h => h)
        · refine jm_aload_n (i := 0) F dX9_town_133 rfl rfl ?_
          refine jm_iconst F dX9_town_134 kc_0 ?_
          refine jm_putI F dX9_town_135 fp_X9_260 lo_X9 rfl (fun M27 => ?_)
          refine jm_aload_n (i := 0) F dX9_town_138 rfl rfl ?_
          refine jm_getI F dX9_town_139 fl_X9_188 lo_X9 rfl ?_
          exact jm_iret F dX9_town_142 (fun h => h)
  exact G r h hz
