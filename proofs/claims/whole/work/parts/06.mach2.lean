theorem dX5_takeBody_0 : jm_d cX5_takeBody 0 (.iload_n 1) 1 1 := ⟨by decide +kernel, rfl⟩
theorem dX5_takeBody_1 : decode cX5_takeBody 1 = .ok (.lookupswitch 76 #[(98, 56), (104, 66), (108, 71), (112, 51), (114, 61)], 51) := by decide +kernel
theorem dX5_takeBody_57 : jm_d cX5_takeBody 57 (.aload_n 0) 1 58 := ⟨by decide +kernel, rfl⟩
theorem dX5_takeBody_58 : jm_d cX5_takeBody 58 (.invokevirtual 76) 3 61 := ⟨by decide +kernel, rfl⟩
theorem dX5_takeBody_61 : jm_d cX5_takeBody 61 (.ireturn) 1 62 := ⟨by decide +kernel, rfl⟩
theorem dX5_takeBody_67 : jm_d cX5_takeBody 67 (.aload_n 0) 1 68 := ⟨by decide +kernel, rfl⟩
theorem dX5_takeBody_68 : jm_d cX5_takeBody 68 (.invokevirtual 82) 3 71 := ⟨by decide +kernel, rfl⟩
theorem dX5_takeBody_71 : jm_d cX5_takeBody 71 (.ireturn) 1 72 := ⟨by decide +kernel, rfl⟩
theorem dX5_takeBody_72 : jm_d cX5_takeBody 72 (.aload_n 0) 1 73 := ⟨by decide +kernel, rfl⟩
theorem dX5_takeBody_73 : jm_d cX5_takeBody 73 (.invokevirtual 85) 3 76 := ⟨by decide +kernel, rfl⟩
theorem dX5_takeBody_76 : jm_d cX5_takeBody 76 (.ireturn) 1 77 := ⟨by decide +kernel, rfl⟩
theorem dX5_takeBody_52 : jm_d cX5_takeBody 52 (.aload_n 0) 1 53 := ⟨by decide +kernel, rfl⟩
theorem dX5_takeBody_53 : jm_d cX5_takeBody 53 (.invokevirtual 73) 3 56 := ⟨by decide +kernel, rfl⟩
theorem dX5_takeBody_56 : jm_d cX5_takeBody 56 (.ireturn) 1 57 := ⟨by decide +kernel, rfl⟩
theorem dX5_takeBody_62 : jm_d cX5_takeBody 62 (.aload_n 0) 1 63 := ⟨by decide +kernel, rfl⟩
theorem dX5_takeBody_63 : jm_d cX5_takeBody 63 (.invokevirtual 79) 3 66 := ⟨by decide +kernel, rfl⟩
theorem dX5_takeBody_66 : jm_d cX5_takeBody 66 (.ireturn) 1 67 := ⟨by decide +kernel, rfl⟩
theorem dX5_takeBody_77 : jm_d cX5_takeBody 77 (.aload_n 0) 1 78 := ⟨by decide +kernel, rfl⟩
theorem dX5_takeBody_78 : jm_d cX5_takeBody 78 (.invokevirtual 88) 3 81 := ⟨by decide +kernel, rfl⟩
theorem dX5_takeBody_81 : jm_d cX5_takeBody 81 (.ireturn) 1 82 := ⟨by decide +kernel, rfl⟩
set_option maxHeartbeats 4000000 in
set_option maxRecDepth 100000 in
theorem kS_takeBody (E : jm_Ev) (hE : jm_dj E jm_LC) {M : jm_M} {p1 : Int32}  {r : Int32 × jm_M} (h : sS_takeBody M p1 = some r) : jm_Ct E jm_LC yX5_takeBody cX5_takeBody 2 (some .boolean) 5 111 [.ref (jm_a E 14 0), .int p1] M (some (.int r.1)) r.2 := by
  refine jm_enter (lv := [some (.ref (jm_a E 14 0)), some (.int p1)]) hE (by decide) (Nat.le_of_ble_eq_true rfl) rfl ?_
  intro z w F hz
  have G : jm_G w 0 [some (.ref (jm_a E 14 0)), some (.int p1)] [] M (sS_takeBody M p1) (fun e => z (some (.int e.1)) e.2) := by
    unfold sS_takeBody
    refine jm_iload_n (i := 1) F dX5_takeBody_0 rfl rfl ?_
    refine jm_ite (fun c1 => ?_) (fun c1 => ?_)
    · refine jm_lsw (off := 56) (tgt := 57) F dX5_takeBody_1 (by decide) (by rw [c1]; decide) (by decide) ?_
      refine jm_aload_n (i := 0) F dX5_takeBody_57 rfl rfl ?_
      refine jm_callV (As := []) (st := []) (rv := fun r => some (.int r.1)) (mm := fun r => r.2) F dX5_takeBody_58 qX5_76 rfl lo_X5 rfl (fun r h => kS_takeBook E hE h) rfl (Nat.le_of_ble_eq_true rfl) ⟨Nat.le_of_ble_eq_true rfl, Nat.le_of_ble_eq_true rfl⟩ (fun r2 => ?_)
      refine jm_bzB (fun hb4 => ?_)
      exact jm_zret F dX5_takeBody_61 hb4 (fun h => h)
    · refine jm_ite (fun c5 => ?_) (fun c5 => ?_)
      · refine jm_lsw (off := 66) (tgt := 67) F dX5_takeBody_1 (by decide) (by rw [c5]; decide) (by decide) ?_
        refine jm_aload_n (i := 0) F dX5_takeBody_67 rfl rfl ?_
        refine jm_callV (As := []) (st := []) (rv := fun r => some (.int r.1)) (mm := fun r => r.2) F dX5_takeBody_68 qX5_82 rfl lo_X5 rfl (fun r h => kS_takeHolder E hE h) rfl (Nat.le_of_ble_eq_true rfl) ⟨Nat.le_of_ble_eq_true rfl, Nat.le_of_ble_eq_true rfl⟩ (fun r6 => ?_)
        refine jm_bzB (fun hb8 => ?_)
        exact jm_zret F dX5_takeBody_71 hb8 (fun h => h)
      · refine jm_ite (fun c9 => ?_) (fun c9 => ?_)
        · refine jm_lsw (off := 71) (tgt := 72) F dX5_takeBody_1 (by decide) (by rw [c9]; decide) (by decide) ?_
          refine jm_aload_n (i := 0) F dX5_takeBody_72 rfl rfl ?_
          refine jm_callV (As := []) (st := []) (rv := fun r => some (.int r.1)) (mm := fun r => r.2) F dX5_takeBody_73 qX5_85 rfl lo_X5 rfl (fun r h => kS_takeLaw E hE h) rfl (Nat.le_of_ble_eq_true rfl) ⟨Nat.le_of_ble_eq_true rfl, Nat.le_of_ble_eq_true rfl⟩ (fun r10 => ?_)
          refine jm_bzB (fun hb12 => ?_)
          exact jm_zret F dX5_takeBody_76 hb12 (fun h => h)
        · refine jm_ite (fun c13 => ?_) (fun c13 => ?_)
          · refine jm_lsw (off := 51) (tgt := 52) F dX5_takeBody_1 (by decide) (by rw [c13]; decide) (by decide) ?_
            refine jm_aload_n (i := 0) F dX5_takeBody_52 rfl rfl ?_
            refine jm_callV (As := []) (st := []) (rv := fun r => some (.int r.1)) (mm := fun r => r.2) F dX5_takeBody_53 qX5_73 rfl lo_X5 rfl (fun r h => kS_takePerson E hE h) rfl (Nat.le_of_ble_eq_true rfl) ⟨Nat.le_of_ble_eq_true rfl, Nat.le_of_ble_eq_true rfl⟩ (fun r14 => ?_)
            refine jm_bzB (fun hb16 => ?_)
            exact jm_zret F dX5_takeBody_56 hb16 (fun h => h)
          · refine jm_ite (fun c17 => ?_) (fun c17 => ?_)
            · refine jm_lsw (off := 61) (tgt := 62) F dX5_takeBody_1 (by decide) (by rw [c17]; decide) (by decide) ?_
              refine jm_aload_n (i := 0) F dX5_takeBody_62 rfl rfl ?_
              refine jm_callV (As := []) (st := []) (rv := fun r => some (.int r.1)) (mm := fun r => r.2) F dX5_takeBody_63 qX5_79 rfl lo_X5 rfl (fun r h => kS_takeReading E hE h) rfl (Nat.le_of_ble_eq_true rfl) ⟨Nat.le_of_ble_eq_true rfl, Nat.le_of_ble_eq_true rfl⟩ (fun r18 => ?_)
              refine jm_bzB (fun hb20 => ?_)
              exact jm_zret F dX5_takeBody_66 hb20 (fun h => h)
            · refine jm_lsw (off := 76) (tgt := 77) F dX5_takeBody_1 (by decide) ((lv_osw c1 (by decide)).trans ((lv_osw c5 (by decide)).trans ((lv_osw c9 (by decide)).trans ((lv_osw c13 (by decide)).trans ((lv_osw c17 (by decide)).trans rfl))))) (by decide) ?_
              refine jm_aload_n (i := 0) F dX5_takeBody_77 rfl rfl ?_
              refine jm_callV (As := []) (st := []) (rv := fun r => some (.int r.1)) (mm := fun r => r.2) F dX5_takeBody_78 qX5_88 rfl lo_X5 rfl (fun r h => kS_takeWeeks E hE h) rfl (Nat.le_of_ble_eq_true rfl) ⟨Nat.le_of_ble_eq_true rfl, Nat.le_of_ble_eq_true rfl⟩ (fun r21 => ?_)
              refine jm_bzB (fun hb23 => ?_)
              exact jm_zret F dX5_takeBody_81 hb23 (fun h => h)
  exact G r h hz
theorem dX5_tellTo_0 : jm_d cX5_tellTo 0 (.aload_n 0) 1 1 := ⟨by decide +kernel, rfl⟩
theorem dX5_tellTo_1 : jm_d cX5_tellTo 1 (.invokevirtual 26) 3 4 := ⟨by decide +kernel, rfl⟩
theorem dX5_tellTo_4 : jm_b cX5_tellTo 4 (.ifCond .ne) 7 16 := ⟨12, by decide +kernel, rfl, by decide⟩
theorem dX5_tellTo_7 : jm_d cX5_tellTo 7 (.sipush (-1000)) 3 10 := ⟨by decide +kernel, rfl⟩
theorem dX5_tellTo_10 : jm_d cX5_tellTo 10 (.aload_n 0) 1 11 := ⟨by decide +kernel, rfl⟩
theorem dX5_tellTo_11 : jm_d cX5_tellTo 11 (.getfield 30) 3 14 := ⟨by decide +kernel, rfl⟩
theorem dX5_tellTo_14 : jm_d cX5_tellTo 14 (.isub) 1 15 := ⟨by decide +kernel, rfl⟩
theorem dX5_tellTo_15 : jm_d cX5_tellTo 15 (.ireturn) 1 16 := ⟨by decide +kernel, rfl⟩
theorem dX5_tellTo_16 : jm_d cX5_tellTo 16 (.aload_n 0) 1 17 := ⟨by decide +kernel, rfl⟩
theorem dX5_tellTo_17 : jm_d cX5_tellTo 17 (.getfield 18) 3 20 := ⟨by decide +kernel, rfl⟩
theorem dX5_tellTo_20 : jm_d cX5_tellTo 20 (.aload_n 1) 1 21 := ⟨by decide +kernel, rfl⟩
theorem dX5_tellTo_21 : jm_d cX5_tellTo 21 (.invokevirtual 33) 3 24 := ⟨by decide +kernel, rfl⟩
theorem dX5_tellTo_24 : jm_d cX5_tellTo 24 (.aload_n 0) 1 25 := ⟨by decide +kernel, rfl⟩
theorem dX5_tellTo_25 : jm_d cX5_tellTo 25 (.iconst 0) 1 26 := ⟨by decide +kernel, rfl⟩
theorem dX5_tellTo_26 : jm_d cX5_tellTo 26 (.putfield 30) 3 29 := ⟨by decide +kernel, rfl⟩
theorem dX5_tellTo_29 : jm_d cX5_tellTo 29 (.iconst 0) 1 30 := ⟨by decide +kernel, rfl⟩
theorem dX5_tellTo_30 : jm_d cX5_tellTo 30 (.istore_n 2) 1 31 := ⟨by decide +kernel, rfl⟩
theorem dX5_tellTo_31 : jm_d cX5_tellTo 31 (.iload_n 2) 1 32 := ⟨by decide +kernel, rfl⟩
theorem dX5_tellTo_32 : jm_d cX5_tellTo 32 (.bipush 96) 2 34 := ⟨by decide +kernel, rfl⟩
theorem dX5_tellTo_34 : jm_b cX5_tellTo 34 (.if_icmp .ge) 37 100 := ⟨66, by decide +kernel, rfl, by decide⟩
theorem dX5_tellTo_37 : jm_d cX5_tellTo 37 (.aload_n 0) 1 38 := ⟨by decide +kernel, rfl⟩
theorem dX5_tellTo_38 : jm_d cX5_tellTo 38 (.getfield 30) 3 41 := ⟨by decide +kernel, rfl⟩
theorem dX5_tellTo_41 : jm_d cX5_tellTo 41 (.aload_n 0) 1 42 := ⟨by decide +kernel, rfl⟩
theorem dX5_tellTo_42 : jm_d cX5_tellTo 42 (.getfield 22) 3 45 := ⟨by decide +kernel, rfl⟩
theorem dX5_tellTo_45 : jm_b cX5_tellTo 45 (.if_icmp .ge) 48 100 := ⟨55, by decide +kernel, rfl, by decide⟩
theorem dX5_tellTo_48 : jm_d cX5_tellTo 48 (.aload_n 0) 1 49 := ⟨by decide +kernel, rfl⟩
theorem dX5_tellTo_49 : jm_d cX5_tellTo 49 (.getfield 30) 3 52 := ⟨by decide +kernel, rfl⟩
theorem dX5_tellTo_52 : jm_d cX5_tellTo 52 (.istore_n 3) 1 53 := ⟨by decide +kernel, rfl⟩
theorem dX5_tellTo_53 : jm_d cX5_tellTo 53 (.aload_n 0) 1 54 := ⟨by decide +kernel, rfl⟩
theorem dX5_tellTo_54 : jm_d cX5_tellTo 54 (.invokevirtual 37) 3 57 := ⟨by decide +kernel, rfl⟩
theorem dX5_tellTo_57 : jm_d cX5_tellTo 57 (.istore 4) 2 59 := ⟨by decide +kernel, rfl⟩
theorem dX5_tellTo_59 : jm_d cX5_tellTo 59 (.aload_n 0) 1 60 := ⟨by decide +kernel, rfl⟩
theorem dX5_tellTo_60 : jm_d cX5_tellTo 60 (.dup) 1 61 := ⟨by decide +kernel, rfl⟩
theorem dX5_tellTo_61 : jm_d cX5_tellTo 61 (.getfield 30) 3 64 := ⟨by decide +kernel, rfl⟩
theorem dX5_tellTo_64 : jm_d cX5_tellTo 64 (.iconst 1) 1 65 := ⟨by decide +kernel, rfl⟩
theorem dX5_tellTo_65 : jm_d cX5_tellTo 65 (.iadd) 1 66 := ⟨by decide +kernel, rfl⟩
theorem dX5_tellTo_66 : jm_d cX5_tellTo 66 (.putfield 30) 3 69 := ⟨by decide +kernel, rfl⟩
theorem dX5_tellTo_69 : jm_d cX5_tellTo 69 (.aload_n 0) 1 70 := ⟨by decide +kernel, rfl⟩
theorem dX5_tellTo_70 : jm_d cX5_tellTo 70 (.iload 4) 2 72 := ⟨by decide +kernel, rfl⟩
theorem dX5_tellTo_72 : jm_d cX5_tellTo 72 (.invokevirtual 41) 3 75 := ⟨by decide +kernel, rfl⟩
theorem dX5_tellTo_75 : jm_b cX5_tellTo 75 (.ifCond .ne) 78 84 := ⟨9, by decide +kernel, rfl, by decide⟩
theorem dX5_tellTo_78 : jm_d cX5_tellTo 78 (.sipush (-2000)) 3 81 := ⟨by decide +kernel, rfl⟩
theorem dX5_tellTo_81 : jm_d cX5_tellTo 81 (.iload_n 3) 1 82 := ⟨by decide +kernel, rfl⟩
theorem dX5_tellTo_82 : jm_d cX5_tellTo 82 (.isub) 1 83 := ⟨by decide +kernel, rfl⟩
theorem dX5_tellTo_83 : jm_d cX5_tellTo 83 (.ireturn) 1 84 := ⟨by decide +kernel, rfl⟩
theorem dX5_tellTo_84 : jm_d cX5_tellTo 84 (.aload_n 0) 1 85 := ⟨by decide +kernel, rfl⟩
theorem dX5_tellTo_85 : jm_d cX5_tellTo 85 (.dup) 1 86 := ⟨by decide +kernel, rfl⟩
theorem dX5_tellTo_86 : jm_d cX5_tellTo 86 (.getfield 30) 3 89 := ⟨by decide +kernel, rfl⟩
theorem dX5_tellTo_89 : jm_d cX5_tellTo 89 (.iconst 1) 1 90 := ⟨by decide +kernel, rfl⟩
theorem dX5_tellTo_90 : jm_d cX5_tellTo 90 (.iadd) 1 91 := ⟨by decide +kernel, rfl⟩
theorem dX5_tellTo_91 : jm_d cX5_tellTo 91 (.putfield 30) 3 94 := ⟨by decide +kernel, rfl⟩
theorem dX5_tellTo_94 : jm_d cX5_tellTo 94 (.iinc 2 1) 3 97 := ⟨by decide +kernel, rfl⟩
theorem dX5_tellTo_97 : jm_b cX5_tellTo 97 .goto 100 31 := ⟨(-66), by decide +kernel, rfl, by decide⟩
theorem dX5_tellTo_100 : jm_d cX5_tellTo 100 (.aload_n 1) 1 101 := ⟨by decide +kernel, rfl⟩
theorem dX5_tellTo_101 : jm_d cX5_tellTo 101 (.aload_n 0) 1 102 := ⟨by decide +kernel, rfl⟩
theorem dX5_tellTo_102 : jm_d cX5_tellTo 102 (.getfield 18) 3 105 := ⟨by decide +kernel, rfl⟩
theorem dX5_tellTo_105 : jm_d cX5_tellTo 105 (.invokevirtual 33) 3 108 := ⟨by decide +kernel, rfl⟩
theorem dX5_tellTo_108 : jm_d cX5_tellTo 108 (.iload_n 2) 1 109 := ⟨by decide +kernel, rfl⟩
theorem dX5_tellTo_109 : jm_d cX5_tellTo 109 (.ireturn) 1 110 := ⟨by decide +kernel, rfl⟩
set_option maxHeartbeats 4000000 in
set_option maxRecDepth 100000 in
theorem kS_tellTo (E : jm_Ev) (hE : jm_dj E jm_LC) {M : jm_M} {p1 : Nat} (hp1 : jm_isT p1) {r : Int32 × jm_M} (h : sS_tellTo M p1 = some r) : jm_Ct E jm_LC yX5_tellTo cX5_tellTo 5 (some .int) 6 132 [.ref (jm_a E 14 0), .ref (jm_a E p1 0)] M (some (.int r.1)) r.2 := by
  refine jm_enter (lv := [some (.ref (jm_a E 14 0)), some (.ref (jm_a E p1 0)), none, none, none]) hE (by decide) (Nat.le_of_ble_eq_true rfl) rfl ?_
  intro z w F hz
  have G : jm_G w 0 [some (.ref (jm_a E 14 0)), some (.ref (jm_a E p1 0)), none, none, none] [] M (sS_tellTo M p1) (fun e => z (some (.int e.1)) e.2) := by
    unfold sS_tellTo
    refine jm_aload_n (i := 0) F dX5_tellTo_0 rfl rfl ?_
    refine jm_callV (As := []) (st := []) (rv := fun r => some (.int r.1)) (mm := fun r => r.2) F dX5_tellTo_1 qX5_26 rfl lo_X5 rfl (fun r h => kS_canBeRead E hE h) rfl (Nat.le_of_ble_eq_true rfl) ⟨Nat.le_of_ble_eq_true rfl, Nat.le_of_ble_eq_true rfl⟩ (fun r1 => ?_)
    refine jm_if_ne F dX5_tellTo_4 (fun c2 => ?_) (fun c2 => ?_)
    · refine jm_sipush F dX5_tellTo_7 ks_m1000 ?_
      refine jm_aload_n (i := 0) F dX5_tellTo_10 rfl rfl ?_
      refine jm_getI F dX5_tellTo_11 fl_X5_30 lo_X5 rfl ?_
      refine jm_isub F dX5_tellTo_14 ?_
      exact jm_iret F dX5_tellTo_15 (fun h => h)
    · refine jm_aload_n (i := 0) F dX5_tellTo_16 rfl rfl ?_
      refine jm_getR F dX5_tellTo_17 fl_X5_18 lo_X5 rfl ?_
      refine jm_aload_n (i := 1) F dX5_tellTo_20 rfl rfl ?_
      refine jm_callV (As := [.ref (jm_a E p1 0)]) (st := []) (rv := fun _ => none) (mm := fun r => r) F dX5_tellTo_21 qX5_33 rfl (lo_T isT_3) rfl (fun r h => kT_copyFrom E hE isT_3 hp1 h) rfl (Nat.le_of_ble_eq_true rfl) ⟨Nat.le_of_ble_eq_true rfl, Nat.le_of_ble_eq_true rfl⟩ (fun r3 => ?_)
      refine jm_aload_n (i := 0) F dX5_tellTo_24 rfl rfl ?_
      refine jm_iconst F dX5_tellTo_25 kc_0 ?_
      refine jm_putI F dX5_tellTo_26 fp_X5_30 lo_X5 rfl (fun M4 => ?_)
      refine jm_iconst F dX5_tellTo_29 kc_0 ?_
      refine jm_istore_n (i := 2) (lv' := [some (.ref (jm_a E 14 0)), some (.ref (jm_a E p1 0)), some (.int 0), none, none]) F dX5_tellTo_30 rfl (by decide) rfl rfl ?_
      refine jm_bindS (pcJ := 100) (lvJ := fun e14 => [some (.ref (jm_a E 14 0)), some (.ref (jm_a E p1 0)), some (.int e14.1), none, none]) (stJ := fun _ => []) (MJ := fun e14 => e14.2) ?_ (fun e14 => ?_)
      · refine jm_weak F (lv' := [some (.ref (jm_a E 14 0)), some (.ref (jm_a E p1 0)), some (.int 0), none, none]) ⟨rfl, rfl, rfl, trivial⟩ ?_
        refine jm_loopR (lvH := fun s5 => [some (.ref (jm_a E 14 0)), some (.ref (jm_a E p1 0)), some (.int s5.1), none, none]) (MH := fun s5 => s5.2) (fun s5 => ?_) jm_N (0, M4)
        unfold sS_tellTo_L31
        refine jm_iload_n (i := 2) F dX5_tellTo_31 rfl rfl ?_
        refine jm_bipush F dX5_tellTo_32 kb_96 ?_
        refine jm_icmp_ge F dX5_tellTo_34 (fun c6 => ?_) (fun c6 => ?_)
        · exact jm_weakD F (lv' := [some (.ref (jm_a E 14 0)), some (.ref (jm_a E p1 0)), some (.int s5.1), none, none]) ⟨rfl, rfl, rfl, trivial⟩ (fun h => h)
        · refine jm_aload_n (i := 0) F dX5_tellTo_37 rfl rfl ?_
          refine jm_getI F dX5_tellTo_38 fl_X5_30 lo_X5 rfl ?_
          refine jm_aload_n (i := 0) F dX5_tellTo_41 rfl rfl ?_
          refine jm_getI F dX5_tellTo_42 fl_X5_22 lo_X5 rfl ?_
          refine jm_icmp_ge F dX5_tellTo_45 (fun c7 => ?_) (fun c7 => ?_)
          · exact jm_weakD F (lv' := [some (.ref (jm_a E 14 0)), some (.ref (jm_a E p1 0)), some (.int s5.1), none, none]) ⟨rfl, rfl, rfl, trivial⟩ (fun h => h)
          · refine jm_aload_n (i := 0) F dX5_tellTo_48 rfl rfl ?_
            refine jm_getI F dX5_tellTo_49 fl_X5_30 lo_X5 rfl ?_
            refine jm_nameI (f := fun x8 => [.int x8]) (fun x8 => ?_) rfl
            refine jm_istore_n (i := 3) (lv' := [some (.ref (jm_a E 14 0)), some (.ref (jm_a E p1 0)), some (.int s5.1), some (.int x8), none]) F dX5_tellTo_52 rfl (by decide) rfl rfl ?_
            refine jm_aload_n (i := 0) F dX5_tellTo_53 rfl rfl ?_
            refine jm_callV (As := []) (st := []) (rv := fun r => some (.int r)) (mm := fun _ => s5.2) F dX5_tellTo_54 qX5_37 rfl lo_X5 rfl (fun r h => kS_here E hE h) rfl (Nat.le_of_ble_eq_true rfl) ⟨Nat.le_of_ble_eq_true rfl, Nat.le_of_ble_eq_true rfl⟩ (fun r9 => ?_)
            refine jm_istore (i := 4) (lv' := [some (.ref (jm_a E 14 0)), some (.ref (jm_a E p1 0)), some (.int s5.1), some (.int x8), some (.int r9)]) F dX5_tellTo_57 (by decide) rfl rfl ?_
            refine jm_aload_n (i := 0) F dX5_tellTo_59 rfl rfl ?_
            refine jm_dup F dX5_tellTo_60 rfl ?_
            refine jm_getI F dX5_tellTo_61 fl_X5_30 lo_X5 rfl ?_
            refine jm_iconst F dX5_tellTo_64 kc_1 ?_
            refine jm_iadd F dX5_tellTo_65 ?_
            refine jm_putI F dX5_tellTo_66 fp_X5_30 lo_X5 rfl (fun M10 => ?_)
            refine jm_aload_n (i := 0) F dX5_tellTo_69 rfl rfl ?_
            refine jm_iload F dX5_tellTo_70 rfl ?_
            refine jm_callV (As := [.int r9]) (st := []) (rv := fun r => some (.int r.1)) (mm := fun r => r.2) F dX5_tellTo_72 qX5_41 rfl lo_X5 rfl (fun r h => kS_takeBody E hE h) rfl (Nat.le_of_ble_eq_true rfl) ⟨Nat.le_of_ble_eq_true rfl, Nat.le_of_ble_eq_true rfl⟩ (fun r11 => ?_)
            refine jm_if_ne F dX5_tellTo_75 (fun c12 => ?_) (fun c12 => ?_)
            · refine jm_sipush F dX5_tellTo_78 ks_m2000 ?_
              refine jm_iload_n (i := 3) F dX5_tellTo_81 rfl rfl ?_
              refine jm_isub F dX5_tellTo_82 ?_
              exact jm_iret F dX5_tellTo_83 (fun h => h)
            · refine jm_aload_n (i := 0) F dX5_tellTo_84 rfl rfl ?_
              refine jm_dup F dX5_tellTo_85 rfl ?_
              refine jm_getI F dX5_tellTo_86 fl_X5_30 lo_X5 rfl ?_
              refine jm_iconst F dX5_tellTo_89 kc_1 ?_
              refine jm_iadd F dX5_tellTo_90 ?_
              refine jm_putI F dX5_tellTo_91 fp_X5_30 lo_X5 rfl (fun M13 => ?_)
              refine jm_iinc (i := 2) (lv' := [some (.ref (jm_a E 14 0)), some (.ref (jm_a E p1 0)), some (.int (s5.1 + 1)), some (.int x8), some (.int r9)]) F dX5_tellTo_94 kc_1 rfl (by decide) rfl rfl ?_
              refine jm_goto F dX5_tellTo_97 ?_
              exact jm_weakD F (lv' := [some (.ref (jm_a E 14 0)), some (.ref (jm_a E p1 0)), some (.int (s5.1 + 1)), none, none]) ⟨rfl, rfl, rfl, trivial⟩ (fun h => h)
      · refine jm_aload_n (i := 1) F dX5_tellTo_100 rfl rfl ?_
        refine jm_aload_n (i := 0) F dX5_tellTo_101 rfl rfl ?_
        refine jm_getR F dX5_tellTo_102 fl_X5_18 lo_X5 rfl ?_
        refine jm_callV (As := [.ref (jm_a E 3 0)]) (st := []) (rv := fun _ => none) (mm := fun r => r) F dX5_tellTo_105 qX5_33 rfl (lo_T hp1) rfl (fun r h => kT_copyFrom E hE hp1 isT_3 h) rfl (Nat.le_of_ble_eq_true rfl) ⟨Nat.le_of_ble_eq_true rfl, Nat.le_of_ble_eq_true rfl⟩ (fun r15 => ?_)
        refine jm_iload_n (i := 2) F dX5_tellTo_108 rfl rfl ?_
        exact jm_iret F dX5_tellTo_109 (fun h => h)
  exact G r h hz
theorem dX4_forget_0 : jm_d cX4_forget 0 (.aload_n 0) 1 1 := ⟨by decide +kernel, rfl⟩
theorem dX4_forget_1 : jm_d cX4_forget 1 (.iconst 0) 1 2 := ⟨by decide +kernel, rfl⟩
theorem dX4_forget_2 : jm_d cX4_forget 2 (.putfield 22) 3 5 := ⟨by decide +kernel, rfl⟩
theorem dX4_forget_5 : jm_d cX4_forget 5 (.return_) 1 6 := ⟨by decide +kernel, rfl⟩
set_option maxHeartbeats 4000000 in
set_option maxRecDepth 100000 in
theorem kP_forget (E : jm_Ev) (hE : jm_dj E jm_LC) {M : jm_M}  {r : jm_M} (h : sP_forget M = some r) : jm_Ct E jm_LC yX4_forget cX4_forget 1 none 0 0 [.ref (jm_a E 13 0)] M none r := by
  refine jm_enter (lv := [some (.ref (jm_a E 13 0))]) hE (by decide) (Nat.le_of_ble_eq_true rfl) rfl ?_
  intro z w F hz
  have G : jm_G w 0 [some (.ref (jm_a E 13 0))] [] M (sP_forget M) (fun e => z none e) := by
    unfold sP_forget
    refine jm_aload_n (i := 0) F dX4_forget_0 rfl rfl ?_
    refine jm_iconst F dX4_forget_1 kc_0 ?_
    refine jm_putI F dX4_forget_2 fp_X4_22 lo_X4 rfl (fun M1 => ?_)
    exact jm_vret F dX4_forget_5 (fun h => h)
  exact G r h hz
theorem dX8_town_0 : jm_d cX8_town 0 (.aload_n 0) 1 1 := ⟨by decide +kernel, rfl⟩
theorem dX8_town_1 : jm_d cX8_town 1 (.getfield 29) 3 4 := ⟨by decide +kernel, rfl⟩
theorem dX8_town_4 : jm_d cX8_town 4 (.aload_n 0) 1 5 := ⟨by decide +kernel, rfl⟩
theorem dX8_town_5 : jm_d cX8_town 5 (.getfield 10) 3 8 := ⟨by decide +kernel, rfl⟩
theorem dX8_town_8 : jm_d cX8_town 8 (.invokevirtual 75) 3 11 := ⟨by decide +kernel, rfl⟩
theorem dX8_town_11 : jm_d cX8_town 11 (.istore_n 1) 1 12 := ⟨by decide +kernel, rfl⟩
theorem dX8_town_12 : jm_d cX8_town 12 (.aload_n 0) 1 13 := ⟨by decide +kernel, rfl⟩
theorem dX8_town_13 : jm_d cX8_town 13 (.getfield 29) 3 16 := ⟨by decide +kernel, rfl⟩
theorem dX8_town_16 : jm_d cX8_town 16 (.iconst 0) 1 17 := ⟨by decide +kernel, rfl⟩
theorem dX8_town_17 : jm_d cX8_town 17 (.putfield 68) 3 20 := ⟨by decide +kernel, rfl⟩
theorem dX8_town_20 : jm_d cX8_town 20 (.iload_n 1) 1 21 := ⟨by decide +kernel, rfl⟩
theorem dX8_town_21 : jm_b cX8_town 21 (.ifCond .lt) 24 31 := ⟨10, by decide +kernel, rfl, by decide⟩
theorem dX8_town_31 : jm_d cX8_town 31 (.iload_n 1) 1 32 := ⟨by decide +kernel, rfl⟩
theorem dX8_town_32 : jm_d cX8_town 32 (.ireturn) 1 33 := ⟨by decide +kernel, rfl⟩
theorem dX8_town_24 : jm_d cX8_town 24 (.aload_n 0) 1 25 := ⟨by decide +kernel, rfl⟩
theorem dX8_town_25 : jm_d cX8_town 25 (.getfield 19) 3 28 := ⟨by decide +kernel, rfl⟩
theorem dX8_town_28 : jm_d cX8_town 28 (.invokevirtual 79) 3 31 := ⟨by decide +kernel, rfl⟩
set_option maxHeartbeats 4000000 in
set_option maxRecDepth 100000 in
theorem kW_town (E : jm_Ev) (hE : jm_dj E jm_LC) {M : jm_M}  {r : Int32 × jm_M} (h : sW_town M = some r) : jm_Ct E jm_LC yX8_town cX8_town 2 (some .int) 7 156 [.ref (jm_a E 0 0)] M (some (.int r.1)) r.2 := by
  refine jm_enter (lv := [some (.ref (jm_a E 0 0)), none]) hE (by decide) (Nat.le_of_ble_eq_true rfl) rfl ?_
  intro z w F hz
  have G : jm_G w 0 [some (.ref (jm_a E 0 0)), none] [] M (sW_town M) (fun e => z (some (.int e.1)) e.2) := by
    unfold sW_town
    refine jm_aload_n (i := 0) F dX8_town_0 rfl rfl ?_
    refine jm_getR F dX8_town_1 fl_X8_29 lo_X8 rfl ?_
    refine jm_aload_n (i := 0) F dX8_town_4 rfl rfl ?_
    refine jm_getR F dX8_town_5 fl_X8_10 lo_X8 rfl ?_
    refine jm_callV (As := [.ref (jm_a E 1 0)]) (st := []) (rv := fun r => some (.int r.1)) (mm := fun r => r.2) F dX8_town_8 qX8_75 rfl lo_X5 rfl (fun r h => kS_tellTo E hE isT_1 h) rfl (Nat.le_of_ble_eq_true rfl) ⟨Nat.le_of_ble_eq_true rfl, Nat.le_of_ble_eq_true rfl⟩ (fun r1 => ?_)
    refine jm_istore_n (i := 1) (lv' := [some (.ref (jm_a E 0 0)), some (.int r1.1)]) F dX8_town_11 rfl (by decide) rfl rfl ?_
    refine jm_aload_n (i := 0) F dX8_town_12 rfl rfl ?_
    refine jm_getR F dX8_town_13 fl_X8_29 lo_X8 rfl ?_
    refine jm_iconst F dX8_town_16 kc_0 ?_
    refine jm_putI F dX8_town_17 fp_X8_68 lo_X5 rfl (fun M2 => ?_)
    refine jm_iload_n (i := 1) F dX8_town_20 rfl rfl ?_
    refine jm_if_lt F dX8_town_21 (fun c3 => ?_) (fun c3 => ?_)
    · refine jm_iload_n (i := 1) F dX8_town_31 rfl rfl ?_
      exact jm_iret F dX8_town_32 (fun h => h)
    · refine jm_aload_n (i := 0) F dX8_town_24 rfl rfl ?_
      refine jm_getR F dX8_town_25 fl_X8_19 lo_X8 rfl ?_
      refine jm_callV (As := []) (st := []) (rv := fun _ => none) (mm := fun r => r) F dX8_town_28 qX8_79 rfl lo_X4 rfl (fun r h => kP_forget E hE h) rfl (Nat.le_of_ble_eq_true rfl) ⟨Nat.le_of_ble_eq_true rfl, Nat.le_of_ble_eq_true rfl⟩ (fun r4 => ?_)
      refine jm_iload_n (i := 1) F dX8_town_31 rfl rfl ?_
      exact jm_iret F dX8_town_32 (fun h => h)
  exact G r h hz
theorem dX8_comes_0 : jm_d cX8_comes 0 (.iload_n 1) 1 1 := ⟨by decide +kernel, rfl⟩
theorem dX8_comes_1 : jm_b cX8_comes 1 (.ifCond .lt) 4 12 := ⟨11, by decide +kernel, rfl, by decide⟩
theorem dX8_comes_12 : jm_d cX8_comes 12 (.aload_n 0) 1 13 := ⟨by decide +kernel, rfl⟩
theorem dX8_comes_13 : jm_d cX8_comes 13 (.bipush (-4)) 2 15 := ⟨by decide +kernel, rfl⟩
theorem dX8_comes_15 : jm_d cX8_comes 15 (.invokevirtual 64) 3 18 := ⟨by decide +kernel, rfl⟩
theorem dX8_comes_18 : jm_d cX8_comes 18 (.ireturn) 1 19 := ⟨by decide +kernel, rfl⟩
theorem dX8_comes_4 : jm_d cX8_comes 4 (.iload_n 2) 1 5 := ⟨by decide +kernel, rfl⟩
theorem dX8_comes_5 : jm_b cX8_comes 5 (.ifCond .lt) 8 12 := ⟨7, by decide +kernel, rfl, by decide⟩
theorem dX8_comes_8 : jm_d cX8_comes 8 (.iload_n 3) 1 9 := ⟨by decide +kernel, rfl⟩
theorem dX8_comes_9 : jm_b cX8_comes 9 (.ifCond .ge) 12 19 := ⟨10, by decide +kernel, rfl, by decide⟩
theorem dX8_comes_19 : jm_d cX8_comes 19 (.iload_n 1) 1 20 := ⟨by decide +kernel, rfl⟩
theorem dX8_comes_20 : jm_d cX8_comes 20 (.bipush 99) 2 22 := ⟨by decide +kernel, rfl⟩
theorem dX8_comes_22 : jm_b cX8_comes 22 (.if_icmp .gt) 25 49 := ⟨27, by decide +kernel, rfl, by decide⟩
theorem dX8_comes_49 : jm_d cX8_comes 49 (.aload_n 0) 1 50 := ⟨by decide +kernel, rfl⟩
theorem dX8_comes_50 : jm_d cX8_comes 50 (.bipush (-6)) 2 52 := ⟨by decide +kernel, rfl⟩
theorem dX8_comes_52 : jm_d cX8_comes 52 (.invokevirtual 64) 3 55 := ⟨by decide +kernel, rfl⟩
theorem dX8_comes_55 : jm_d cX8_comes 55 (.ireturn) 1 56 := ⟨by decide +kernel, rfl⟩
theorem dX8_comes_25 : jm_d cX8_comes 25 (.iload_n 2) 1 26 := ⟨by decide +kernel, rfl⟩
theorem dX8_comes_26 : jm_d cX8_comes 26 (.bipush 9) 2 28 := ⟨by decide +kernel, rfl⟩
theorem dX8_comes_28 : jm_b cX8_comes 28 (.if_icmp .gt) 31 49 := ⟨21, by decide +kernel, rfl, by decide⟩
theorem dX8_comes_31 : jm_d cX8_comes 31 (.iload_n 3) 1 32 := ⟨by decide +kernel, rfl⟩
theorem dX8_comes_32 : jm_d cX8_comes 32 (.bipush 99) 2 34 := ⟨by decide +kernel, rfl⟩
theorem dX8_comes_34 : jm_b cX8_comes 34 (.if_icmp .gt) 37 49 := ⟨15, by decide +kernel, rfl, by decide⟩
theorem dX8_comes_37 : jm_d cX8_comes 37 (.aload_n 0) 1 38 := ⟨by decide +kernel, rfl⟩
theorem dX8_comes_38 : jm_d cX8_comes 38 (.getfield 10) 3 41 := ⟨by decide +kernel, rfl⟩
theorem dX8_comes_41 : jm_d cX8_comes 41 (.getfield 82) 3 44 := ⟨by decide +kernel, rfl⟩
theorem dX8_comes_44 : jm_d cX8_comes 44 (.bipush 6) 2 46 := ⟨by decide +kernel, rfl⟩
theorem dX8_comes_46 : jm_b cX8_comes 46 (.if_icmp .lt) 49 56 := ⟨10, by decide +kernel, rfl, by decide⟩
theorem dX8_comes_56 : jm_d cX8_comes 56 (.aload_n 0) 1 57 := ⟨by decide +kernel, rfl⟩
theorem dX8_comes_57 : jm_d cX8_comes 57 (.getfield 19) 3 60 := ⟨by decide +kernel, rfl⟩
theorem dX8_comes_60 : jm_d cX8_comes 60 (.invokevirtual 79) 3 63 := ⟨by decide +kernel, rfl⟩
theorem dX8_comes_63 : jm_d cX8_comes 63 (.aload_n 0) 1 64 := ⟨by decide +kernel, rfl⟩
theorem dX8_comes_64 : jm_d cX8_comes 64 (.getfield 10) 3 67 := ⟨by decide +kernel, rfl⟩
theorem dX8_comes_67 : jm_d cX8_comes 67 (.iload_n 1) 1 68 := ⟨by decide +kernel, rfl⟩
theorem dX8_comes_68 : jm_d cX8_comes 68 (.iload_n 2) 1 69 := ⟨by decide +kernel, rfl⟩
theorem dX8_comes_69 : jm_d cX8_comes 69 (.iload_n 3) 1 70 := ⟨by decide +kernel, rfl⟩
theorem dX8_comes_70 : jm_d cX8_comes 70 (.invokevirtual 85) 3 73 := ⟨by decide +kernel, rfl⟩
theorem dX8_comes_73 : jm_d cX8_comes 73 (.ireturn) 1 74 := ⟨by decide +kernel, rfl⟩
set_option maxHeartbeats 4000000 in
set_option maxRecDepth 100000 in
theorem kW_comes (E : jm_Ev) (hE : jm_dj E jm_LC) {M : jm_M} {p1 : Int32} {p2 : Int32} {p3 : Int32}  {r : Int32 × jm_M} (h : sW_comes M p1 p2 p3 = some r) : jm_Ct E jm_LC yX8_comes cX8_comes 4 (some .int) 1 24 [.ref (jm_a E 0 0), .int p1, .int p2, .int p3] M (some (.int r.1)) r.2 := by
  refine jm_enter (lv := [some (.ref (jm_a E 0 0)), some (.int p1), some (.int p2), some (.int p3)]) hE (by decide) (Nat.le_of_ble_eq_true rfl) rfl ?_
  intro z w F hz
  have G : jm_G w 0 [some (.ref (jm_a E 0 0)), some (.int p1), some (.int p2), some (.int p3)] [] M (sW_comes M p1 p2 p3) (fun e => z (some (.int e.1)) e.2) := by
    unfold sW_comes
    refine jm_iload_n (i := 1) F dX8_comes_0 rfl rfl ?_
    refine jm_if_lt F dX8_comes_1 (fun c1 => ?_) (fun c1 => ?_)
    · refine jm_aload_n (i := 0) F dX8_comes_12 rfl rfl ?_
      refine jm_bipush F dX8_comes_13 kb_m4 ?_
      refine jm_callV (As := [.int (-4)]) (st := []) (rv := fun r => some (.int r.1)) (mm := fun r => r.2) F dX8_comes_15 qX8_64 rfl lo_X8 rfl (fun r h => kW_refuse E hE h) rfl (Nat.le_of_ble_eq_true rfl) ⟨Nat.le_of_ble_eq_true rfl, Nat.le_of_ble_eq_true rfl⟩ (fun r2 => ?_)
      exact jm_iret F dX8_comes_18 (fun h => h)
    · refine jm_iload_n (i := 2) F dX8_comes_4 rfl rfl ?_
      refine jm_if_lt F dX8_comes_5 (fun c3 => ?_) (fun c3 => ?_)
      · refine jm_aload_n (i := 0) F dX8_comes_12 rfl rfl ?_
        refine jm_bipush F dX8_comes_13 kb_m4 ?_
        refine jm_callV (As := [.int (-4)]) (st := []) (rv := fun r => some (.int r.1)) (mm := fun r => r.2) F dX8_comes_15 qX8_64 rfl lo_X8 rfl (fun r h => kW_refuse E hE h) rfl (Nat.le_of_ble_eq_true rfl) ⟨Nat.le_of_ble_eq_true rfl, Nat.le_of_ble_eq_true rfl⟩ (fun r4 => ?_)
        exact jm_iret F dX8_comes_18 (fun h => h)
      · refine jm_iload_n (i := 3) F dX8_comes_8 rfl rfl ?_
        refine jm_if_ge F dX8_comes_9 (fun c5 => ?_) (fun c5 => ?_)
        · refine jm_iload_n (i := 1) F dX8_comes_19 rfl rfl ?_
          refine jm_bipush F dX8_comes_20 kb_99 ?_
          refine jm_icmp_gt F dX8_comes_22 (fun c6 => ?_) (fun c6 => ?_)
          · refine jm_aload_n (i := 0) F dX8_comes_49 rfl rfl ?_
            refine jm_bipush F dX8_comes_50 kb_m6 ?_
            refine jm_callV (As := [.int (-6)]) (st := []) (rv := fun r => some (.int r.1)) (mm := fun r => r.2) F dX8_comes_52 qX8_64 rfl lo_X8 rfl (fun r h => kW_refuse E hE h) rfl (Nat.le_of_ble_eq_true rfl) ⟨Nat.le_of_ble_eq_true rfl, Nat.le_of_ble_eq_true rfl⟩ (fun r7 => ?_)
            exact jm_iret F dX8_comes_55 (fun h => h)
          · refine jm_iload_n (i := 2) F dX8_comes_25 rfl rfl ?_
            refine jm_bipush F dX8_comes_26 kb_9 ?_
            refine jm_icmp_gt F dX8_comes_28 (fun c8 => ?_) (fun c8 => ?_)
            · refine jm_aload_n (i := 0) F dX8_comes_49 rfl rfl ?_
              refine jm_bipush F dX8_comes_50 kb_m6 ?_
              refine jm_callV (As := [.int (-6)]) (st := []) (rv := fun r => some (.int r.1)) (mm := fun r => r.2) F dX8_comes_52 qX8_64 rfl lo_X8 rfl (fun r h => kW_refuse E hE h) rfl (Nat.le_of_ble_eq_true rfl) ⟨Nat.le_of_ble_eq_true rfl, Nat.le_of_ble_eq_true rfl⟩ (fun r9 => ?_)
              exact jm_iret F dX8_comes_55 (fun h => h)
            · refine jm_iload_n (i := 3) F dX8_comes_31 rfl rfl ?_
              refine jm_bipush F dX8_comes_32 kb_99 ?_
              refine jm_icmp_gt F dX8_comes_34 (fun c10 => ?_) (fun c10 => ?_)
              · refine jm_aload_n (i := 0) F dX8_comes_49 rfl rfl ?_
                refine jm_bipush F dX8_comes_50 kb_m6 ?_
                refine jm_callV (As := [.int (-6)]) (st := []) (rv := fun r => some (.int r.1)) (mm := fun r => r.2) F dX8_comes_52 qX8_64 rfl lo_X8 rfl (fun r h => kW_refuse E hE h) rfl (Nat.le_of_ble_eq_true rfl) ⟨Nat.le_of_ble_eq_true rfl, Nat.le_of_ble_eq_true rfl⟩ (fun r11 => ?_)
                exact jm_iret F dX8_comes_55 (fun h => h)
              · refine jm_aload_n (i := 0) F dX8_comes_37 rfl rfl ?_
                refine jm_getR F dX8_comes_38 fl_X8_10 lo_X8 rfl ?_
                refine jm_getI F dX8_comes_41 fl_X8_82 (lo_T isT_1) rfl ?_
                refine jm_bipush F dX8_comes_44 kb_6 ?_
                refine jm_icmp_lt F dX8_comes_46 (fun c12 => ?_) (fun c12 => ?_)
                · refine jm_aload_n (i := 0) F dX8_comes_56 rfl rfl ?_
                  refine jm_getR F dX8_comes_57 fl_X8_19 lo_X8 rfl ?_
                  refine jm_callV (As := []) (st := []) (rv := fun _ => none) (mm := fun r => r) F dX8_comes_60 qX8_79 rfl lo_X4 rfl (fun r h => kP_forget E hE h) rfl (Nat.le_of_ble_eq_true rfl) ⟨Nat.le_of_ble_eq_true rfl, Nat.le_of_ble_eq_true rfl⟩ (fun r13 => ?_)
                  refine jm_aload_n (i := 0) F dX8_comes_63 rfl rfl ?_
                  refine jm_getR F dX8_comes_64 fl_X8_10 lo_X8 rfl ?_
                  refine jm_iload_n (i := 1) F dX8_comes_67 rfl rfl ?_
                  refine jm_iload_n (i := 2) F dX8_comes_68 rfl rfl ?_
                  refine jm_iload_n (i := 3) F dX8_comes_69 rfl rfl ?_
                  refine jm_callV (As := [.int p1, .int p2, .int p3]) (st := []) (rv := fun r => some (.int r.1)) (mm := fun r => r.2) F dX8_comes_70 qX8_85 rfl (lo_T isT_1) rfl (fun r h => kT_addPerson E hE isT_1 h) rfl (Nat.le_of_ble_eq_true rfl) ⟨Nat.le_of_ble_eq_true rfl, Nat.le_of_ble_eq_true rfl⟩ (fun r14 => ?_)
                  exact jm_iret F dX8_comes_73 (fun h => h)
                · refine jm_aload_n (i := 0) F dX8_comes_49 rfl rfl ?_
                  refine jm_bipush F dX8_comes_50 kb_m6 ?_
                  refine jm_callV (As := [.int (-6)]) (st := []) (rv := fun r => some (.int r.1)) (mm := fun r => r.2) F dX8_comes_52 qX8_64 rfl lo_X8 rfl (fun r h => kW_refuse E hE h) rfl (Nat.le_of_ble_eq_true rfl) ⟨Nat.le_of_ble_eq_true rfl, Nat.le_of_ble_eq_true rfl⟩ (fun r15 => ?_)
                  exact jm_iret F dX8_comes_55 (fun h => h)
        · refine jm_aload_n (i := 0) F dX8_comes_12 rfl rfl ?_
          refine jm_bipush F dX8_comes_13 kb_m4 ?_
          refine jm_callV (As := [.int (-4)]) (st := []) (rv := fun r => some (.int r.1)) (mm := fun r => r.2) F dX8_comes_15 qX8_64 rfl lo_X8 rfl (fun r h => kW_refuse E hE h) rfl (Nat.le_of_ble_eq_true rfl) ⟨Nat.le_of_ble_eq_true rfl, Nat.le_of_ble_eq_true rfl⟩ (fun r16 => ?_)
          exact jm_iret F dX8_comes_18 (fun h => h)
  exact G r h hz
theorem dX6_ofLetter_0 : jm_d cX6_ofLetter 0 (.iconst 0) 1 1 := ⟨by decide +kernel, rfl⟩
theorem dX6_ofLetter_1 : jm_d cX6_ofLetter 1 (.iconst 0) 1 2 := ⟨by decide +kernel, rfl⟩
theorem dX6_ofLetter_2 : jm_d cX6_ofLetter 2 (.iload_n 0) 1 3 := ⟨by decide +kernel, rfl⟩
theorem dX6_ofLetter_3 : jm_d cX6_ofLetter 3 (.invokestatic 7) 3 6 := ⟨by decide +kernel, rfl⟩
theorem dX6_ofLetter_6 : jm_d cX6_ofLetter 6 (.ireturn) 1 7 := ⟨by decide +kernel, rfl⟩
set_option maxHeartbeats 4000000 in
set_option maxRecDepth 100000 in
theorem kI_ofLetter (E : jm_Ev) (hE : jm_dj E jm_LC) {p1 : Int32} {M : jm_M}  {r : Int32} (h : sI_ofLetter p1 = some r) : jm_Ct E jm_LC yX6_ofLetter cX6_ofLetter 1 (some .int) 1 24 [.int p1] M (some (.int r)) M := by
  refine jm_enter (lv := [some (.int p1)]) hE (by decide) (Nat.le_of_ble_eq_true rfl) rfl ?_
  intro z w F hz
  have G : jm_G w 0 [some (.int p1)] [] M (sI_ofLetter p1) (fun e => z (some (.int e)) M) := by
    unfold sI_ofLetter
    refine jm_iconst F dX6_ofLetter_0 kc_0 ?_
    refine jm_iconst F dX6_ofLetter_1 kc_0 ?_
    refine jm_iload_n (i := 0) F dX6_ofLetter_2 rfl rfl ?_
    refine jm_callS (As := [.int 0, .int 0, .int p1]) (st := []) (rv := fun r => some (.int r)) (mm := fun _ => M) F dX6_ofLetter_3 qX6_7 rfl (fun r h => kI_longer E hE h) rfl (Nat.le_of_ble_eq_true rfl) ⟨Nat.le_of_ble_eq_true rfl, Nat.le_of_ble_eq_true rfl⟩ (fun r1 => ?_)
    exact jm_iret F dX6_ofLetter_6 (fun h => h)
  exact G r h hz
theorem dX8_brings_0 : jm_d cX8_brings 0 (.iload_n 1) 1 1 := ⟨by decide +kernel, rfl⟩
theorem dX8_brings_1 : jm_b cX8_brings 1 (.ifCond .lt) 4 10 := ⟨9, by decide +kernel, rfl, by decide⟩
theorem dX8_brings_10 : jm_d cX8_brings 10 (.aload_n 0) 1 11 := ⟨by decide +kernel, rfl⟩
theorem dX8_brings_11 : jm_d cX8_brings 11 (.bipush (-2)) 2 13 := ⟨by decide +kernel, rfl⟩
theorem dX8_brings_13 : jm_d cX8_brings 13 (.invokevirtual 64) 3 16 := ⟨by decide +kernel, rfl⟩
theorem dX8_brings_16 : jm_d cX8_brings 16 (.ireturn) 1 17 := ⟨by decide +kernel, rfl⟩
theorem dX8_brings_4 : jm_d cX8_brings 4 (.iload_n 1) 1 5 := ⟨by decide +kernel, rfl⟩
theorem dX8_brings_5 : jm_d cX8_brings 5 (.bipush 8) 2 7 := ⟨by decide +kernel, rfl⟩
theorem dX8_brings_7 : jm_b cX8_brings 7 (.if_icmp .lt) 10 17 := ⟨10, by decide +kernel, rfl, by decide⟩
theorem dX8_brings_17 : jm_d cX8_brings 17 (.iload_n 2) 1 18 := ⟨by decide +kernel, rfl⟩
theorem dX8_brings_18 : jm_b cX8_brings 18 (.ifCond .lt) 21 26 := ⟨8, by decide +kernel, rfl, by decide⟩
theorem dX8_brings_26 : jm_d cX8_brings 26 (.aload_n 0) 1 27 := ⟨by decide +kernel, rfl⟩
theorem dX8_brings_27 : jm_d cX8_brings 27 (.bipush (-4)) 2 29 := ⟨by decide +kernel, rfl⟩
theorem dX8_brings_29 : jm_d cX8_brings 29 (.invokevirtual 64) 3 32 := ⟨by decide +kernel, rfl⟩
theorem dX8_brings_32 : jm_d cX8_brings 32 (.ireturn) 1 33 := ⟨by decide +kernel, rfl⟩
theorem dX8_brings_21 : jm_d cX8_brings 21 (.iload 4) 2 23 := ⟨by decide +kernel, rfl⟩
theorem dX8_brings_23 : jm_b cX8_brings 23 (.ifCond .ge) 26 33 := ⟨10, by decide +kernel, rfl, by decide⟩
theorem dX8_brings_33 : jm_d cX8_brings 33 (.iload_n 2) 1 34 := ⟨by decide +kernel, rfl⟩
theorem dX8_brings_34 : jm_d cX8_brings 34 (.bipush 9) 2 36 := ⟨by decide +kernel, rfl⟩
theorem dX8_brings_36 : jm_b cX8_brings 36 (.if_icmp .gt) 39 58 := ⟨22, by decide +kernel, rfl, by decide⟩
theorem dX8_brings_58 : jm_d cX8_brings 58 (.aload_n 0) 1 59 := ⟨by decide +kernel, rfl⟩
theorem dX8_brings_59 : jm_d cX8_brings 59 (.bipush (-6)) 2 61 := ⟨by decide +kernel, rfl⟩
theorem dX8_brings_61 : jm_d cX8_brings 61 (.invokevirtual 64) 3 64 := ⟨by decide +kernel, rfl⟩
theorem dX8_brings_64 : jm_d cX8_brings 64 (.ireturn) 1 65 := ⟨by decide +kernel, rfl⟩
theorem dX8_brings_39 : jm_d cX8_brings 39 (.iload 4) 2 41 := ⟨by decide +kernel, rfl⟩
theorem dX8_brings_41 : jm_d cX8_brings 41 (.bipush 25) 2 43 := ⟨by decide +kernel, rfl⟩
theorem dX8_brings_43 : jm_b cX8_brings 43 (.if_icmp .gt) 46 58 := ⟨15, by decide +kernel, rfl, by decide⟩
theorem dX8_brings_46 : jm_d cX8_brings 46 (.aload_n 0) 1 47 := ⟨by decide +kernel, rfl⟩
theorem dX8_brings_47 : jm_d cX8_brings 47 (.getfield 10) 3 50 := ⟨by decide +kernel, rfl⟩
theorem dX8_brings_50 : jm_d cX8_brings 50 (.getfield 89) 3 53 := ⟨by decide +kernel, rfl⟩
theorem dX8_brings_53 : jm_d cX8_brings 53 (.bipush 10) 2 55 := ⟨by decide +kernel, rfl⟩
theorem dX8_brings_55 : jm_b cX8_brings 55 (.if_icmp .lt) 58 65 := ⟨10, by decide +kernel, rfl, by decide⟩
theorem dX8_brings_65 : jm_d cX8_brings 65 (.aload_n 0) 1 66 := ⟨by decide +kernel, rfl⟩
theorem dX8_brings_66 : jm_d cX8_brings 66 (.getfield 10) 3 69 := ⟨by decide +kernel, rfl⟩
theorem dX8_brings_69 : jm_d cX8_brings 69 (.iload_n 3) 1 70 := ⟨by decide +kernel, rfl⟩
theorem dX8_brings_70 : jm_d cX8_brings 70 (.invokevirtual 92) 3 73 := ⟨by decide +kernel, rfl⟩
theorem dX8_brings_73 : jm_b cX8_brings 73 (.ifCond .ne) 76 82 := ⟨9, by decide +kernel, rfl, by decide⟩
theorem dX8_brings_76 : jm_d cX8_brings 76 (.aload_n 0) 1 77 := ⟨by decide +kernel, rfl⟩
theorem dX8_brings_77 : jm_d cX8_brings 77 (.iconst (-1)) 1 78 := ⟨by decide +kernel, rfl⟩
theorem dX8_brings_78 : jm_d cX8_brings 78 (.invokevirtual 64) 3 81 := ⟨by decide +kernel, rfl⟩
theorem dX8_brings_81 : jm_d cX8_brings 81 (.ireturn) 1 82 := ⟨by decide +kernel, rfl⟩
theorem dX8_brings_82 : jm_d cX8_brings 82 (.iload 4) 2 84 := ⟨by decide +kernel, rfl⟩
theorem dX8_brings_84 : jm_d cX8_brings 84 (.invokestatic 96) 3 87 := ⟨by decide +kernel, rfl⟩
theorem dX8_brings_87 : jm_d cX8_brings 87 (.istore 5) 2 89 := ⟨by decide +kernel, rfl⟩
theorem dX8_brings_89 : jm_d cX8_brings 89 (.aload_n 0) 1 90 := ⟨by decide +kernel, rfl⟩
theorem dX8_brings_90 : jm_d cX8_brings 90 (.getfield 10) 3 93 := ⟨by decide +kernel, rfl⟩
theorem dX8_brings_93 : jm_d cX8_brings 93 (.iload 5) 2 95 := ⟨by decide +kernel, rfl⟩
theorem dX8_brings_95 : jm_d cX8_brings 95 (.invokevirtual 101) 3 98 := ⟨by decide +kernel, rfl⟩
theorem dX8_brings_98 : jm_b cX8_brings 98 (.ifCond .lt) 101 108 := ⟨10, by decide +kernel, rfl, by decide⟩
theorem dX8_brings_108 : jm_d cX8_brings 108 (.aload_n 0) 1 109 := ⟨by decide +kernel, rfl⟩
theorem dX8_brings_109 : jm_d cX8_brings 109 (.getfield 19) 3 112 := ⟨by decide +kernel, rfl⟩
theorem dX8_brings_112 : jm_d cX8_brings 112 (.invokevirtual 79) 3 115 := ⟨by decide +kernel, rfl⟩
theorem dX8_brings_115 : jm_d cX8_brings 115 (.aload_n 0) 1 116 := ⟨by decide +kernel, rfl⟩
theorem dX8_brings_116 : jm_d cX8_brings 116 (.getfield 10) 3 119 := ⟨by decide +kernel, rfl⟩
theorem dX8_brings_119 : jm_d cX8_brings 119 (.iload_n 1) 1 120 := ⟨by decide +kernel, rfl⟩
theorem dX8_brings_120 : jm_d cX8_brings 120 (.iload_n 2) 1 121 := ⟨by decide +kernel, rfl⟩
theorem dX8_brings_121 : jm_d cX8_brings 121 (.iload_n 3) 1 122 := ⟨by decide +kernel, rfl⟩
theorem dX8_brings_122 : jm_d cX8_brings 122 (.iload 5) 2 124 := ⟨by decide +kernel, rfl⟩
theorem dX8_brings_124 : jm_d cX8_brings 124 (.invokevirtual 104) 3 127 := ⟨by decide +kernel, rfl⟩
theorem dX8_brings_127 : jm_d cX8_brings 127 (.ireturn) 1 128 := ⟨by decide +kernel, rfl⟩
theorem dX8_brings_101 : jm_d cX8_brings 101 (.aload_n 0) 1 102 := ⟨by decide +kernel, rfl⟩
theorem dX8_brings_102 : jm_d cX8_brings 102 (.bipush (-3)) 2 104 := ⟨by decide +kernel, rfl⟩
theorem dX8_brings_104 : jm_d cX8_brings 104 (.invokevirtual 64) 3 107 := ⟨by decide +kernel, rfl⟩
theorem dX8_brings_107 : jm_d cX8_brings 107 (.ireturn) 1 108 := ⟨by decide +kernel, rfl⟩
set_option maxHeartbeats 4000000 in
set_option maxRecDepth 100000 in
theorem kW_brings (E : jm_Ev) (hE : jm_dj E jm_LC) {M : jm_M} {p1 : Int32} {p2 : Int32} {p3 : Int32} {p4 : Int32}  {r : Int32 × jm_M} (h : sW_brings M p1 p2 p3 p4 = some r) : jm_Ct E jm_LC yX8_brings cX8_brings 6 (some .int) 2 44 [.ref (jm_a E 0 0), .int p1, .int p2, .int p3, .int p4] M (some (.int r.1)) r.2 := by
  refine jm_enter (lv := [some (.ref (jm_a E 0 0)), some (.int p1), some (.int p2), some (.int p3), some (.int p4), none]) hE (by decide) (Nat.le_of_ble_eq_true rfl) rfl ?_
  intro z w F hz
  have G : jm_G w 0 [some (.ref (jm_a E 0 0)), some (.int p1), some (.int p2), some (.int p3), some (.int p4), none] [] M (sW_brings M p1 p2 p3 p4) (fun e => z (some (.int e.1)) e.2) := by
    unfold sW_brings
    refine jm_iload_n (i := 1) F dX8_brings_0 rfl rfl ?_
    refine jm_if_lt F dX8_brings_1 (fun c1 => ?_) (fun c1 => ?_)
    · refine jm_aload_n (i := 0) F dX8_brings_10 rfl rfl ?_
      refine jm_bipush F dX8_brings_11 kb_m2 ?_
      refine jm_callV (As := [.int (-2)]) (st := []) (rv := fun r => some (.int r.1)) (mm := fun r => r.2) F dX8_brings_13 qX8_64 rfl lo_X8 rfl (fun r h => kW_refuse E hE h) rfl (Nat.le_of_ble_eq_true rfl) ⟨Nat.le_of_ble_eq_true rfl, Nat.le_of_ble_eq_true rfl⟩ (fun r2 => ?_)
      exact jm_iret F dX8_brings_16 (fun h => h)
    · refine jm_iload_n (i := 1) F dX8_brings_4 rfl rfl ?_
      refine jm_bipush F dX8_brings_5 kb_8 ?_
      refine jm_icmp_lt F dX8_brings_7 (fun c3 => ?_) (fun c3 => ?_)
      · refine jm_iload_n (i := 2) F dX8_brings_17 rfl rfl ?_
        refine jm_if_lt F dX8_brings_18 (fun c4 => ?_) (fun c4 => ?_)
        · refine jm_aload_n (i := 0) F dX8_brings_26 rfl rfl ?_
          refine jm_bipush F dX8_brings_27 kb_m4 ?_
          refine jm_callV (As := [.int (-4)]) (st := []) (rv := fun r => some (.int r.1)) (mm := fun r => r.2) F dX8_brings_29 qX8_64 rfl lo_X8 rfl (fun r h => kW_refuse E hE h) rfl (Nat.le_of_ble_eq_true rfl) ⟨Nat.le_of_ble_eq_true rfl, Nat.le_of_ble_eq_true rfl⟩ (fun r5 => ?_)
          exact jm_iret F dX8_brings_32 (fun h => h)
        · refine jm_iload F dX8_brings_21 rfl ?_
          refine jm_if_ge F dX8_brings_23 (fun c6 => ?_) (fun c6 => ?_)
          · refine jm_iload_n (i := 2) F dX8_brings_33 rfl rfl ?_
            refine jm_bipush F dX8_brings_34 kb_9 ?_
            refine jm_icmp_gt F dX8_brings_36 (fun c7 => ?_) (fun c7 => ?_)
            · refine jm_aload_n (i := 0) F dX8_brings_58 rfl rfl ?_
              refine jm_bipush F dX8_brings_59 kb_m6 ?_
              refine jm_callV (As := [.int (-6)]) (st := []) (rv := fun r => some (.int r.1)) (mm := fun r => r.2) F dX8_brings_61 qX8_64 rfl lo_X8 rfl (fun r h => kW_refuse E hE h) rfl (Nat.le_of_ble_eq_true rfl) ⟨Nat.le_of_ble_eq_true rfl, Nat.le_of_ble_eq_true rfl⟩ (fun r8 => ?_)
              exact jm_iret F dX8_brings_64 (fun h => h)
            · refine jm_iload F dX8_brings_39 rfl ?_
              refine jm_bipush F dX8_brings_41 kb_25 ?_
              refine jm_icmp_gt F dX8_brings_43 (fun c9 => ?_) (fun c9 => ?_)
              · refine jm_aload_n (i := 0) F dX8_brings_58 rfl rfl ?_
                refine jm_bipush F dX8_brings_59 kb_m6 ?_
                refine jm_callV (As := [.int (-6)]) (st := []) (rv := fun r => some (.int r.1)) (mm := fun r => r.2) F dX8_brings_61 qX8_64 rfl lo_X8 rfl (fun r h => kW_refuse E hE h) rfl (Nat.le_of_ble_eq_true rfl) ⟨Nat.le_of_ble_eq_true rfl, Nat.le_of_ble_eq_true rfl⟩ (fun r10 => ?_)
                exact jm_iret F dX8_brings_64 (fun h => h)
              · refine jm_aload_n (i := 0) F dX8_brings_46 rfl rfl ?_
                refine jm_getR F dX8_brings_47 fl_X8_10 lo_X8 rfl ?_
                refine jm_getI F dX8_brings_50 fl_X8_89 (lo_T isT_1) rfl ?_
                refine jm_bipush F dX8_brings_53 kb_10 ?_
                refine jm_icmp_lt F dX8_brings_55 (fun c11 => ?_) (fun c11 => ?_)
                · refine jm_aload_n (i := 0) F dX8_brings_65 rfl rfl ?_
                  refine jm_getR F dX8_brings_66 fl_X8_10 lo_X8 rfl ?_
                  refine jm_iload_n (i := 3) F dX8_brings_69 rfl rfl ?_
                  refine jm_callV (As := [.int p3]) (st := []) (rv := fun r => some (.int r)) (mm := fun _ => M) F dX8_brings_70 qX8_92 rfl (lo_T isT_1) rfl (fun r h => kT_hasKeeper E hE isT_1 h) rfl (Nat.le_of_ble_eq_true rfl) ⟨Nat.le_of_ble_eq_true rfl, Nat.le_of_ble_eq_true rfl⟩ (fun r12 => ?_)
                  refine jm_if_ne F dX8_brings_73 (fun c13 => ?_) (fun c13 => ?_)
                  · refine jm_aload_n (i := 0) F dX8_brings_76 rfl rfl ?_
                    refine jm_iconst F dX8_brings_77 kc_m1 ?_
                    refine jm_callV (As := [.int (-1)]) (st := []) (rv := fun r => some (.int r.1)) (mm := fun r => r.2) F dX8_brings_78 qX8_64 rfl lo_X8 rfl (fun r h => kW_refuse E hE h) rfl (Nat.le_of_ble_eq_true rfl) ⟨Nat.le_of_ble_eq_true rfl, Nat.le_of_ble_eq_true rfl⟩ (fun r14 => ?_)
                    exact jm_iret F dX8_brings_81 (fun h => h)
                  · refine jm_iload F dX8_brings_82 rfl ?_
                    refine jm_callS (As := [.int p4]) (st := []) (rv := fun r => some (.int r)) (mm := fun _ => M) F dX8_brings_84 qX8_96 rfl (fun r h => kI_ofLetter E hE h) rfl (Nat.le_of_ble_eq_true rfl) ⟨Nat.le_of_ble_eq_true rfl, Nat.le_of_ble_eq_true rfl⟩ (fun r15 => ?_)
                    refine jm_istore (i := 5) (lv' := [some (.ref (jm_a E 0 0)), some (.int p1), some (.int p2), some (.int p3), some (.int p4), some (.int r15)]) F dX8_brings_87 (by decide) rfl rfl ?_
                    refine jm_aload_n (i := 0) F dX8_brings_89 rfl rfl ?_
                    refine jm_getR F dX8_brings_90 fl_X8_10 lo_X8 rfl ?_
                    refine jm_iload F dX8_brings_93 rfl ?_
                    refine jm_callV (As := [.int r15]) (st := []) (rv := fun r => some (.int r)) (mm := fun _ => M) F dX8_brings_95 qX8_101 rfl (lo_T isT_1) rfl (fun r h => kT_bookWithTitle E hE isT_1 h) rfl (Nat.le_of_ble_eq_true rfl) ⟨Nat.le_of_ble_eq_true rfl, Nat.le_of_ble_eq_true rfl⟩ (fun r16 => ?_)
                    refine jm_if_lt F dX8_brings_98 (fun c17 => ?_) (fun c17 => ?_)
                    · refine jm_aload_n (i := 0) F dX8_brings_108 rfl rfl ?_
                      refine jm_getR F dX8_brings_109 fl_X8_19 lo_X8 rfl ?_
                      refine jm_callV (As := []) (st := []) (rv := fun _ => none) (mm := fun r => r) F dX8_brings_112 qX8_79 rfl lo_X4 rfl (fun r h => kP_forget E hE h) rfl (Nat.le_of_ble_eq_true rfl) ⟨Nat.le_of_ble_eq_true rfl, Nat.le_of_ble_eq_true rfl⟩ (fun r18 => ?_)
                      refine jm_aload_n (i := 0) F dX8_brings_115 rfl rfl ?_
                      refine jm_getR F dX8_brings_116 fl_X8_10 lo_X8 rfl ?_
                      refine jm_iload_n (i := 1) F dX8_brings_119 rfl rfl ?_
                      refine jm_iload_n (i := 2) F dX8_brings_120 rfl rfl ?_
                      refine jm_iload_n (i := 3) F dX8_brings_121 rfl rfl ?_
                      refine jm_iload F dX8_brings_122 rfl ?_
                      refine jm_callV (As := [.int p1, .int p2, .int p3, .int r15]) (st := []) (rv := fun r => some (.int r.1)) (mm := fun r => r.2) F dX8_brings_124 qX8_104 rfl (lo_T isT_1) rfl (fun r h => kT_addBook E hE isT_1 h) rfl (Nat.le_of_ble_eq_true rfl) ⟨Nat.le_of_ble_eq_true rfl, Nat.le_of_ble_eq_true rfl⟩ (fun r19 => ?_)
                      exact jm_iret F dX8_brings_127 (fun h => h)
                    · refine jm_aload_n (i := 0) F dX8_brings_101 rfl rfl ?_
                      refine jm_bipush F dX8_brings_102 kb_m3 ?_
                      refine jm_callV (As := [.int (-3)]) (st := []) (rv := fun r => some (.int r.1)) (mm := fun r => r.2) F dX8_brings_104 qX8_64 rfl lo_X8 rfl (fun r h => kW_refuse E hE h) rfl (Nat.le_of_ble_eq_true rfl) ⟨Nat.le_of_ble_eq_true rfl, Nat.le_of_ble_eq_true rfl⟩ (fun r20 => ?_)
                      exact jm_iret F dX8_brings_107 (fun h => h)
                · refine jm_aload_n (i := 0) F dX8_brings_58 rfl rfl ?_
                  refine jm_bipush F dX8_brings_59 kb_m6 ?_
                  refine jm_callV (As := [.int (-6)]) (st := []) (rv := fun r => some (.int r.1)) (mm := fun r => r.2) F dX8_brings_61 qX8_64 rfl lo_X8 rfl (fun r h => kW_refuse E hE h) rfl (Nat.le_of_ble_eq_true rfl) ⟨Nat.le_of_ble_eq_true rfl, Nat.le_of_ble_eq_true rfl⟩ (fun r21 => ?_)
                  exact jm_iret F dX8_brings_64 (fun h => h)
          · refine jm_aload_n (i := 0) F dX8_brings_26 rfl rfl ?_
            refine jm_bipush F dX8_brings_27 kb_m4 ?_
            refine jm_callV (As := [.int (-4)]) (st := []) (rv := fun r => some (.int r.1)) (mm := fun r => r.2) F dX8_brings_29 qX8_64 rfl lo_X8 rfl (fun r h => kW_refuse E hE h) rfl (Nat.le_of_ble_eq_true rfl) ⟨Nat.le_of_ble_eq_true rfl, Nat.le_of_ble_eq_true rfl⟩ (fun r22 => ?_)
            exact jm_iret F dX8_brings_32 (fun h => h)
      · refine jm_aload_n (i := 0) F dX8_brings_10 rfl rfl ?_
        refine jm_bipush F dX8_brings_11 kb_m2 ?_
        refine jm_callV (As := [.int (-2)]) (st := []) (rv := fun r => some (.int r.1)) (mm := fun r => r.2) F dX8_brings_13 qX8_64 rfl lo_X8 rfl (fun r h => kW_refuse E hE h) rfl (Nat.le_of_ble_eq_true rfl) ⟨Nat.le_of_ble_eq_true rfl, Nat.le_of_ble_eq_true rfl⟩ (fun r23 => ?_)
        exact jm_iret F dX8_brings_16 (fun h => h)
  exact G r h hz
theorem dX7_booksReadBy_0 : jm_d cX7_booksReadBy 0 (.iconst 0) 1 1 := ⟨by decide +kernel, rfl⟩
theorem dX7_booksReadBy_1 : jm_d cX7_booksReadBy 1 (.istore_n 2) 1 2 := ⟨by decide +kernel, rfl⟩
theorem dX7_booksReadBy_2 : jm_d cX7_booksReadBy 2 (.iconst 0) 1 3 := ⟨by decide +kernel, rfl⟩
theorem dX7_booksReadBy_3 : jm_d cX7_booksReadBy 3 (.istore_n 3) 1 4 := ⟨by decide +kernel, rfl⟩
theorem dX7_booksReadBy_4 : jm_d cX7_booksReadBy 4 (.iload_n 3) 1 5 := ⟨by decide +kernel, rfl⟩
theorem dX7_booksReadBy_5 : jm_d cX7_booksReadBy 5 (.aload_n 0) 1 6 := ⟨by decide +kernel, rfl⟩
theorem dX7_booksReadBy_6 : jm_d cX7_booksReadBy 6 (.getfield 55) 3 9 := ⟨by decide +kernel, rfl⟩
theorem dX7_booksReadBy_9 : jm_b cX7_booksReadBy 9 (.if_icmp .ge) 12 29 := ⟨20, by decide +kernel, rfl, by decide⟩
theorem dX7_booksReadBy_12 : jm_d cX7_booksReadBy 12 (.iload_n 2) 1 13 := ⟨by decide +kernel, rfl⟩
theorem dX7_booksReadBy_13 : jm_d cX7_booksReadBy 13 (.aload_n 0) 1 14 := ⟨by decide +kernel, rfl⟩
theorem dX7_booksReadBy_14 : jm_d cX7_booksReadBy 14 (.iload_n 1) 1 15 := ⟨by decide +kernel, rfl⟩
theorem dX7_booksReadBy_15 : jm_d cX7_booksReadBy 15 (.iload_n 3) 1 16 := ⟨by decide +kernel, rfl⟩
theorem dX7_booksReadBy_16 : jm_d cX7_booksReadBy 16 (.invokevirtual 85) 3 19 := ⟨by decide +kernel, rfl⟩
theorem dX7_booksReadBy_19 : jm_d cX7_booksReadBy 19 (.iload_n 3) 1 20 := ⟨by decide +kernel, rfl⟩
theorem dX7_booksReadBy_20 : jm_d cX7_booksReadBy 20 (.ishl) 1 21 := ⟨by decide +kernel, rfl⟩
theorem dX7_booksReadBy_21 : jm_d cX7_booksReadBy 21 (.ior) 1 22 := ⟨by decide +kernel, rfl⟩
theorem dX7_booksReadBy_22 : jm_d cX7_booksReadBy 22 (.istore_n 2) 1 23 := ⟨by decide +kernel, rfl⟩
theorem dX7_booksReadBy_23 : jm_d cX7_booksReadBy 23 (.iinc 3 1) 3 26 := ⟨by decide +kernel, rfl⟩
theorem dX7_booksReadBy_26 : jm_b cX7_booksReadBy 26 .goto 29 4 := ⟨(-22), by decide +kernel, rfl, by decide⟩
theorem dX7_booksReadBy_29 : jm_d cX7_booksReadBy 29 (.iload_n 2) 1 30 := ⟨by decide +kernel, rfl⟩
theorem dX7_booksReadBy_30 : jm_d cX7_booksReadBy 30 (.ireturn) 1 31 := ⟨by decide +kernel, rfl⟩
set_option maxHeartbeats 4000000 in
set_option maxRecDepth 100000 in
theorem kT_booksReadBy (E : jm_Ev) (hE : jm_dj E jm_LC) {M : jm_M} {t : Nat} {p1 : Int32} (ht : jm_isT t) {r : Int32} (h : sT_booksReadBy M t p1 = some r) : jm_Ct E jm_LC yX7_booksReadBy cX7_booksReadBy 4 (some .int) 1 22 [.ref (jm_a E t 0), .int p1] M (some (.int r)) M := by
  refine jm_enter (lv := [some (.ref (jm_a E t 0)), some (.int p1), none, none]) hE (by decide) (Nat.le_of_ble_eq_true rfl) rfl ?_
  intro z w F hz
  have G : jm_G w 0 [some (.ref (jm_a E t 0)), some (.int p1), none, none] [] M (sT_booksReadBy M t p1) (fun e => z (some (.int e)) M) := by
    unfold sT_booksReadBy
    refine jm_iconst F dX7_booksReadBy_0 kc_0 ?_
    refine jm_istore_n (i := 2) (lv' := [some (.ref (jm_a E t 0)), some (.int p1), some (.int 0), none]) F dX7_booksReadBy_1 rfl (by decide) rfl rfl ?_
    refine jm_iconst F dX7_booksReadBy_2 kc_0 ?_
    refine jm_istore_n (i := 3) (lv' := [some (.ref (jm_a E t 0)), some (.int p1), some (.int 0), some (.int 0)]) F dX7_booksReadBy_3 rfl (by decide) rfl rfl ?_
    refine jm_bind (pcJ := 29) (lvJ := fun e5 => [none, none, some (.int e5), none]) (stJ := fun _ => []) (MJ := fun e5 => M) ?_ (fun e5 => ?_)
    · refine jm_weak F (lv' := [some (.ref (jm_a E t 0)), some (.int p1), some (.int 0), some (.int 0)]) ⟨rfl, rfl, rfl, rfl, trivial⟩ ?_
      refine jm_loopR (lvH := fun s1 => [some (.ref (jm_a E t 0)), some (.int p1), some (.int s1.1), some (.int s1.2)]) (MH := fun s1 => M) (fun s1 => ?_) jm_N (0, 0)
      unfold sT_booksReadBy_L4
      refine jm_iload_n (i := 3) F dX7_booksReadBy_4 rfl rfl ?_
      refine jm_aload_n (i := 0) F dX7_booksReadBy_5 rfl rfl ?_
      refine jm_getI F dX7_booksReadBy_6 fl_X7_55 (lo_T ht) rfl ?_
      refine jm_icmp_ge F dX7_booksReadBy_9 (fun c2 => ?_) (fun c2 => ?_)
      · exact jm_weakD F (lv' := [none, none, some (.int s1.1), none]) ⟨rfl, trivial⟩ (fun h => h)
      · refine jm_iload_n (i := 2) F dX7_booksReadBy_12 rfl rfl ?_
        refine jm_aload_n (i := 0) F dX7_booksReadBy_13 rfl rfl ?_
        refine jm_iload_n (i := 1) F dX7_booksReadBy_14 rfl rfl ?_
        refine jm_iload_n (i := 3) F dX7_booksReadBy_15 rfl rfl ?_
        refine jm_callV (As := [.int p1, .int s1.2]) (st := [.int s1.1]) (rv := fun r => some (.int r)) (mm := fun _ => M) F dX7_booksReadBy_16 qX7_85 rfl (lo_T ht) rfl (fun r h => kT_hasRead E hE ht h) rfl (Nat.le_of_ble_eq_true rfl) ⟨Nat.le_of_ble_eq_true rfl, Nat.le_of_ble_eq_true rfl⟩ (fun r3 => ?_)
        refine jm_iload_n (i := 3) F dX7_booksReadBy_19 rfl rfl ?_
        refine jm_ishl F dX7_booksReadBy_20 ?_
        refine jm_ior F dX7_booksReadBy_21 ?_
        refine jm_nameI (f := fun x4 => [.int x4]) (fun x4 => ?_) rfl
        refine jm_istore_n (i := 2) (lv' := [some (.ref (jm_a E t 0)), some (.int p1), some (.int x4), some (.int s1.2)]) F dX7_booksReadBy_22 rfl (by decide) rfl rfl ?_
        refine jm_iinc (i := 3) (lv' := [some (.ref (jm_a E t 0)), some (.int p1), some (.int x4), some (.int (s1.2 + 1))]) F dX7_booksReadBy_23 kc_1 rfl (by decide) rfl rfl ?_
        refine jm_goto F dX7_booksReadBy_26 ?_
        exact jm_weakD F (lv' := [some (.ref (jm_a E t 0)), some (.int p1), some (.int x4), some (.int (s1.2 + 1))]) ⟨rfl, rfl, rfl, rfl, trivial⟩ (fun h => h)
    · refine jm_iload_n (i := 2) F dX7_booksReadBy_29 rfl rfl ?_
      exact jm_iret F dX7_booksReadBy_30 (fun h => h)
  exact G r h hz
theorem dX7_readingsOf_0 : jm_d cX7_readingsOf 0 (.aload_n 0) 1 1 := ⟨by decide +kernel, rfl⟩
theorem dX7_readingsOf_1 : jm_d cX7_readingsOf 1 (.iload_n 1) 1 2 := ⟨by decide +kernel, rfl⟩
theorem dX7_readingsOf_2 : jm_d cX7_readingsOf 2 (.invokevirtual 123) 3 5 := ⟨by decide +kernel, rfl⟩
theorem dX7_readingsOf_5 : jm_d cX7_readingsOf 5 (.invokestatic 68) 3 8 := ⟨by decide +kernel, rfl⟩
theorem dX7_readingsOf_8 : jm_d cX7_readingsOf 8 (.ireturn) 1 9 := ⟨by decide +kernel, rfl⟩
set_option maxHeartbeats 4000000 in
set_option maxRecDepth 100000 in
theorem kT_readingsOf (E : jm_Ev) (hE : jm_dj E jm_LC) {M : jm_M} {t : Nat} {p1 : Int32} (ht : jm_isT t) {r : Int32} (h : sT_readingsOf M t p1 = some r) : jm_Ct E jm_LC yX7_readingsOf cX7_readingsOf 2 (some .int) 2 45 [.ref (jm_a E t 0), .int p1] M (some (.int r)) M := by
  refine jm_enter (lv := [some (.ref (jm_a E t 0)), some (.int p1)]) hE (by decide) (Nat.le_of_ble_eq_true rfl) rfl ?_
  intro z w F hz
  have G : jm_G w 0 [some (.ref (jm_a E t 0)), some (.int p1)] [] M (sT_readingsOf M t p1) (fun e => z (some (.int e)) M) := by
    unfold sT_readingsOf
    refine jm_aload_n (i := 0) F dX7_readingsOf_0 rfl rfl ?_
    refine jm_iload_n (i := 1) F dX7_readingsOf_1 rfl rfl ?_
    refine jm_callV (As := [.int p1]) (st := []) (rv := fun r => some (.int r)) (mm := fun _ => M) F dX7_readingsOf_2 qX7_123 rfl (lo_T ht) rfl (fun r h => kT_booksReadBy E hE ht h) rfl (Nat.le_of_ble_eq_true rfl) ⟨Nat.le_of_ble_eq_true rfl, Nat.le_of_ble_eq_true rfl⟩ (fun r1 => ?_)
    refine jm_callS (As := [.int r1]) (st := []) (rv := fun r => some (.int r)) (mm := fun _ => M) F dX7_readingsOf_5 qX7_68 rfl (fun r h => kJ_bitCount E hE h) rfl (Nat.le_of_ble_eq_true rfl) ⟨Nat.le_of_ble_eq_true rfl, Nat.le_of_ble_eq_true rfl⟩ (fun r2 => ?_)
    exact jm_iret F dX7_readingsOf_8 (fun h => h)
  exact G r h hz
theorem dX7_booksWith_0 : jm_d cX7_booksWith 0 (.iconst 0) 1 1 := ⟨by decide +kernel, rfl⟩
theorem dX7_booksWith_1 : jm_d cX7_booksWith 1 (.istore_n 3) 1 2 := ⟨by decide +kernel, rfl⟩
theorem dX7_booksWith_2 : jm_d cX7_booksWith 2 (.iconst 0) 1 3 := ⟨by decide +kernel, rfl⟩
theorem dX7_booksWith_3 : jm_d cX7_booksWith 3 (.istore 4) 2 5 := ⟨by decide +kernel, rfl⟩
theorem dX7_booksWith_5 : jm_d cX7_booksWith 5 (.iload 4) 2 7 := ⟨by decide +kernel, rfl⟩
theorem dX7_booksWith_7 : jm_d cX7_booksWith 7 (.aload_n 0) 1 8 := ⟨by decide +kernel, rfl⟩
theorem dX7_booksWith_8 : jm_d cX7_booksWith 8 (.getfield 55) 3 11 := ⟨by decide +kernel, rfl⟩
theorem dX7_booksWith_11 : jm_b cX7_booksWith 11 (.if_icmp .ge) 14 38 := ⟨27, by decide +kernel, rfl, by decide⟩
theorem dX7_booksWith_14 : jm_d cX7_booksWith 14 (.iload 4) 2 16 := ⟨by decide +kernel, rfl⟩
theorem dX7_booksWith_16 : jm_d cX7_booksWith 16 (.aload_n 1) 1 17 := ⟨by decide +kernel, rfl⟩
theorem dX7_booksWith_17 : jm_d cX7_booksWith 17 (.arraylength) 1 18 := ⟨by decide +kernel, rfl⟩
theorem dX7_booksWith_18 : jm_b cX7_booksWith 18 (.if_icmp .ge) 21 38 := ⟨20, by decide +kernel, rfl, by decide⟩
theorem dX7_booksWith_21 : jm_d cX7_booksWith 21 (.aload_n 1) 1 22 := ⟨by decide +kernel, rfl⟩
theorem dX7_booksWith_22 : jm_d cX7_booksWith 22 (.iload 4) 2 24 := ⟨by decide +kernel, rfl⟩
theorem dX7_booksWith_24 : jm_d cX7_booksWith 24 (.iaload) 1 25 := ⟨by decide +kernel, rfl⟩
theorem dX7_booksWith_25 : jm_d cX7_booksWith 25 (.iload_n 2) 1 26 := ⟨by decide +kernel, rfl⟩
theorem dX7_booksWith_26 : jm_b cX7_booksWith 26 (.if_icmp .ne) 29 32 := ⟨6, by decide +kernel, rfl, by decide⟩
theorem dX7_booksWith_29 : jm_d cX7_booksWith 29 (.iinc 3 1) 3 32 := ⟨by decide +kernel, rfl⟩
theorem dX7_booksWith_32 : jm_d cX7_booksWith 32 (.iinc 4 1) 3 35 := ⟨by decide +kernel, rfl⟩
theorem dX7_booksWith_35 : jm_b cX7_booksWith 35 .goto 38 5 := ⟨(-30), by decide +kernel, rfl, by decide⟩
theorem dX7_booksWith_38 : jm_d cX7_booksWith 38 (.iload_n 3) 1 39 := ⟨by decide +kernel, rfl⟩
theorem dX7_booksWith_39 : jm_d cX7_booksWith 39 (.ireturn) 1 40 := ⟨by decide +kernel, rfl⟩
set_option maxHeartbeats 4000000 in
set_option maxRecDepth 100000 in
theorem kT_booksWith (E : jm_Ev) (hE : jm_dj E jm_LC) {M : jm_M} {t : Nat} {p1 : Nat × Nat} {p2 : Int32} (ht : jm_isT t) {r : Int32} (h : sT_booksWith M t p1 p2 = some r) : jm_Ct E jm_LC yX7_booksWith cX7_booksWith 5 (some .int) 0 0 [.ref (jm_a E t 0), .ref (jm_a E p1.1 p1.2), .int p2] M (some (.int r)) M := by
  refine jm_enter (lv := [some (.ref (jm_a E t 0)), some (.ref (jm_a E p1.1 p1.2)), some (.int p2), none, none]) hE (by decide) (Nat.le_of_ble_eq_true rfl) rfl ?_
  intro z w F hz
  have G : jm_G w 0 [some (.ref (jm_a E t 0)), some (.ref (jm_a E p1.1 p1.2)), some (.int p2), none, none] [] M (sT_booksWith M t p1 p2) (fun e => z (some (.int e)) M) := by
    unfold sT_booksWith
    refine jm_iconst F dX7_booksWith_0 kc_0 ?_
    refine jm_istore_n (i := 3) (lv' := [some (.ref (jm_a E t 0)), some (.ref (jm_a E p1.1 p1.2)), some (.int p2), some (.int 0), none]) F dX7_booksWith_1 rfl (by decide) rfl rfl ?_
    refine jm_iconst F dX7_booksWith_2 kc_0 ?_
    refine jm_istore (i := 4) (lv' := [some (.ref (jm_a E t 0)), some (.ref (jm_a E p1.1 p1.2)), some (.int p2), some (.int 0), some (.int 0)]) F dX7_booksWith_3 (by decide) rfl rfl ?_
    refine jm_bind (pcJ := 38) (lvJ := fun e8 => [none, none, none, some (.int e8), none]) (stJ := fun _ => []) (MJ := fun e8 => M) ?_ (fun e8 => ?_)
    · refine jm_weak F (lv' := [some (.ref (jm_a E t 0)), some (.ref (jm_a E p1.1 p1.2)), some (.int p2), some (.int 0), some (.int 0)]) ⟨rfl, rfl, rfl, rfl, rfl, trivial⟩ ?_
      refine jm_loopR (lvH := fun s1 => [some (.ref (jm_a E t 0)), some (.ref (jm_a E p1.1 p1.2)), some (.int p2), some (.int s1.1), some (.int s1.2)]) (MH := fun s1 => M) (fun s1 => ?_) jm_N (0, 0)
      unfold sT_booksWith_L5
      refine jm_iload F dX7_booksWith_5 rfl ?_
      refine jm_aload_n (i := 0) F dX7_booksWith_7 rfl rfl ?_
      refine jm_getI F dX7_booksWith_8 fl_X7_55 (lo_T ht) rfl ?_
      refine jm_icmp_ge F dX7_booksWith_11 (fun c2 => ?_) (fun c2 => ?_)
      · exact jm_weakD F (lv' := [none, none, none, some (.int s1.1), none]) ⟨rfl, trivial⟩ (fun h => h)
      · refine jm_iload F dX7_booksWith_14 rfl ?_
        refine jm_aload_n (i := 1) F dX7_booksWith_16 rfl rfl ?_
        refine jm_lenB (r := p1) (fun N3 hN3 => ?_)
        refine jm_alen F dX7_booksWith_17 hN3 ?_
        refine jm_icmp_ge F dX7_booksWith_18 (fun c4 => ?_) (fun c4 => ?_)
        · exact jm_weakD F (lv' := [none, none, none, some (.int s1.1), none]) ⟨rfl, trivial⟩ (fun h => h)
        · refine jm_aload_n (i := 1) F dX7_booksWith_21 rfl rfl ?_
          refine jm_iload F dX7_booksWith_22 rfl ?_
          refine jm_lenB (r := p1) (fun N5 hN5 => ?_)
          refine jm_iald F dX7_booksWith_24 hN5 (fun v6 => ?_)
          refine jm_iload_n (i := 2) F dX7_booksWith_25 rfl rfl ?_
          refine jm_icmp_ne F dX7_booksWith_26 (fun c7 => ?_) (fun c7 => ?_)
          · refine jm_iinc (i := 3) (lv' := [some (.ref (jm_a E t 0)), some (.ref (jm_a E p1.1 p1.2)), some (.int p2), some (.int (s1.1 + 1)), some (.int s1.2)]) F dX7_booksWith_29 kc_1 rfl (by decide) rfl rfl ?_
            refine jm_iinc (i := 4) (lv' := [some (.ref (jm_a E t 0)), some (.ref (jm_a E p1.1 p1.2)), some (.int p2), some (.int (s1.1 + 1)), some (.int (s1.2 + 1))]) F dX7_booksWith_32 kc_1 rfl (by decide) rfl rfl ?_
            refine jm_goto F dX7_booksWith_35 ?_
            exact jm_weakD F (lv' := [some (.ref (jm_a E t 0)), some (.ref (jm_a E p1.1 p1.2)), some (.int p2), some (.int (s1.1 + 1)), some (.int (s1.2 + 1))]) ⟨rfl, rfl, rfl, rfl, rfl, trivial⟩ (fun h => h)
          · refine jm_iinc (i := 4) (lv' := [some (.ref (jm_a E t 0)), some (.ref (jm_a E p1.1 p1.2)), some (.int p2), some (.int s1.1), some (.int (s1.2 + 1))]) F dX7_booksWith_32 kc_1 rfl (by decide) rfl rfl ?_
            refine jm_goto F dX7_booksWith_35 ?_
            exact jm_weakD F (lv' := [some (.ref (jm_a E t 0)), some (.ref (jm_a E p1.1 p1.2)), some (.int p2), some (.int s1.1), some (.int (s1.2 + 1))]) ⟨rfl, rfl, rfl, rfl, rfl, trivial⟩ (fun h => h)
    · refine jm_iload_n (i := 3) F dX7_booksWith_38 rfl rfl ?_
      exact jm_iret F dX7_booksWith_39 (fun h => h)
  exact G r h hz
theorem dX8_person_0 : jm_d cX8_person 0 (.aload_n 0) 1 1 := ⟨by decide +kernel, rfl⟩
theorem dX8_person_1 : jm_d cX8_person 1 (.getfield 10) 3 4 := ⟨by decide +kernel, rfl⟩
theorem dX8_person_4 : jm_d cX8_person 4 (.iload_n 1) 1 5 := ⟨by decide +kernel, rfl⟩
theorem dX8_person_5 : jm_d cX8_person 5 (.invokevirtual 108) 3 8 := ⟨by decide +kernel, rfl⟩
theorem dX8_person_8 : jm_b cX8_person 8 (.ifCond .ne) 11 17 := ⟨9, by decide +kernel, rfl, by decide⟩
theorem dX8_person_11 : jm_d cX8_person 11 (.aload_n 0) 1 12 := ⟨by decide +kernel, rfl⟩
theorem dX8_person_12 : jm_d cX8_person 12 (.iconst (-1)) 1 13 := ⟨by decide +kernel, rfl⟩
theorem dX8_person_13 : jm_d cX8_person 13 (.invokevirtual 64) 3 16 := ⟨by decide +kernel, rfl⟩
theorem dX8_person_16 : jm_d cX8_person 16 (.ireturn) 1 17 := ⟨by decide +kernel, rfl⟩
theorem dX8_person_17 : jm_d cX8_person 17 (.iload_n 2) 1 18 := ⟨by decide +kernel, rfl⟩
theorem dX8_person_18 : decode cX8_person 18 = .ok (.tableswitch 109 0 5 #[38, 48, 58, 68, 77, 93], 38) := by decide +kernel
theorem dX8_person_56 : jm_d cX8_person 56 (.aload_n 0) 1 57 := ⟨by decide +kernel, rfl⟩
theorem dX8_person_57 : jm_d cX8_person 57 (.getfield 10) 3 60 := ⟨by decide +kernel, rfl⟩
theorem dX8_person_60 : jm_d cX8_person 60 (.getfield 111) 3 63 := ⟨by decide +kernel, rfl⟩
theorem dX8_person_63 : jm_d cX8_person 63 (.iload_n 1) 1 64 := ⟨by decide +kernel, rfl⟩
theorem dX8_person_64 : jm_d cX8_person 64 (.iaload) 1 65 := ⟨by decide +kernel, rfl⟩
theorem dX8_person_65 : jm_d cX8_person 65 (.ireturn) 1 66 := ⟨by decide +kernel, rfl⟩
theorem dX8_person_66 : jm_d cX8_person 66 (.aload_n 0) 1 67 := ⟨by decide +kernel, rfl⟩
theorem dX8_person_67 : jm_d cX8_person 67 (.getfield 10) 3 70 := ⟨by decide +kernel, rfl⟩
theorem dX8_person_70 : jm_d cX8_person 70 (.getfield 114) 3 73 := ⟨by decide +kernel, rfl⟩
theorem dX8_person_73 : jm_d cX8_person 73 (.iload_n 1) 1 74 := ⟨by decide +kernel, rfl⟩
theorem dX8_person_74 : jm_d cX8_person 74 (.iaload) 1 75 := ⟨by decide +kernel, rfl⟩
theorem dX8_person_75 : jm_d cX8_person 75 (.ireturn) 1 76 := ⟨by decide +kernel, rfl⟩
theorem dX8_person_76 : jm_d cX8_person 76 (.aload_n 0) 1 77 := ⟨by decide +kernel, rfl⟩
theorem dX8_person_77 : jm_d cX8_person 77 (.getfield 10) 3 80 := ⟨by decide +kernel, rfl⟩
theorem dX8_person_80 : jm_d cX8_person 80 (.getfield 117) 3 83 := ⟨by decide +kernel, rfl⟩
theorem dX8_person_83 : jm_d cX8_person 83 (.iload_n 1) 1 84 := ⟨by decide +kernel, rfl⟩
theorem dX8_person_84 : jm_d cX8_person 84 (.iaload) 1 85 := ⟨by decide +kernel, rfl⟩
theorem dX8_person_85 : jm_d cX8_person 85 (.ireturn) 1 86 := ⟨by decide +kernel, rfl⟩
theorem dX8_person_86 : jm_d cX8_person 86 (.aload_n 0) 1 87 := ⟨by decide +kernel, rfl⟩
theorem dX8_person_87 : jm_d cX8_person 87 (.getfield 10) 3 90 := ⟨by decide +kernel, rfl⟩
theorem dX8_person_90 : jm_d cX8_person 90 (.iload_n 1) 1 91 := ⟨by decide +kernel, rfl⟩
theorem dX8_person_91 : jm_d cX8_person 91 (.invokevirtual 120) 3 94 := ⟨by decide +kernel, rfl⟩
theorem dX8_person_94 : jm_d cX8_person 94 (.ireturn) 1 95 := ⟨by decide +kernel, rfl⟩
theorem dX8_person_95 : jm_d cX8_person 95 (.aload_n 0) 1 96 := ⟨by decide +kernel, rfl⟩
theorem dX8_person_96 : jm_d cX8_person 96 (.getfield 10) 3 99 := ⟨by decide +kernel, rfl⟩
theorem dX8_person_99 : jm_d cX8_person 99 (.aload_n 0) 1 100 := ⟨by decide +kernel, rfl⟩
theorem dX8_person_100 : jm_d cX8_person 100 (.getfield 10) 3 103 := ⟨by decide +kernel, rfl⟩
theorem dX8_person_103 : jm_d cX8_person 103 (.getfield 123) 3 106 := ⟨by decide +kernel, rfl⟩
theorem dX8_person_106 : jm_d cX8_person 106 (.iload_n 1) 1 107 := ⟨by decide +kernel, rfl⟩
theorem dX8_person_107 : jm_d cX8_person 107 (.invokevirtual 126) 3 110 := ⟨by decide +kernel, rfl⟩
theorem dX8_person_110 : jm_d cX8_person 110 (.ireturn) 1 111 := ⟨by decide +kernel, rfl⟩
theorem dX8_person_111 : jm_d cX8_person 111 (.aload_n 0) 1 112 := ⟨by decide +kernel, rfl⟩
theorem dX8_person_112 : jm_d cX8_person 112 (.getfield 10) 3 115 := ⟨by decide +kernel, rfl⟩
theorem dX8_person_115 : jm_d cX8_person 115 (.aload_n 0) 1 116 := ⟨by decide +kernel, rfl⟩
theorem dX8_person_116 : jm_d cX8_person 116 (.getfield 10) 3 119 := ⟨by decide +kernel, rfl⟩
theorem dX8_person_119 : jm_d cX8_person 119 (.getfield 130) 3 122 := ⟨by decide +kernel, rfl⟩
theorem dX8_person_122 : jm_d cX8_person 122 (.iload_n 1) 1 123 := ⟨by decide +kernel, rfl⟩
theorem dX8_person_123 : jm_d cX8_person 123 (.invokevirtual 126) 3 126 := ⟨by decide +kernel, rfl⟩
theorem dX8_person_126 : jm_d cX8_person 126 (.ireturn) 1 127 := ⟨by decide +kernel, rfl⟩
theorem dX8_person_127 : jm_d cX8_person 127 (.aload_n 0) 1 128 := ⟨by decide +kernel, rfl⟩
theorem dX8_person_128 : jm_d cX8_person 128 (.bipush (-2)) 2 130 := ⟨by decide +kernel, rfl⟩
theorem dX8_person_130 : jm_d cX8_person 130 (.invokevirtual 64) 3 133 := ⟨by decide +kernel, rfl⟩
theorem dX8_person_133 : jm_d cX8_person 133 (.ireturn) 1 134 := ⟨by decide +kernel, rfl⟩
set_option maxHeartbeats 4000000 in
set_option maxRecDepth 100000 in
theorem kW_person (E : jm_Ev) (hE : jm_dj E jm_LC) {M : jm_M} {p1 : Int32} {p2 : Int32}  {r : Int32 × jm_M} (h : sW_person M p1 p2 = some r) : jm_Ct E jm_LC yX8_person cX8_person 3 (some .int) 3 66 [.ref (jm_a E 0 0), .int p1, .int p2] M (some (.int r.1)) r.2 := by
  refine jm_enter (lv := [some (.ref (jm_a E 0 0)), some (.int p1), some (.int p2)]) hE (by decide) (Nat.le_of_ble_eq_true rfl) rfl ?_
  intro z w F hz
  have G : jm_G w 0 [some (.ref (jm_a E 0 0)), some (.int p1), some (.int p2)] [] M (sW_person M p1 p2) (fun e => z (some (.int e.1)) e.2) := by
    unfold sW_person
    refine jm_aload_n (i := 0) F dX8_person_0 rfl rfl ?_
    refine jm_getR F dX8_person_1 fl_X8_10 lo_X8 rfl ?_
    refine jm_iload_n (i := 1) F dX8_person_4 rfl rfl ?_
    refine jm_callV (As := [.int p1]) (st := []) (rv := fun r => some (.int r)) (mm := fun _ => M) F dX8_person_5 qX8_108 rfl (lo_T isT_1) rfl (fun r h => kT_hasPerson E hE isT_1 h) rfl (Nat.le_of_ble_eq_true rfl) ⟨Nat.le_of_ble_eq_true rfl, Nat.le_of_ble_eq_true rfl⟩ (fun r1 => ?_)
    refine jm_if_ne F dX8_person_8 (fun c2 => ?_) (fun c2 => ?_)
    · refine jm_aload_n (i := 0) F dX8_person_11 rfl rfl ?_
      refine jm_iconst F dX8_person_12 kc_m1 ?_
      refine jm_callV (As := [.int (-1)]) (st := []) (rv := fun r => some (.int r.1)) (mm := fun r => r.2) F dX8_person_13 qX8_64 rfl lo_X8 rfl (fun r h => kW_refuse E hE h) rfl (Nat.le_of_ble_eq_true rfl) ⟨Nat.le_of_ble_eq_true rfl, Nat.le_of_ble_eq_true rfl⟩ (fun r3 => ?_)
      exact jm_iret F dX8_person_16 (fun h => h)
    · refine jm_iload_n (i := 2) F dX8_person_17 rfl rfl ?_
      refine jm_ite (fun c4 => ?_) (fun c4 => ?_)
      · refine jm_tsw (tgt := 56) F dX8_person_18 c4 (by decide) (by decide) rfl (by decide) ?_
        refine jm_aload_n (i := 0) F dX8_person_56 rfl rfl ?_
        refine jm_getR F dX8_person_57 fl_X8_10 lo_X8 rfl ?_
        refine jm_getR F dX8_person_60 fl_X8_111 (lo_T isT_1) rfl ?_
        refine jm_iload_n (i := 1) F dX8_person_63 rfl rfl ?_
        refine jm_iald F dX8_person_64 (la_T_2 isT_1) (fun v5 => ?_)
        exact jm_iret F dX8_person_65 (fun h => h)
      · refine jm_ite (fun c6 => ?_) (fun c6 => ?_)
        · refine jm_tsw (tgt := 66) F dX8_person_18 c6 (by decide) (by decide) rfl (by decide) ?_
          refine jm_aload_n (i := 0) F dX8_person_66 rfl rfl ?_
          refine jm_getR F dX8_person_67 fl_X8_10 lo_X8 rfl ?_
          refine jm_getR F dX8_person_70 fl_X8_114 (lo_T isT_1) rfl ?_
          refine jm_iload_n (i := 1) F dX8_person_73 rfl rfl ?_
          refine jm_iald F dX8_person_74 (la_T_3 isT_1) (fun v7 => ?_)
          exact jm_iret F dX8_person_75 (fun h => h)
        · refine jm_ite (fun c8 => ?_) (fun c8 => ?_)
          · refine jm_tsw (tgt := 76) F dX8_person_18 c8 (by decide) (by decide) rfl (by decide) ?_
            refine jm_aload_n (i := 0) F dX8_person_76 rfl rfl ?_
            refine jm_getR F dX8_person_77 fl_X8_10 lo_X8 rfl ?_
            refine jm_getR F dX8_person_80 fl_X8_117 (lo_T isT_1) rfl ?_
            refine jm_iload_n (i := 1) F dX8_person_83 rfl rfl ?_
            refine jm_iald F dX8_person_84 (la_T_4 isT_1) (fun v9 => ?_)
            exact jm_iret F dX8_person_85 (fun h => h)
          · refine jm_ite (fun c10 => ?_) (fun c10 => ?_)
            · refine jm_tsw (tgt := 86) F dX8_person_18 c10 (by decide) (by decide) rfl (by decide) ?_
              refine jm_aload_n (i := 0) F dX8_person_86 rfl rfl ?_
              refine jm_getR F dX8_person_87 fl_X8_10 lo_X8 rfl ?_
              refine jm_iload_n (i := 1) F dX8_person_90 rfl rfl ?_
              refine jm_callV (As := [.int p1]) (st := []) (rv := fun r => some (.int r)) (mm := fun _ => M) F dX8_person_91 qX8_120 rfl (lo_T isT_1) rfl (fun r h => kT_readingsOf E hE isT_1 h) rfl (Nat.le_of_ble_eq_true rfl) ⟨Nat.le_of_ble_eq_true rfl, Nat.le_of_ble_eq_true rfl⟩ (fun r11 => ?_)
              exact jm_iret F dX8_person_94 (fun h => h)
            · refine jm_ite (fun c12 => ?_) (fun c12 => ?_)
              · refine jm_tsw (tgt := 95) F dX8_person_18 c12 (by decide) (by decide) rfl (by decide) ?_
                refine jm_aload_n (i := 0) F dX8_person_95 rfl rfl ?_
                refine jm_getR F dX8_person_96 fl_X8_10 lo_X8 rfl ?_
                refine jm_aload_n (i := 0) F dX8_person_99 rfl rfl ?_
                refine jm_getR F dX8_person_100 fl_X8_10 lo_X8 rfl ?_
                refine jm_getR F dX8_person_103 fl_X8_123 (lo_T isT_1) rfl ?_
                refine jm_iload_n (i := 1) F dX8_person_106 rfl rfl ?_
                refine jm_callV (As := [.ref (jm_a E 1 9), .int p1]) (st := []) (rv := fun r => some (.int r)) (mm := fun _ => M) F dX8_person_107 qX8_126 rfl (lo_T isT_1) rfl (fun r h => kT_booksWith E hE isT_1 h) rfl (Nat.le_of_ble_eq_true rfl) ⟨Nat.le_of_ble_eq_true rfl, Nat.le_of_ble_eq_true rfl⟩ (fun r13 => ?_)
                exact jm_iret F dX8_person_110 (fun h => h)
              · refine jm_ite (fun c14 => ?_) (fun c14 => ?_)
                · refine jm_tsw (tgt := 111) F dX8_person_18 c14 (by decide) (by decide) rfl (by decide) ?_
                  refine jm_aload_n (i := 0) F dX8_person_111 rfl rfl ?_
                  refine jm_getR F dX8_person_112 fl_X8_10 lo_X8 rfl ?_
                  refine jm_aload_n (i := 0) F dX8_person_115 rfl rfl ?_
                  refine jm_getR F dX8_person_116 fl_X8_10 lo_X8 rfl ?_
                  refine jm_getR F dX8_person_119 fl_X8_130 (lo_T isT_1) rfl ?_
                  refine jm_iload_n (i := 1) F dX8_person_122 rfl rfl ?_
                  refine jm_callV (As := [.ref (jm_a E 1 8), .int p1]) (st := []) (rv := fun r => some (.int r)) (mm := fun _ => M) F dX8_person_123 qX8_126 rfl (lo_T isT_1) rfl (fun r h => kT_booksWith E hE isT_1 h) rfl (Nat.le_of_ble_eq_true rfl) ⟨Nat.le_of_ble_eq_true rfl, Nat.le_of_ble_eq_true rfl⟩ (fun r15 => ?_)
                  exact jm_iret F dX8_person_126 (fun h => h)
                · refine jm_tsd (tgt := 127) F dX8_person_18 (by
                      have e0 := jm_ne c4 (a := 0) (by decide)
                      have e1 := jm_ne c6 (a := 1) (by decide)
                      have e2 := jm_ne c8 (a := 2) (by decide)
                      have e3 := jm_ne c10 (a := 3) (by decide)
                      have e4 := jm_ne c12 (a := 4) (by decide)
                      have e5 := jm_ne c14 (a := 5) (by decide)
                      omega) (by decide) ?_
                  refine jm_aload_n (i := 0) F dX8_person_127 rfl rfl ?_
                  refine jm_bipush F dX8_person_128 kb_m2 ?_
                  refine jm_callV (As := [.int (-2)]) (st := []) (rv := fun r => some (.int r.1)) (mm := fun r => r.2) F dX8_person_130 qX8_64 rfl lo_X8 rfl (fun r h => kW_refuse E hE h) rfl (Nat.le_of_ble_eq_true rfl) ⟨Nat.le_of_ble_eq_true rfl, Nat.le_of_ble_eq_true rfl⟩ (fun r16 => ?_)
                  exact jm_iret F dX8_person_133 (fun h => h)
  exact G r h hz
theorem dX6_lengthOf_0 : jm_d cX6_lengthOf 0 (.iconst 4) 1 1 := ⟨by decide +kernel, rfl⟩
theorem dX6_lengthOf_1 : jm_d cX6_lengthOf 1 (.istore_n 1) 1 2 := ⟨by decide +kernel, rfl⟩
theorem dX6_lengthOf_2 : jm_d cX6_lengthOf 2 (.iload_n 0) 1 3 := ⟨by decide +kernel, rfl⟩
theorem dX6_lengthOf_3 : jm_d cX6_lengthOf 3 (.istore_n 2) 1 4 := ⟨by decide +kernel, rfl⟩
theorem dX6_lengthOf_4 : jm_d cX6_lengthOf 4 (.iload_n 1) 1 5 := ⟨by decide +kernel, rfl⟩
theorem dX6_lengthOf_5 : jm_b cX6_lengthOf 5 (.ifCond .le) 8 26 := ⟨21, by decide +kernel, rfl, by decide⟩
theorem dX6_lengthOf_8 : jm_d cX6_lengthOf 8 (.iload_n 2) 1 9 := ⟨by decide +kernel, rfl⟩
theorem dX6_lengthOf_9 : jm_d cX6_lengthOf 9 (.bipush 27) 2 11 := ⟨by decide +kernel, rfl⟩
theorem dX6_lengthOf_11 : jm_d cX6_lengthOf 11 (.irem) 1 12 := ⟨by decide +kernel, rfl⟩
theorem dX6_lengthOf_12 : jm_b cX6_lengthOf 12 (.ifCond .ne) 15 26 := ⟨14, by decide +kernel, rfl, by decide⟩
theorem dX6_lengthOf_15 : jm_d cX6_lengthOf 15 (.iload_n 2) 1 16 := ⟨by decide +kernel, rfl⟩
theorem dX6_lengthOf_16 : jm_d cX6_lengthOf 16 (.bipush 27) 2 18 := ⟨by decide +kernel, rfl⟩
theorem dX6_lengthOf_18 : jm_d cX6_lengthOf 18 (.idiv) 1 19 := ⟨by decide +kernel, rfl⟩
theorem dX6_lengthOf_19 : jm_d cX6_lengthOf 19 (.istore_n 2) 1 20 := ⟨by decide +kernel, rfl⟩
theorem dX6_lengthOf_20 : jm_d cX6_lengthOf 20 (.iinc 1 (-1)) 3 23 := ⟨by decide +kernel, rfl⟩
theorem dX6_lengthOf_23 : jm_b cX6_lengthOf 23 .goto 26 4 := ⟨(-19), by decide +kernel, rfl, by decide⟩
theorem dX6_lengthOf_26 : jm_d cX6_lengthOf 26 (.iload_n 1) 1 27 := ⟨by decide +kernel, rfl⟩
theorem dX6_lengthOf_27 : jm_d cX6_lengthOf 27 (.ireturn) 1 28 := ⟨by decide +kernel, rfl⟩
set_option maxHeartbeats 4000000 in
set_option maxRecDepth 100000 in
theorem kI_lengthOf (E : jm_Ev) (hE : jm_dj E jm_LC) {p1 : Int32} {M : jm_M}  {r : Int32} (h : sI_lengthOf p1 = some r) : jm_Ct E jm_LC yX6_lengthOf cX6_lengthOf 3 (some .int) 0 0 [.int p1] M (some (.int r)) M := by
  refine jm_enter (lv := [some (.int p1), none, none]) hE (by decide) (Nat.le_of_ble_eq_true rfl) rfl ?_
  intro z w F hz
  have G : jm_G w 0 [some (.int p1), none, none] [] M (sI_lengthOf p1) (fun e => z (some (.int e)) M) := by
    unfold sI_lengthOf
    refine jm_iconst F dX6_lengthOf_0 kc_4 ?_
    refine jm_istore_n (i := 1) (lv' := [some (.int p1), some (.int 4), none]) F dX6_lengthOf_1 rfl (by decide) rfl rfl ?_
    refine jm_iload_n (i := 0) F dX6_lengthOf_2 rfl rfl ?_
    refine jm_istore_n (i := 2) (lv' := [some (.int p1), some (.int 4), some (.int p1)]) F dX6_lengthOf_3 rfl (by decide) rfl rfl ?_
    refine jm_bind (pcJ := 26) (lvJ := fun e6 => [none, some (.int e6), none]) (stJ := fun _ => []) (MJ := fun e6 => M) ?_ (fun e6 => ?_)
    · refine jm_weak F (lv' := [none, some (.int 4), some (.int p1)]) ⟨rfl, rfl, trivial⟩ ?_
      refine jm_loopR (lvH := fun s1 => [none, some (.int s1.1), some (.int s1.2)]) (MH := fun s1 => M) (fun s1 => ?_) jm_N (4, p1)
      unfold sI_lengthOf_L4
      refine jm_iload_n (i := 1) F dX6_lengthOf_4 rfl rfl ?_
      refine jm_if_le F dX6_lengthOf_5 (fun c2 => ?_) (fun c2 => ?_)
      · exact jm_weakD F (lv' := [none, some (.int s1.1), none]) ⟨rfl, trivial⟩ (fun h => h)
      · refine jm_iload_n (i := 2) F dX6_lengthOf_8 rfl rfl ?_
        refine jm_bipush F dX6_lengthOf_9 kb_27 ?_
        refine jm_irem F dX6_lengthOf_11 (fun v3 => ?_)
        refine jm_if_ne F dX6_lengthOf_12 (fun c4 => ?_) (fun c4 => ?_)
        · refine jm_iload_n (i := 2) F dX6_lengthOf_15 rfl rfl ?_
          refine jm_bipush F dX6_lengthOf_16 kb_27 ?_
          refine jm_idiv F dX6_lengthOf_18 (fun v5 => ?_)
          refine jm_istore_n (i := 2) (lv' := [none, some (.int s1.1), some (.int v5)]) F dX6_lengthOf_19 rfl (by decide) rfl rfl ?_
          refine jm_iinc (i := 1) (lv' := [none, some (.int (s1.1 + (-1))), some (.int v5)]) F dX6_lengthOf_20 kc_m1 rfl (by decide) rfl rfl ?_
          refine jm_goto F dX6_lengthOf_23 ?_
          exact jm_weakD F (lv' := [none, some (.int (s1.1 + (-1))), some (.int v5)]) ⟨rfl, rfl, trivial⟩ (fun h => h)
        · exact jm_weakD F (lv' := [none, some (.int s1.1), none]) ⟨rfl, trivial⟩ (fun h => h)
    · refine jm_iload_n (i := 1) F dX6_lengthOf_26 rfl rfl ?_
      exact jm_iret F dX6_lengthOf_27 (fun h => h)
  exact G r h hz
theorem dX7_weighs_0 : jm_d cX7_weighs 0 (.aload_n 0) 1 1 := ⟨by decide +kernel, rfl⟩
theorem dX7_weighs_1 : jm_d cX7_weighs 1 (.getfield 33) 3 4 := ⟨by decide +kernel, rfl⟩
theorem dX7_weighs_4 : jm_d cX7_weighs 4 (.iload_n 1) 1 5 := ⟨by decide +kernel, rfl⟩
theorem dX7_weighs_5 : jm_d cX7_weighs 5 (.iaload) 1 6 := ⟨by decide +kernel, rfl⟩
theorem dX7_weighs_6 : jm_d cX7_weighs 6 (.invokestatic 68) 3 9 := ⟨by decide +kernel, rfl⟩
theorem dX7_weighs_9 : jm_d cX7_weighs 9 (.istore_n 2) 1 10 := ⟨by decide +kernel, rfl⟩
theorem dX7_weighs_10 : jm_d cX7_weighs 10 (.iconst 2) 1 11 := ⟨by decide +kernel, rfl⟩
theorem dX7_weighs_11 : jm_d cX7_weighs 11 (.aload_n 0) 1 12 := ⟨by decide +kernel, rfl⟩
theorem dX7_weighs_12 : jm_d cX7_weighs 12 (.getfield 24) 3 15 := ⟨by decide +kernel, rfl⟩
theorem dX7_weighs_15 : jm_d cX7_weighs 15 (.iload_n 1) 1 16 := ⟨by decide +kernel, rfl⟩
theorem dX7_weighs_16 : jm_d cX7_weighs 16 (.iaload) 1 17 := ⟨by decide +kernel, rfl⟩
theorem dX7_weighs_17 : jm_d cX7_weighs 17 (.imul) 1 18 := ⟨by decide +kernel, rfl⟩
theorem dX7_weighs_18 : jm_d cX7_weighs 18 (.istore_n 3) 1 19 := ⟨by decide +kernel, rfl⟩
theorem dX7_weighs_19 : jm_d cX7_weighs 19 (.iload_n 2) 1 20 := ⟨by decide +kernel, rfl⟩
theorem dX7_weighs_20 : jm_b cX7_weighs 20 (.ifCond .ne) 23 27 := ⟨7, by decide +kernel, rfl, by decide⟩
theorem dX7_weighs_23 : jm_d cX7_weighs 23 (.iconst 0) 1 24 := ⟨by decide +kernel, rfl⟩
theorem dX7_weighs_24 : jm_b cX7_weighs 24 .goto 27 35 := ⟨11, by decide +kernel, rfl, by decide⟩
theorem dX7_weighs_27 : jm_d cX7_weighs 27 (.aload_n 0) 1 28 := ⟨by decide +kernel, rfl⟩
theorem dX7_weighs_28 : jm_d cX7_weighs 28 (.getfield 24) 3 31 := ⟨by decide +kernel, rfl⟩
theorem dX7_weighs_31 : jm_d cX7_weighs 31 (.iload_n 1) 1 32 := ⟨by decide +kernel, rfl⟩
theorem dX7_weighs_32 : jm_d cX7_weighs 32 (.iaload) 1 33 := ⟨by decide +kernel, rfl⟩
theorem dX7_weighs_33 : jm_d cX7_weighs 33 (.iload_n 2) 1 34 := ⟨by decide +kernel, rfl⟩
theorem dX7_weighs_34 : jm_d cX7_weighs 34 (.iadd) 1 35 := ⟨by decide +kernel, rfl⟩
theorem dX7_weighs_35 : jm_d cX7_weighs 35 (.istore 4) 2 37 := ⟨by decide +kernel, rfl⟩
theorem dX7_weighs_37 : jm_d cX7_weighs 37 (.iload 4) 2 39 := ⟨by decide +kernel, rfl⟩
theorem dX7_weighs_39 : jm_d cX7_weighs 39 (.iconst 2) 1 40 := ⟨by decide +kernel, rfl⟩
theorem dX7_weighs_40 : jm_d cX7_weighs 40 (.iadd) 1 41 := ⟨by decide +kernel, rfl⟩
theorem dX7_weighs_41 : jm_d cX7_weighs 41 (.istore 5) 2 43 := ⟨by decide +kernel, rfl⟩
theorem dX7_weighs_43 : jm_d cX7_weighs 43 (.iload 5) 2 45 := ⟨by decide +kernel, rfl⟩
theorem dX7_weighs_45 : jm_d cX7_weighs 45 (.iload_n 2) 1 46 := ⟨by decide +kernel, rfl⟩
theorem dX7_weighs_46 : jm_d cX7_weighs 46 (.iadd) 1 47 := ⟨by decide +kernel, rfl⟩
theorem dX7_weighs_47 : jm_d cX7_weighs 47 (.istore 6) 2 49 := ⟨by decide +kernel, rfl⟩
theorem dX7_weighs_49 : jm_d cX7_weighs 49 (.iload_n 2) 1 50 := ⟨by decide +kernel, rfl⟩
theorem dX7_weighs_50 : jm_b cX7_weighs 50 (.ifCond .ne) 53 64 := ⟨14, by decide +kernel, rfl, by decide⟩
theorem dX7_weighs_53 : jm_d cX7_weighs 53 (.aload_n 0) 1 54 := ⟨by decide +kernel, rfl⟩
theorem dX7_weighs_54 : jm_d cX7_weighs 54 (.getfield 24) 3 57 := ⟨by decide +kernel, rfl⟩
theorem dX7_weighs_57 : jm_d cX7_weighs 57 (.iload_n 1) 1 58 := ⟨by decide +kernel, rfl⟩
theorem dX7_weighs_58 : jm_d cX7_weighs 58 (.iaload) 1 59 := ⟨by decide +kernel, rfl⟩
theorem dX7_weighs_59 : jm_d cX7_weighs 59 (.iconst 5) 1 60 := ⟨by decide +kernel, rfl⟩
theorem dX7_weighs_60 : jm_d cX7_weighs 60 (.iadd) 1 61 := ⟨by decide +kernel, rfl⟩
theorem dX7_weighs_61 : jm_b cX7_weighs 61 .goto 64 66 := ⟨5, by decide +kernel, rfl, by decide⟩
theorem dX7_weighs_64 : jm_d cX7_weighs 64 (.iload 4) 2 66 := ⟨by decide +kernel, rfl⟩
theorem dX7_weighs_66 : jm_d cX7_weighs 66 (.istore 7) 2 68 := ⟨by decide +kernel, rfl⟩
theorem dX7_weighs_68 : jm_d cX7_weighs 68 (.aload_n 0) 1 69 := ⟨by decide +kernel, rfl⟩
theorem dX7_weighs_69 : jm_d cX7_weighs 69 (.getfield 21) 3 72 := ⟨by decide +kernel, rfl⟩
theorem dX7_weighs_72 : jm_d cX7_weighs 72 (.iload_n 1) 1 73 := ⟨by decide +kernel, rfl⟩
theorem dX7_weighs_73 : jm_d cX7_weighs 73 (.iaload) 1 74 := ⟨by decide +kernel, rfl⟩
theorem dX7_weighs_74 : decode cX7_weighs 74 = .ok (.tableswitch 89 0 6 #[42, 45, 48, 50, 53, 56, 70], 42) := by decide +kernel
theorem dX7_weighs_116 : jm_d cX7_weighs 116 (.iload 4) 2 118 := ⟨by decide +kernel, rfl⟩
theorem dX7_weighs_118 : jm_d cX7_weighs 118 (.ireturn) 1 119 := ⟨by decide +kernel, rfl⟩
theorem dX7_weighs_119 : jm_d cX7_weighs 119 (.iload 5) 2 121 := ⟨by decide +kernel, rfl⟩
theorem dX7_weighs_121 : jm_d cX7_weighs 121 (.ireturn) 1 122 := ⟨by decide +kernel, rfl⟩
theorem dX7_weighs_122 : jm_d cX7_weighs 122 (.iload_n 3) 1 123 := ⟨by decide +kernel, rfl⟩
theorem dX7_weighs_123 : jm_d cX7_weighs 123 (.ireturn) 1 124 := ⟨by decide +kernel, rfl⟩
theorem dX7_weighs_124 : jm_d cX7_weighs 124 (.iload 7) 2 126 := ⟨by decide +kernel, rfl⟩
theorem dX7_weighs_126 : jm_d cX7_weighs 126 (.ireturn) 1 127 := ⟨by decide +kernel, rfl⟩
theorem dX7_weighs_127 : jm_d cX7_weighs 127 (.iload 6) 2 129 := ⟨by decide +kernel, rfl⟩
theorem dX7_weighs_129 : jm_d cX7_weighs 129 (.ireturn) 1 130 := ⟨by decide +kernel, rfl⟩
theorem dX7_weighs_130 : jm_d cX7_weighs 130 (.iload_n 3) 1 131 := ⟨by decide +kernel, rfl⟩
theorem dX7_weighs_131 : jm_d cX7_weighs 131 (.iconst 2) 1 132 := ⟨by decide +kernel, rfl⟩
theorem dX7_weighs_132 : jm_d cX7_weighs 132 (.idiv) 1 133 := ⟨by decide +kernel, rfl⟩
theorem dX7_weighs_133 : jm_d cX7_weighs 133 (.aload_n 0) 1 134 := ⟨by decide +kernel, rfl⟩
theorem dX7_weighs_134 : jm_d cX7_weighs 134 (.getfield 36) 3 137 := ⟨by decide +kernel, rfl⟩
theorem dX7_weighs_137 : jm_d cX7_weighs 137 (.iload_n 1) 1 138 := ⟨by decide +kernel, rfl⟩
theorem dX7_weighs_138 : jm_d cX7_weighs 138 (.iaload) 1 139 := ⟨by decide +kernel, rfl⟩
theorem dX7_weighs_139 : jm_d cX7_weighs 139 (.invokestatic 74) 3 142 := ⟨by decide +kernel, rfl⟩
theorem dX7_weighs_142 : jm_d cX7_weighs 142 (.iadd) 1 143 := ⟨by decide +kernel, rfl⟩
theorem dX7_weighs_143 : jm_d cX7_weighs 143 (.ireturn) 1 144 := ⟨by decide +kernel, rfl⟩
theorem dX7_weighs_144 : jm_d cX7_weighs 144 (.iload 7) 2 146 := ⟨by decide +kernel, rfl⟩
theorem dX7_weighs_146 : jm_d cX7_weighs 146 (.aload_n 0) 1 147 := ⟨by decide +kernel, rfl⟩
theorem dX7_weighs_147 : jm_d cX7_weighs 147 (.getfield 58) 3 150 := ⟨by decide +kernel, rfl⟩
theorem dX7_weighs_150 : jm_d cX7_weighs 150 (.iconst 2) 1 151 := ⟨by decide +kernel, rfl⟩
theorem dX7_weighs_151 : jm_d cX7_weighs 151 (.irem) 1 152 := ⟨by decide +kernel, rfl⟩
theorem dX7_weighs_152 : jm_d cX7_weighs 152 (.iconst 1) 1 153 := ⟨by decide +kernel, rfl⟩
theorem dX7_weighs_153 : jm_b cX7_weighs 153 (.if_icmp .ne) 156 160 := ⟨7, by decide +kernel, rfl, by decide⟩
theorem dX7_weighs_156 : jm_d cX7_weighs 156 (.iconst 3) 1 157 := ⟨by decide +kernel, rfl⟩
theorem dX7_weighs_157 : jm_b cX7_weighs 157 .goto 160 161 := ⟨4, by decide +kernel, rfl, by decide⟩
theorem dX7_weighs_161 : jm_d cX7_weighs 161 (.iadd) 1 162 := ⟨by decide +kernel, rfl⟩
theorem dX7_weighs_162 : jm_d cX7_weighs 162 (.ireturn) 1 163 := ⟨by decide +kernel, rfl⟩
theorem dX7_weighs_160 : jm_d cX7_weighs 160 (.iconst 0) 1 161 := ⟨by decide +kernel, rfl⟩
theorem dX7_weighs_163 : jm_d cX7_weighs 163 (.bipush 10) 2 165 := ⟨by decide +kernel, rfl⟩
theorem dX7_weighs_165 : jm_d cX7_weighs 165 (.iload 6) 2 167 := ⟨by decide +kernel, rfl⟩
theorem dX7_weighs_167 : jm_d cX7_weighs 167 (.invokestatic 79) 3 170 := ⟨by decide +kernel, rfl⟩
theorem dX7_weighs_170 : jm_d cX7_weighs 170 (.ireturn) 1 171 := ⟨by decide +kernel, rfl⟩
set_option maxHeartbeats 4000000 in
set_option maxRecDepth 100000 in
theorem kT_weighs (E : jm_Ev) (hE : jm_dj E jm_LC) {M : jm_M} {t : Nat} {p1 : Int32} (ht : jm_isT t) {r : Int32} (h : sT_weighs M t p1 = some r) : jm_Ct E jm_LC yX7_weighs cX7_weighs 8 (some .int) 1 40 [.ref (jm_a E t 0), .int p1] M (some (.int r)) M := by
  refine jm_enter (lv := [some (.ref (jm_a E t 0)), some (.int p1), none, none, none, none, none, none]) hE (by decide) (Nat.le_of_ble_eq_true rfl) rfl ?_
  intro z w F hz
  have G : jm_G w 0 [some (.ref (jm_a E t 0)), some (.int p1), none, none, none, none, none, none] [] M (sT_weighs M t p1) (fun e => z (some (.int e)) M) := by
    unfold sT_weighs
    refine jm_aload_n (i := 0) F dX7_weighs_0 rfl rfl ?_
    refine jm_getR F dX7_weighs_1 fl_X7_33 (lo_T ht) rfl ?_
    refine jm_iload_n (i := 1) F dX7_weighs_4 rfl rfl ?_
    refine jm_iald F dX7_weighs_5 (la_T_10 ht) (fun v1 => ?_)
    refine jm_callS (As := [.int v1]) (st := []) (rv := fun r => some (.int r)) (mm := fun _ => M) F dX7_weighs_6 qX7_68 rfl (fun r h => kJ_bitCount E hE h) rfl (Nat.le_of_ble_eq_true rfl) ⟨Nat.le_of_ble_eq_true rfl, Nat.le_of_ble_eq_true rfl⟩ (fun r2 => ?_)
    refine jm_istore_n (i := 2) (lv' := [some (.ref (jm_a E t 0)), some (.int p1), some (.int r2), none, none, none, none, none]) F dX7_weighs_9 rfl (by decide) rfl rfl ?_
    refine jm_iconst F dX7_weighs_10 kc_2 ?_
    refine jm_aload_n (i := 0) F dX7_weighs_11 rfl rfl ?_
    refine jm_getR F dX7_weighs_12 fl_X7_24 (lo_T ht) rfl ?_
    refine jm_iload_n (i := 1) F dX7_weighs_15 rfl rfl ?_
    refine jm_iald F dX7_weighs_16 (la_T_7 ht) (fun v3 => ?_)
    refine jm_imul F dX7_weighs_17 ?_
    refine jm_nameI (f := fun x4 => [.int x4]) (fun x4 => ?_) rfl
    refine jm_istore_n (i := 3) (lv' := [some (.ref (jm_a E t 0)), some (.int p1), some (.int r2), some (.int x4), none, none, none, none]) F dX7_weighs_18 rfl (by decide) rfl rfl ?_
    refine jm_iload_n (i := 2) F dX7_weighs_19 rfl rfl ?_
    refine jm_bind (pcJ := 35) (lvJ := fun e5 => [some (.ref (jm_a E t 0)), some (.int p1), some (.int r2), some (.int x4), none, none, none, none]) (stJ := fun e5 => [.int e5]) (MJ := fun e5 => M) ?_ (fun e5 => ?_)
    · refine jm_if_ne F dX7_weighs_20 (fun c6 => ?_) (fun c6 => ?_)
      · refine jm_iconst F dX7_weighs_23 kc_0 ?_
        refine jm_goto F dX7_weighs_24 ?_
        exact jm_weakD F (lv' := [some (.ref (jm_a E t 0)), some (.int p1), some (.int r2), some (.int x4), none, none, none, none]) ⟨rfl, rfl, rfl, rfl, trivial⟩ (fun h => h)
      · refine jm_aload_n (i := 0) F dX7_weighs_27 rfl rfl ?_
        refine jm_getR F dX7_weighs_28 fl_X7_24 (lo_T ht) rfl ?_
        refine jm_iload_n (i := 1) F dX7_weighs_31 rfl rfl ?_
        refine jm_iald F dX7_weighs_32 (la_T_7 ht) (fun v7 => ?_)
        refine jm_iload_n (i := 2) F dX7_weighs_33 rfl rfl ?_
        refine jm_iadd F dX7_weighs_34 ?_
        exact jm_weakD F (lv' := [some (.ref (jm_a E t 0)), some (.int p1), some (.int r2), some (.int x4), none, none, none, none]) ⟨rfl, rfl, rfl, rfl, trivial⟩ (fun h => h)
    · refine jm_istore (i := 4) (lv' := [some (.ref (jm_a E t 0)), some (.int p1), some (.int r2), some (.int x4), some (.int e5), none, none, none]) F dX7_weighs_35 (by decide) rfl rfl ?_
      refine jm_iload F dX7_weighs_37 rfl ?_
      refine jm_iconst F dX7_weighs_39 kc_2 ?_
      refine jm_iadd F dX7_weighs_40 ?_
      refine jm_nameI (f := fun x8 => [.int x8]) (fun x8 => ?_) rfl
      refine jm_istore (i := 5) (lv' := [some (.ref (jm_a E t 0)), some (.int p1), some (.int r2), some (.int x4), some (.int e5), some (.int x8), none, none]) F dX7_weighs_41 (by decide) rfl rfl ?_
      refine jm_iload F dX7_weighs_43 rfl ?_
      refine jm_iload_n (i := 2) F dX7_weighs_45 rfl rfl ?_
      refine jm_iadd F dX7_weighs_46 ?_
      refine jm_nameI (f := fun x9 => [.int x9]) (fun x9 => ?_) rfl
      refine jm_istore (i := 6) (lv' := [some (.ref (jm_a E t 0)), some (.int p1), some (.int r2), some (.int x4), some (.int e5), some (.int x8), some (.int x9), none]) F dX7_weighs_47 (by decide) rfl rfl ?_
      refine jm_iload_n (i := 2) F dX7_weighs_49 rfl rfl ?_
      refine jm_bind (pcJ := 66) (lvJ := fun e10 => [some (.ref (jm_a E t 0)), some (.int p1), none, some (.int x4), some (.int e5), some (.int x8), some (.int x9), none]) (stJ := fun e10 => [.int e10]) (MJ := fun e10 => M) ?_ (fun e10 => ?_)
      · refine jm_if_ne F dX7_weighs_50 (fun c11 => ?_) (fun c11 => ?_)
        · refine jm_aload_n (i := 0) F dX7_weighs_53 rfl rfl ?_
          refine jm_getR F dX7_weighs_54 fl_X7_24 (lo_T ht) rfl ?_
          refine jm_iload_n (i := 1) F dX7_weighs_57 rfl rfl ?_
          refine jm_iald F dX7_weighs_58 (la_T_7 ht) (fun v12 => ?_)
          refine jm_iconst F dX7_weighs_59 kc_5 ?_
          refine jm_iadd F dX7_weighs_60 ?_
          refine jm_goto F dX7_weighs_61 ?_
          exact jm_weakD F (lv' := [some (.ref (jm_a E t 0)), some (.int p1), none, some (.int x4), some (.int e5), some (.int x8), some (.int x9), none]) ⟨rfl, rfl, rfl, rfl, rfl, rfl, trivial⟩ (fun h => h)
        · refine jm_iload F dX7_weighs_64 rfl ?_
          exact jm_weakD F (lv' := [some (.ref (jm_a E t 0)), some (.int p1), none, some (.int x4), some (.int e5), some (.int x8), some (.int x9), none]) ⟨rfl, rfl, rfl, rfl, rfl, rfl, trivial⟩ (fun h => h)
      · refine jm_istore (i := 7) (lv' := [some (.ref (jm_a E t 0)), some (.int p1), none, some (.int x4), some (.int e5), some (.int x8), some (.int x9), some (.int e10)]) F dX7_weighs_66 (by decide) rfl rfl ?_
        refine jm_aload_n (i := 0) F dX7_weighs_68 rfl rfl ?_
        refine jm_getR F dX7_weighs_69 fl_X7_21 (lo_T ht) rfl ?_
        refine jm_iload_n (i := 1) F dX7_weighs_72 rfl rfl ?_
        refine jm_iald F dX7_weighs_73 (la_T_6 ht) (fun v13 => ?_)
        refine jm_ite (fun c14 => ?_) (fun c14 => ?_)
        · refine jm_tsw (tgt := 116) F dX7_weighs_74 c14 (by decide) (by decide) rfl (by decide) ?_
          refine jm_iload F dX7_weighs_116 rfl ?_
          exact jm_iret F dX7_weighs_118 (fun h => h)
        · refine jm_ite (fun c15 => ?_) (fun c15 => ?_)
          · refine jm_tsw (tgt := 119) F dX7_weighs_74 c15 (by decide) (by decide) rfl (by decide) ?_
            refine jm_iload F dX7_weighs_119 rfl ?_
            exact jm_iret F dX7_weighs_121 (fun h => h)
          · refine jm_ite (fun c16 => ?_) (fun c16 => ?_)
            · refine jm_tsw (tgt := 122) F dX7_weighs_74 c16 (by decide) (by decide) rfl (by decide) ?_
              refine jm_iload_n (i := 3) F dX7_weighs_122 rfl rfl ?_
              exact jm_iret F dX7_weighs_123 (fun h => h)
            · refine jm_ite (fun c17 => ?_) (fun c17 => ?_)
              · refine jm_tsw (tgt := 124) F dX7_weighs_74 c17 (by decide) (by decide) rfl (by decide) ?_
                refine jm_iload F dX7_weighs_124 rfl ?_
                exact jm_iret F dX7_weighs_126 (fun h => h)
              · refine jm_ite (fun c18 => ?_) (fun c18 => ?_)
                · refine jm_tsw (tgt := 127) F dX7_weighs_74 c18 (by decide) (by decide) rfl (by decide) ?_
                  refine jm_iload F dX7_weighs_127 rfl ?_
                  exact jm_iret F dX7_weighs_129 (fun h => h)
                · refine jm_ite (fun c19 => ?_) (fun c19 => ?_)
                  · refine jm_tsw (tgt := 130) F dX7_weighs_74 c19 (by decide) (by decide) rfl (by decide) ?_
                    refine jm_iload_n (i := 3) F dX7_weighs_130 rfl rfl ?_
                    refine jm_iconst F dX7_weighs_131 kc_2 ?_
                    refine jm_idiv F dX7_weighs_132 (fun v20 => ?_)
                    refine jm_aload_n (i := 0) F dX7_weighs_133 rfl rfl ?_
                    refine jm_getR F dX7_weighs_134 fl_X7_36 (lo_T ht) rfl ?_
                    refine jm_iload_n (i := 1) F dX7_weighs_137 rfl rfl ?_
                    refine jm_iald F dX7_weighs_138 (la_T_11 ht) (fun v21 => ?_)
                    refine jm_callS (As := [.int v21]) (st := [.int v20]) (rv := fun r => some (.int r)) (mm := fun _ => M) F dX7_weighs_139 qX7_74 rfl (fun r h => kI_lengthOf E hE h) rfl (Nat.le_of_ble_eq_true rfl) ⟨Nat.le_of_ble_eq_true rfl, Nat.le_of_ble_eq_true rfl⟩ (fun r22 => ?_)
                    refine jm_iadd F dX7_weighs_142 ?_
                    exact jm_iret F dX7_weighs_143 (fun h => h)
                  · refine jm_ite (fun c23 => ?_) (fun c23 => ?_)
                    · refine jm_tsw (tgt := 144) F dX7_weighs_74 c23 (by decide) (by decide) rfl (by decide) ?_
                      refine jm_iload F dX7_weighs_144 rfl ?_
                      refine jm_aload_n (i := 0) F dX7_weighs_146 rfl rfl ?_
                      refine jm_getI F dX7_weighs_147 fl_X7_58 (lo_T ht) rfl ?_
                      refine jm_iconst F dX7_weighs_150 kc_2 ?_
                      refine jm_irem F dX7_weighs_151 (fun v24 => ?_)
                      refine jm_iconst F dX7_weighs_152 kc_1 ?_
                      refine jm_icmp_ne F dX7_weighs_153 (fun c25 => ?_) (fun c25 => ?_)
                      · refine jm_iconst F dX7_weighs_156 kc_3 ?_
                        refine jm_goto F dX7_weighs_157 ?_
                        refine jm_iadd F dX7_weighs_161 ?_
                        exact jm_iret F dX7_weighs_162 (fun h => h)
                      · refine jm_iconst F dX7_weighs_160 kc_0 ?_
                        refine jm_iadd F dX7_weighs_161 ?_
                        exact jm_iret F dX7_weighs_162 (fun h => h)
                    · refine jm_tsd (tgt := 163) F dX7_weighs_74 (by
                          have e0 := jm_ne c14 (a := 0) (by decide)
                          have e1 := jm_ne c15 (a := 1) (by decide)
                          have e2 := jm_ne c16 (a := 2) (by decide)
                          have e3 := jm_ne c17 (a := 3) (by decide)
                          have e4 := jm_ne c18 (a := 4) (by decide)
                          have e5 := jm_ne c19 (a := 5) (by decide)
                          have e6 := jm_ne c23 (a := 6) (by decide)
                          omega) (by decide) ?_
                      refine jm_bipush F dX7_weighs_163 kb_10 ?_
                      refine jm_iload F dX7_weighs_165 rfl ?_
                      refine jm_mmax F dX7_weighs_167 tw_550 tw_551 tw_92 tw_552 ⟨Nat.le_of_ble_eq_true rfl, Nat.le_of_ble_eq_true rfl⟩ ?_
                      exact jm_iret F dX7_weighs_170 (fun h => h)
  exact G r h hz
theorem dX7_priceOf_0 : jm_d cX7_priceOf 0 (.aload_n 0) 1 1 := ⟨by decide +kernel, rfl⟩
theorem dX7_priceOf_1 : jm_d cX7_priceOf 1 (.getfield 24) 3 4 := ⟨by decide +kernel, rfl⟩
theorem dX7_priceOf_4 : jm_d cX7_priceOf 4 (.iload_n 1) 1 5 := ⟨by decide +kernel, rfl⟩
theorem dX7_priceOf_5 : jm_d cX7_priceOf 5 (.iaload) 1 6 := ⟨by decide +kernel, rfl⟩
theorem dX7_priceOf_6 : jm_d cX7_priceOf 6 (.iconst 1) 1 7 := ⟨by decide +kernel, rfl⟩
theorem dX7_priceOf_7 : jm_d cX7_priceOf 7 (.iadd) 1 8 := ⟨by decide +kernel, rfl⟩
theorem dX7_priceOf_8 : jm_d cX7_priceOf 8 (.istore_n 2) 1 9 := ⟨by decide +kernel, rfl⟩
theorem dX7_priceOf_9 : jm_d cX7_priceOf 9 (.iconst 2) 1 10 := ⟨by decide +kernel, rfl⟩
theorem dX7_priceOf_10 : jm_d cX7_priceOf 10 (.istore_n 3) 1 11 := ⟨by decide +kernel, rfl⟩
theorem dX7_priceOf_11 : jm_d cX7_priceOf 11 (.iconst 3) 1 12 := ⟨by decide +kernel, rfl⟩
theorem dX7_priceOf_12 : jm_d cX7_priceOf 12 (.iload_n 2) 1 13 := ⟨by decide +kernel, rfl⟩
theorem dX7_priceOf_13 : jm_d cX7_priceOf 13 (.imul) 1 14 := ⟨by decide +kernel, rfl⟩
theorem dX7_priceOf_14 : jm_d cX7_priceOf 14 (.istore 4) 2 16 := ⟨by decide +kernel, rfl⟩
theorem dX7_priceOf_16 : jm_d cX7_priceOf 16 (.iconst 1) 1 17 := ⟨by decide +kernel, rfl⟩
theorem dX7_priceOf_17 : jm_d cX7_priceOf 17 (.istore 5) 2 19 := ⟨by decide +kernel, rfl⟩
theorem dX7_priceOf_19 : jm_d cX7_priceOf 19 (.aload_n 0) 1 20 := ⟨by decide +kernel, rfl⟩
theorem dX7_priceOf_20 : jm_d cX7_priceOf 20 (.getfield 21) 3 23 := ⟨by decide +kernel, rfl⟩
theorem dX7_priceOf_23 : jm_d cX7_priceOf 23 (.iload_n 1) 1 24 := ⟨by decide +kernel, rfl⟩
theorem dX7_priceOf_24 : jm_d cX7_priceOf 24 (.iaload) 1 25 := ⟨by decide +kernel, rfl⟩
theorem dX7_priceOf_25 : decode cX7_priceOf 25 = .ok (.tableswitch 76 0 6 #[43, 45, 47, 50, 53, 62, 71], 43) := by decide +kernel
theorem dX7_priceOf_68 : jm_d cX7_priceOf 68 (.iload_n 2) 1 69 := ⟨by decide +kernel, rfl⟩
theorem dX7_priceOf_69 : jm_d cX7_priceOf 69 (.ireturn) 1 70 := ⟨by decide +kernel, rfl⟩
theorem dX7_priceOf_70 : jm_d cX7_priceOf 70 (.iload_n 3) 1 71 := ⟨by decide +kernel, rfl⟩
theorem dX7_priceOf_71 : jm_d cX7_priceOf 71 (.ireturn) 1 72 := ⟨by decide +kernel, rfl⟩
theorem dX7_priceOf_72 : jm_d cX7_priceOf 72 (.iload 4) 2 74 := ⟨by decide +kernel, rfl⟩
theorem dX7_priceOf_74 : jm_d cX7_priceOf 74 (.ireturn) 1 75 := ⟨by decide +kernel, rfl⟩
theorem dX7_priceOf_75 : jm_d cX7_priceOf 75 (.iload 5) 2 77 := ⟨by decide +kernel, rfl⟩
theorem dX7_priceOf_77 : jm_d cX7_priceOf 77 (.ireturn) 1 78 := ⟨by decide +kernel, rfl⟩
theorem dX7_priceOf_78 : jm_d cX7_priceOf 78 (.iload_n 3) 1 79 := ⟨by decide +kernel, rfl⟩
theorem dX7_priceOf_79 : jm_d cX7_priceOf 79 (.aload_n 0) 1 80 := ⟨by decide +kernel, rfl⟩
theorem dX7_priceOf_80 : jm_d cX7_priceOf 80 (.getfield 24) 3 83 := ⟨by decide +kernel, rfl⟩
theorem dX7_priceOf_83 : jm_d cX7_priceOf 83 (.iload_n 1) 1 84 := ⟨by decide +kernel, rfl⟩
theorem dX7_priceOf_84 : jm_d cX7_priceOf 84 (.iaload) 1 85 := ⟨by decide +kernel, rfl⟩
theorem dX7_priceOf_85 : jm_d cX7_priceOf 85 (.iadd) 1 86 := ⟨by decide +kernel, rfl⟩
theorem dX7_priceOf_86 : jm_d cX7_priceOf 86 (.ireturn) 1 87 := ⟨by decide +kernel, rfl⟩
theorem dX7_priceOf_87 : jm_d cX7_priceOf 87 (.iconst 0) 1 88 := ⟨by decide +kernel, rfl⟩
theorem dX7_priceOf_88 : jm_d cX7_priceOf 88 (.iload 4) 2 90 := ⟨by decide +kernel, rfl⟩
theorem dX7_priceOf_90 : jm_d cX7_priceOf 90 (.iconst 5) 1 91 := ⟨by decide +kernel, rfl⟩
theorem dX7_priceOf_91 : jm_d cX7_priceOf 91 (.isub) 1 92 := ⟨by decide +kernel, rfl⟩
theorem dX7_priceOf_92 : jm_d cX7_priceOf 92 (.invokestatic 79) 3 95 := ⟨by decide +kernel, rfl⟩
theorem dX7_priceOf_95 : jm_d cX7_priceOf 95 (.ireturn) 1 96 := ⟨by decide +kernel, rfl⟩
theorem dX7_priceOf_96 : jm_d cX7_priceOf 96 (.iload 5) 2 98 := ⟨by decide +kernel, rfl⟩
theorem dX7_priceOf_98 : jm_d cX7_priceOf 98 (.iconst 4) 1 99 := ⟨by decide +kernel, rfl⟩
theorem dX7_priceOf_99 : jm_d cX7_priceOf 99 (.iadd) 1 100 := ⟨by decide +kernel, rfl⟩
theorem dX7_priceOf_100 : jm_d cX7_priceOf 100 (.ireturn) 1 101 := ⟨by decide +kernel, rfl⟩
theorem dX7_priceOf_101 : jm_d cX7_priceOf 101 (.iconst 0) 1 102 := ⟨by decide +kernel, rfl⟩
theorem dX7_priceOf_102 : jm_d cX7_priceOf 102 (.ireturn) 1 103 := ⟨by decide +kernel, rfl⟩
set_option maxHeartbeats 4000000 in
set_option maxRecDepth 100000 in
theorem kT_priceOf (E : jm_Ev) (hE : jm_dj E jm_LC) {M : jm_M} {t : Nat} {p1 : Int32} (ht : jm_isT t) {r : Int32} (h : sT_priceOf M t p1 = some r) : jm_Ct E jm_LC yX7_priceOf cX7_priceOf 6 (some .int) 1 40 [.ref (jm_a E t 0), .int p1] M (some (.int r)) M := by
  refine jm_enter (lv := [some (.ref (jm_a E t 0)), some (.int p1), none, none, none, none]) hE (by decide) (Nat.le_of_ble_eq_true rfl) rfl ?_
  intro z w F hz
  have G : jm_G w 0 [some (.ref (jm_a E t 0)), some (.int p1), none, none, none, none] [] M (sT_priceOf M t p1) (fun e => z (some (.int e)) M) := by
    unfold sT_priceOf
    refine jm_aload_n (i := 0) F dX7_priceOf_0 rfl rfl ?_
    refine jm_getR F dX7_priceOf_1 fl_X7_24 (lo_T ht) rfl ?_
    refine jm_iload_n (i := 1) F dX7_priceOf_4 rfl rfl ?_
    refine jm_iald F dX7_priceOf_5 (la_T_7 ht) (fun v1 => ?_)
    refine jm_iconst F dX7_priceOf_6 kc_1 ?_
    refine jm_iadd F dX7_priceOf_7 ?_
    refine jm_nameI (f := fun x2 => [.int x2]) (fun x2 => ?_) rfl
    refine jm_istore_n (i := 2) (lv' := [some (.ref (jm_a E t 0)), some (.int p1), some (.int x2), none, none, none]) F dX7_priceOf_8 rfl (by decide) rfl rfl ?_
    refine jm_iconst F dX7_priceOf_9 kc_2 ?_
    refine jm_istore_n (i := 3) (lv' := [some (.ref (jm_a E t 0)), some (.int p1), some (.int x2), some (.int 2), none, none]) F dX7_priceOf_10 rfl (by decide) rfl rfl ?_
    refine jm_iconst F dX7_priceOf_11 kc_3 ?_
    refine jm_iload_n (i := 2) F dX7_priceOf_12 rfl rfl ?_
    refine jm_imul F dX7_priceOf_13 ?_
    refine jm_nameI (f := fun x3 => [.int x3]) (fun x3 => ?_) rfl
    refine jm_istore (i := 4) (lv' := [some (.ref (jm_a E t 0)), some (.int p1), some (.int x2), some (.int 2), some (.int x3), none]) F dX7_priceOf_14 (by decide) rfl rfl ?_
    refine jm_iconst F dX7_priceOf_16 kc_1 ?_
    refine jm_istore (i := 5) (lv' := [some (.ref (jm_a E t 0)), some (.int p1), some (.int x2), some (.int 2), some (.int x3), some (.int 1)]) F dX7_priceOf_17 (by decide) rfl rfl ?_
    refine jm_aload_n (i := 0) F dX7_priceOf_19 rfl rfl ?_
    refine jm_getR F dX7_priceOf_20 fl_X7_21 (lo_T ht) rfl ?_
    refine jm_iload_n (i := 1) F dX7_priceOf_23 rfl rfl ?_
    refine jm_iald F dX7_priceOf_24 (la_T_6 ht) (fun v4 => ?_)
    refine jm_ite (fun c5 => ?_) (fun c5 => ?_)
    · refine jm_tsw (tgt := 68) F dX7_priceOf_25 c5 (by decide) (by decide) rfl (by decide) ?_
      refine jm_iload_n (i := 2) F dX7_priceOf_68 rfl rfl ?_
      exact jm_iret F dX7_priceOf_69 (fun h => h)
    · refine jm_ite (fun c6 => ?_) (fun c6 => ?_)
      · refine jm_tsw (tgt := 70) F dX7_priceOf_25 c6 (by decide) (by decide) rfl (by decide) ?_
        refine jm_iload_n (i := 3) F dX7_priceOf_70 rfl rfl ?_
        exact jm_iret F dX7_priceOf_71 (fun h => h)
      · refine jm_ite (fun c7 => ?_) (fun c7 => ?_)
        · refine jm_tsw (tgt := 72) F dX7_priceOf_25 c7 (by decide) (by decide) rfl (by decide) ?_
          refine jm_iload F dX7_priceOf_72 rfl ?_
          exact jm_iret F dX7_priceOf_74 (fun h => h)
        · refine jm_ite (fun c8 => ?_) (fun c8 => ?_)
          · refine jm_tsw (tgt := 75) F dX7_priceOf_25 c8 (by decide) (by decide) rfl (by decide) ?_
            refine jm_iload F dX7_priceOf_75 rfl ?_
            exact jm_iret F dX7_priceOf_77 (fun h => h)
          · refine jm_ite (fun c9 => ?_) (fun c9 => ?_)
            · refine jm_tsw (tgt := 78) F dX7_priceOf_25 c9 (by decide) (by decide) rfl (by decide) ?_
              refine jm_iload_n (i := 3) F dX7_priceOf_78 rfl rfl ?_
              refine jm_aload_n (i := 0) F dX7_priceOf_79 rfl rfl ?_
              refine jm_getR F dX7_priceOf_80 fl_X7_24 (lo_T ht) rfl ?_
              refine jm_iload_n (i := 1) F dX7_priceOf_83 rfl rfl ?_
              refine jm_iald F dX7_priceOf_84 (la_T_7 ht) (fun v10 => ?_)
              refine jm_iadd F dX7_priceOf_85 ?_
              exact jm_iret F dX7_priceOf_86 (fun h => h)
            · refine jm_ite (fun c11 => ?_) (fun c11 => ?_)
              · refine jm_tsw (tgt := 87) F dX7_priceOf_25 c11 (by decide) (by decide) rfl (by decide) ?_
                refine jm_iconst F dX7_priceOf_87 kc_0 ?_
                refine jm_iload F dX7_priceOf_88 rfl ?_
                refine jm_iconst F dX7_priceOf_90 kc_5 ?_
                refine jm_isub F dX7_priceOf_91 ?_
                refine jm_mmax F dX7_priceOf_92 tw_550 tw_551 tw_92 tw_552 ⟨Nat.le_of_ble_eq_true rfl, Nat.le_of_ble_eq_true rfl⟩ ?_
                exact jm_iret F dX7_priceOf_95 (fun h => h)
              · refine jm_ite (fun c12 => ?_) (fun c12 => ?_)
                · refine jm_tsw (tgt := 96) F dX7_priceOf_25 c12 (by decide) (by decide) rfl (by decide) ?_
                  refine jm_iload F dX7_priceOf_96 rfl ?_
                  refine jm_iconst F dX7_priceOf_98 kc_4 ?_
                  refine jm_iadd F dX7_priceOf_99 ?_
                  exact jm_iret F dX7_priceOf_100 (fun h => h)
                · refine jm_tsd (tgt := 101) F dX7_priceOf_25 (by
                      have e0 := jm_ne c5 (a := 0) (by decide)
                      have e1 := jm_ne c6 (a := 1) (by decide)
                      have e2 := jm_ne c7 (a := 2) (by decide)
                      have e3 := jm_ne c8 (a := 3) (by decide)
                      have e4 := jm_ne c9 (a := 4) (by decide)
                      have e5 := jm_ne c11 (a := 5) (by decide)
                      have e6 := jm_ne c12 (a := 6) (by decide)
                      omega) (by decide) ?_
                  refine jm_iconst F dX7_priceOf_101 kc_0 ?_
                  exact jm_iret F dX7_priceOf_102 (fun h => h)
  exact G r h hz
theorem dX8_book_0 : jm_d cX8_book 0 (.aload_n 0) 1 1 := ⟨by decide +kernel, rfl⟩
theorem dX8_book_1 : jm_d cX8_book 1 (.getfield 10) 3 4 := ⟨by decide +kernel, rfl⟩
theorem dX8_book_4 : jm_d cX8_book 4 (.iload_n 1) 1 5 := ⟨by decide +kernel, rfl⟩
theorem dX8_book_5 : jm_d cX8_book 5 (.invokevirtual 133) 3 8 := ⟨by decide +kernel, rfl⟩
theorem dX8_book_8 : jm_b cX8_book 8 (.ifCond .ne) 11 17 := ⟨9, by decide +kernel, rfl, by decide⟩
theorem dX8_book_11 : jm_d cX8_book 11 (.aload_n 0) 1 12 := ⟨by decide +kernel, rfl⟩
theorem dX8_book_12 : jm_d cX8_book 12 (.iconst (-1)) 1 13 := ⟨by decide +kernel, rfl⟩
theorem dX8_book_13 : jm_d cX8_book 13 (.invokevirtual 64) 3 16 := ⟨by decide +kernel, rfl⟩
theorem dX8_book_16 : jm_d cX8_book 16 (.ireturn) 1 17 := ⟨by decide +kernel, rfl⟩
theorem dX8_book_17 : jm_d cX8_book 17 (.iload_n 2) 1 18 := ⟨by decide +kernel, rfl⟩
theorem dX8_book_18 : decode cX8_book 18 = .ok (.tableswitch 127 0 7 #[46, 56, 66, 76, 86, 96, 105, 114], 46) := by decide +kernel
theorem dX8_book_64 : jm_d cX8_book 64 (.aload_n 0) 1 65 := ⟨by decide +kernel, rfl⟩
theorem dX8_book_65 : jm_d cX8_book 65 (.getfield 10) 3 68 := ⟨by decide +kernel, rfl⟩
theorem dX8_book_68 : jm_d cX8_book 68 (.getfield 136) 3 71 := ⟨by decide +kernel, rfl⟩
theorem dX8_book_71 : jm_d cX8_book 71 (.iload_n 1) 1 72 := ⟨by decide +kernel, rfl⟩
theorem dX8_book_72 : jm_d cX8_book 72 (.iaload) 1 73 := ⟨by decide +kernel, rfl⟩
theorem dX8_book_73 : jm_d cX8_book 73 (.ireturn) 1 74 := ⟨by decide +kernel, rfl⟩
theorem dX8_book_74 : jm_d cX8_book 74 (.aload_n 0) 1 75 := ⟨by decide +kernel, rfl⟩
theorem dX8_book_75 : jm_d cX8_book 75 (.getfield 10) 3 78 := ⟨by decide +kernel, rfl⟩
theorem dX8_book_78 : jm_d cX8_book 78 (.getfield 139) 3 81 := ⟨by decide +kernel, rfl⟩
theorem dX8_book_81 : jm_d cX8_book 81 (.iload_n 1) 1 82 := ⟨by decide +kernel, rfl⟩
theorem dX8_book_82 : jm_d cX8_book 82 (.iaload) 1 83 := ⟨by decide +kernel, rfl⟩
theorem dX8_book_83 : jm_d cX8_book 83 (.ireturn) 1 84 := ⟨by decide +kernel, rfl⟩
theorem dX8_book_84 : jm_d cX8_book 84 (.aload_n 0) 1 85 := ⟨by decide +kernel, rfl⟩
theorem dX8_book_85 : jm_d cX8_book 85 (.getfield 10) 3 88 := ⟨by decide +kernel, rfl⟩
theorem dX8_book_88 : jm_d cX8_book 88 (.getfield 130) 3 91 := ⟨by decide +kernel, rfl⟩
theorem dX8_book_91 : jm_d cX8_book 91 (.iload_n 1) 1 92 := ⟨by decide +kernel, rfl⟩
theorem dX8_book_92 : jm_d cX8_book 92 (.iaload) 1 93 := ⟨by decide +kernel, rfl⟩
theorem dX8_book_93 : jm_d cX8_book 93 (.ireturn) 1 94 := ⟨by decide +kernel, rfl⟩
theorem dX8_book_94 : jm_d cX8_book 94 (.aload_n 0) 1 95 := ⟨by decide +kernel, rfl⟩
theorem dX8_book_95 : jm_d cX8_book 95 (.getfield 10) 3 98 := ⟨by decide +kernel, rfl⟩
theorem dX8_book_98 : jm_d cX8_book 98 (.getfield 123) 3 101 := ⟨by decide +kernel, rfl⟩
theorem dX8_book_101 : jm_d cX8_book 101 (.iload_n 1) 1 102 := ⟨by decide +kernel, rfl⟩
theorem dX8_book_102 : jm_d cX8_book 102 (.iaload) 1 103 := ⟨by decide +kernel, rfl⟩
theorem dX8_book_103 : jm_d cX8_book 103 (.ireturn) 1 104 := ⟨by decide +kernel, rfl⟩
theorem dX8_book_104 : jm_d cX8_book 104 (.aload_n 0) 1 105 := ⟨by decide +kernel, rfl⟩
theorem dX8_book_105 : jm_d cX8_book 105 (.getfield 10) 3 108 := ⟨by decide +kernel, rfl⟩
theorem dX8_book_108 : jm_d cX8_book 108 (.getfield 142) 3 111 := ⟨by decide +kernel, rfl⟩
theorem dX8_book_111 : jm_d cX8_book 111 (.iload_n 1) 1 112 := ⟨by decide +kernel, rfl⟩
theorem dX8_book_112 : jm_d cX8_book 112 (.iaload) 1 113 := ⟨by decide +kernel, rfl⟩
theorem dX8_book_113 : jm_d cX8_book 113 (.ireturn) 1 114 := ⟨by decide +kernel, rfl⟩
theorem dX8_book_114 : jm_d cX8_book 114 (.aload_n 0) 1 115 := ⟨by decide +kernel, rfl⟩
theorem dX8_book_115 : jm_d cX8_book 115 (.getfield 10) 3 118 := ⟨by decide +kernel, rfl⟩
theorem dX8_book_118 : jm_d cX8_book 118 (.iload_n 1) 1 119 := ⟨by decide +kernel, rfl⟩
theorem dX8_book_119 : jm_d cX8_book 119 (.invokevirtual 145) 3 122 := ⟨by decide +kernel, rfl⟩
theorem dX8_book_122 : jm_d cX8_book 122 (.ireturn) 1 123 := ⟨by decide +kernel, rfl⟩
theorem dX8_book_123 : jm_d cX8_book 123 (.aload_n 0) 1 124 := ⟨by decide +kernel, rfl⟩
theorem dX8_book_124 : jm_d cX8_book 124 (.getfield 10) 3 127 := ⟨by decide +kernel, rfl⟩
theorem dX8_book_127 : jm_d cX8_book 127 (.iload_n 1) 1 128 := ⟨by decide +kernel, rfl⟩
theorem dX8_book_128 : jm_d cX8_book 128 (.invokevirtual 148) 3 131 := ⟨by decide +kernel, rfl⟩
theorem dX8_book_131 : jm_d cX8_book 131 (.ireturn) 1 132 := ⟨by decide +kernel, rfl⟩
theorem dX8_book_132 : jm_d cX8_book 132 (.aload_n 0) 1 133 := ⟨by decide +kernel, rfl⟩
theorem dX8_book_133 : jm_d cX8_book 133 (.getfield 10) 3 136 := ⟨by decide +kernel, rfl⟩
theorem dX8_book_136 : jm_d cX8_book 136 (.getfield 151) 3 139 := ⟨by decide +kernel, rfl⟩
theorem dX8_book_139 : jm_d cX8_book 139 (.iload_n 1) 1 140 := ⟨by decide +kernel, rfl⟩
theorem dX8_book_140 : jm_d cX8_book 140 (.iaload) 1 141 := ⟨by decide +kernel, rfl⟩
theorem dX8_book_141 : jm_d cX8_book 141 (.invokestatic 154) 3 144 := ⟨by decide +kernel, rfl⟩
theorem dX8_book_144 : jm_d cX8_book 144 (.ireturn) 1 145 := ⟨by decide +kernel, rfl⟩
theorem dX8_book_145 : jm_d cX8_book 145 (.aload_n 0) 1 146 := ⟨by decide +kernel, rfl⟩
theorem dX8_book_146 : jm_d cX8_book 146 (.bipush (-2)) 2 148 := ⟨by decide +kernel, rfl⟩
theorem dX8_book_148 : jm_d cX8_book 148 (.invokevirtual 64) 3 151 := ⟨by decide +kernel, rfl⟩
theorem dX8_book_151 : jm_d cX8_book 151 (.ireturn) 1 152 := ⟨by decide +kernel, rfl⟩
set_option maxHeartbeats 4000000 in
set_option maxRecDepth 100000 in
theorem kW_book (E : jm_Ev) (hE : jm_dj E jm_LC) {M : jm_M} {p1 : Int32} {p2 : Int32}  {r : Int32 × jm_M} (h : sW_book M p1 p2 = some r) : jm_Ct E jm_LC yX8_book cX8_book 3 (some .int) 2 67 [.ref (jm_a E 0 0), .int p1, .int p2] M (some (.int r.1)) r.2 := by
  refine jm_enter (lv := [some (.ref (jm_a E 0 0)), some (.int p1), some (.int p2)]) hE (by decide) (Nat.le_of_ble_eq_true rfl) rfl ?_
  intro z w F hz
  have G : jm_G w 0 [some (.ref (jm_a E 0 0)), some (.int p1), some (.int p2)] [] M (sW_book M p1 p2) (fun e => z (some (.int e.1)) e.2) := by
    unfold sW_book
    refine jm_aload_n (i := 0) F dX8_book_0 rfl rfl ?_
    refine jm_getR F dX8_book_1 fl_X8_10 lo_X8 rfl ?_
    refine jm_iload_n (i := 1) F dX8_book_4 rfl rfl ?_
    refine jm_callV (As := [.int p1]) (st := []) (rv := fun r => some (.int r)) (mm := fun _ => M) F dX8_book_5 qX8_133 rfl (lo_T isT_1) rfl (fun r h => kT_hasBook E hE isT_1 h) rfl (Nat.le_of_ble_eq_true rfl) ⟨Nat.le_of_ble_eq_true rfl, Nat.le_of_ble_eq_true rfl⟩ (fun r1 => ?_)
    refine jm_if_ne F dX8_book_8 (fun c2 => ?_) (fun c2 => ?_)
    · refine jm_aload_n (i := 0) F dX8_book_11 rfl rfl ?_
      refine jm_iconst F dX8_book_12 kc_m1 ?_
      refine jm_callV (As := [.int (-1)]) (st := []) (rv := fun r => some (.int r.1)) (mm := fun r => r.2) F dX8_book_13 qX8_64 rfl lo_X8 rfl (fun r h => kW_refuse E hE h) rfl (Nat.le_of_ble_eq_true rfl) ⟨Nat.le_of_ble_eq_true rfl, Nat.le_of_ble_eq_true rfl⟩ (fun r3 => ?_)
      exact jm_iret F dX8_book_16 (fun h => h)
    · refine jm_iload_n (i := 2) F dX8_book_17 rfl rfl ?_
      refine jm_ite (fun c4 => ?_) (fun c4 => ?_)
      · refine jm_tsw (tgt := 64) F dX8_book_18 c4 (by decide) (by decide) rfl (by decide) ?_
        refine jm_aload_n (i := 0) F dX8_book_64 rfl rfl ?_
        refine jm_getR F dX8_book_65 fl_X8_10 lo_X8 rfl ?_
        refine jm_getR F dX8_book_68 fl_X8_136 (lo_T isT_1) rfl ?_
        refine jm_iload_n (i := 1) F dX8_book_71 rfl rfl ?_
        refine jm_iald F dX8_book_72 (la_T_6 isT_1) (fun v5 => ?_)
        exact jm_iret F dX8_book_73 (fun h => h)
      · refine jm_ite (fun c6 => ?_) (fun c6 => ?_)
        · refine jm_tsw (tgt := 74) F dX8_book_18 c6 (by decide) (by decide) rfl (by decide) ?_
          refine jm_aload_n (i := 0) F dX8_book_74 rfl rfl ?_
          refine jm_getR F dX8_book_75 fl_X8_10 lo_X8 rfl ?_
          refine jm_getR F dX8_book_78 fl_X8_139 (lo_T isT_1) rfl ?_
          refine jm_iload_n (i := 1) F dX8_book_81 rfl rfl ?_
          refine jm_iald F dX8_book_82 (la_T_7 isT_1) (fun v7 => ?_)
          exact jm_iret F dX8_book_83 (fun h => h)
        · refine jm_ite (fun c8 => ?_) (fun c8 => ?_)
          · refine jm_tsw (tgt := 84) F dX8_book_18 c8 (by decide) (by decide) rfl (by decide) ?_
            refine jm_aload_n (i := 0) F dX8_book_84 rfl rfl ?_
            refine jm_getR F dX8_book_85 fl_X8_10 lo_X8 rfl ?_
            refine jm_getR F dX8_book_88 fl_X8_130 (lo_T isT_1) rfl ?_
            refine jm_iload_n (i := 1) F dX8_book_91 rfl rfl ?_
            refine jm_iald F dX8_book_92 (la_T_8 isT_1) (fun v9 => ?_)
            exact jm_iret F dX8_book_93 (fun h => h)
          · refine jm_ite (fun c10 => ?_) (fun c10 => ?_)
            · refine jm_tsw (tgt := 94) F dX8_book_18 c10 (by decide) (by decide) rfl (by decide) ?_
              refine jm_aload_n (i := 0) F dX8_book_94 rfl rfl ?_
              refine jm_getR F dX8_book_95 fl_X8_10 lo_X8 rfl ?_
              refine jm_getR F dX8_book_98 fl_X8_123 (lo_T isT_1) rfl ?_
              refine jm_iload_n (i := 1) F dX8_book_101 rfl rfl ?_
              refine jm_iald F dX8_book_102 (la_T_9 isT_1) (fun v11 => ?_)
              exact jm_iret F dX8_book_103 (fun h => h)
            · refine jm_ite (fun c12 => ?_) (fun c12 => ?_)
              · refine jm_tsw (tgt := 104) F dX8_book_18 c12 (by decide) (by decide) rfl (by decide) ?_
                refine jm_aload_n (i := 0) F dX8_book_104 rfl rfl ?_
                refine jm_getR F dX8_book_105 fl_X8_10 lo_X8 rfl ?_
                refine jm_getR F dX8_book_108 fl_X8_142 (lo_T isT_1) rfl ?_
                refine jm_iload_n (i := 1) F dX8_book_111 rfl rfl ?_
                refine jm_iald F dX8_book_112 (la_T_10 isT_1) (fun v13 => ?_)
                exact jm_iret F dX8_book_113 (fun h => h)
              · refine jm_ite (fun c14 => ?_) (fun c14 => ?_)
                · refine jm_tsw (tgt := 114) F dX8_book_18 c14 (by decide) (by decide) rfl (by decide) ?_
                  refine jm_aload_n (i := 0) F dX8_book_114 rfl rfl ?_
                  refine jm_getR F dX8_book_115 fl_X8_10 lo_X8 rfl ?_
                  refine jm_iload_n (i := 1) F dX8_book_118 rfl rfl ?_
                  refine jm_callV (As := [.int p1]) (st := []) (rv := fun r => some (.int r)) (mm := fun _ => M) F dX8_book_119 qX8_145 rfl (lo_T isT_1) rfl (fun r h => kT_weighs E hE isT_1 h) rfl (Nat.le_of_ble_eq_true rfl) ⟨Nat.le_of_ble_eq_true rfl, Nat.le_of_ble_eq_true rfl⟩ (fun r15 => ?_)
                  exact jm_iret F dX8_book_122 (fun h => h)
                · refine jm_ite (fun c16 => ?_) (fun c16 => ?_)
                  · refine jm_tsw (tgt := 123) F dX8_book_18 c16 (by decide) (by decide) rfl (by decide) ?_
                    refine jm_aload_n (i := 0) F dX8_book_123 rfl rfl ?_
                    refine jm_getR F dX8_book_124 fl_X8_10 lo_X8 rfl ?_
                    refine jm_iload_n (i := 1) F dX8_book_127 rfl rfl ?_
                    refine jm_callV (As := [.int p1]) (st := []) (rv := fun r => some (.int r)) (mm := fun _ => M) F dX8_book_128 qX8_148 rfl (lo_T isT_1) rfl (fun r h => kT_priceOf E hE isT_1 h) rfl (Nat.le_of_ble_eq_true rfl) ⟨Nat.le_of_ble_eq_true rfl, Nat.le_of_ble_eq_true rfl⟩ (fun r17 => ?_)
                    exact jm_iret F dX8_book_131 (fun h => h)
                  · refine jm_ite (fun c18 => ?_) (fun c18 => ?_)
                    · refine jm_tsw (tgt := 132) F dX8_book_18 c18 (by decide) (by decide) rfl (by decide) ?_
                      refine jm_aload_n (i := 0) F dX8_book_132 rfl rfl ?_
                      refine jm_getR F dX8_book_133 fl_X8_10 lo_X8 rfl ?_
                      refine jm_getR F dX8_book_136 fl_X8_151 (lo_T isT_1) rfl ?_
                      refine jm_iload_n (i := 1) F dX8_book_139 rfl rfl ?_
                      refine jm_iald F dX8_book_140 (la_T_11 isT_1) (fun v19 => ?_)
                      refine jm_callS (As := [.int v19]) (st := []) (rv := fun r => some (.int r)) (mm := fun _ => M) F dX8_book_141 qX8_154 rfl (fun r h => kI_lengthOf E hE h) rfl (Nat.le_of_ble_eq_true rfl) ⟨Nat.le_of_ble_eq_true rfl, Nat.le_of_ble_eq_true rfl⟩ (fun r20 => ?_)
                      exact jm_iret F dX8_book_144 (fun h => h)
                    · refine jm_tsd (tgt := 145) F dX8_book_18 (by
                          have e0 := jm_ne c4 (a := 0) (by decide)
                          have e1 := jm_ne c6 (a := 1) (by decide)
                          have e2 := jm_ne c8 (a := 2) (by decide)
                          have e3 := jm_ne c10 (a := 3) (by decide)
                          have e4 := jm_ne c12 (a := 4) (by decide)
                          have e5 := jm_ne c14 (a := 5) (by decide)
                          have e6 := jm_ne c16 (a := 6) (by decide)
                          have e7 := jm_ne c18 (a := 7) (by decide)
                          omega) (by decide) ?_
                      refine jm_aload_n (i := 0) F dX8_book_145 rfl rfl ?_
                      refine jm_bipush F dX8_book_146 kb_m2 ?_
                      refine jm_callV (As := [.int (-2)]) (st := []) (rv := fun r => some (.int r.1)) (mm := fun r => r.2) F dX8_book_148 qX8_64 rfl lo_X8 rfl (fun r h => kW_refuse E hE h) rfl (Nat.le_of_ble_eq_true rfl) ⟨Nat.le_of_ble_eq_true rfl, Nat.le_of_ble_eq_true rfl⟩ (fun r21 => ?_)
                      exact jm_iret F dX8_book_151 (fun h => h)
  exact G r h hz
theorem dX6_letterAt_0 : jm_d cX6_letterAt 0 (.iload_n 0) 1 1 := ⟨by decide +kernel, rfl⟩
theorem dX6_letterAt_1 : jm_d cX6_letterAt 1 (.istore_n 2) 1 2 := ⟨by decide +kernel, rfl⟩
theorem dX6_letterAt_2 : jm_d cX6_letterAt 2 (.iload_n 1) 1 3 := ⟨by decide +kernel, rfl⟩
theorem dX6_letterAt_3 : jm_d cX6_letterAt 3 (.iconst 1) 1 4 := ⟨by decide +kernel, rfl⟩
theorem dX6_letterAt_4 : jm_d cX6_letterAt 4 (.iadd) 1 5 := ⟨by decide +kernel, rfl⟩
theorem dX6_letterAt_5 : jm_d cX6_letterAt 5 (.istore_n 3) 1 6 := ⟨by decide +kernel, rfl⟩
theorem dX6_letterAt_6 : jm_d cX6_letterAt 6 (.iload_n 3) 1 7 := ⟨by decide +kernel, rfl⟩
theorem dX6_letterAt_7 : jm_d cX6_letterAt 7 (.iconst 4) 1 8 := ⟨by decide +kernel, rfl⟩
theorem dX6_letterAt_8 : jm_b cX6_letterAt 8 (.if_icmp .ge) 11 22 := ⟨14, by decide +kernel, rfl, by decide⟩
theorem dX6_letterAt_11 : jm_d cX6_letterAt 11 (.iload_n 2) 1 12 := ⟨by decide +kernel, rfl⟩
theorem dX6_letterAt_12 : jm_d cX6_letterAt 12 (.bipush 27) 2 14 := ⟨by decide +kernel, rfl⟩
theorem dX6_letterAt_14 : jm_d cX6_letterAt 14 (.idiv) 1 15 := ⟨by decide +kernel, rfl⟩
theorem dX6_letterAt_15 : jm_d cX6_letterAt 15 (.istore_n 2) 1 16 := ⟨by decide +kernel, rfl⟩
theorem dX6_letterAt_16 : jm_d cX6_letterAt 16 (.iinc 3 1) 3 19 := ⟨by decide +kernel, rfl⟩
theorem dX6_letterAt_19 : jm_b cX6_letterAt 19 .goto 22 6 := ⟨(-13), by decide +kernel, rfl, by decide⟩
theorem dX6_letterAt_22 : jm_d cX6_letterAt 22 (.iload_n 2) 1 23 := ⟨by decide +kernel, rfl⟩
theorem dX6_letterAt_23 : jm_d cX6_letterAt 23 (.bipush 27) 2 25 := ⟨by decide +kernel, rfl⟩
theorem dX6_letterAt_25 : jm_d cX6_letterAt 25 (.irem) 1 26 := ⟨by decide +kernel, rfl⟩
theorem dX6_letterAt_26 : jm_d cX6_letterAt 26 (.iconst 1) 1 27 := ⟨by decide +kernel, rfl⟩
theorem dX6_letterAt_27 : jm_d cX6_letterAt 27 (.isub) 1 28 := ⟨by decide +kernel, rfl⟩
theorem dX6_letterAt_28 : jm_d cX6_letterAt 28 (.ireturn) 1 29 := ⟨by decide +kernel, rfl⟩
set_option maxHeartbeats 4000000 in
set_option maxRecDepth 100000 in
theorem kI_letterAt (E : jm_Ev) (hE : jm_dj E jm_LC) {p1 : Int32} {p2 : Int32} {M : jm_M}  {r : Int32} (h : sI_letterAt p1 p2 = some r) : jm_Ct E jm_LC yX6_letterAt cX6_letterAt 4 (some .int) 0 0 [.int p1, .int p2] M (some (.int r)) M := by
  refine jm_enter (lv := [some (.int p1), some (.int p2), none, none]) hE (by decide) (Nat.le_of_ble_eq_true rfl) rfl ?_
  intro z w F hz
  have G : jm_G w 0 [some (.int p1), some (.int p2), none, none] [] M (sI_letterAt p1 p2) (fun e => z (some (.int e)) M) := by
    unfold sI_letterAt
    refine jm_iload_n (i := 0) F dX6_letterAt_0 rfl rfl ?_
    refine jm_istore_n (i := 2) (lv' := [some (.int p1), some (.int p2), some (.int p1), none]) F dX6_letterAt_1 rfl (by decide) rfl rfl ?_
    refine jm_iload_n (i := 1) F dX6_letterAt_2 rfl rfl ?_
    refine jm_iconst F dX6_letterAt_3 kc_1 ?_
    refine jm_iadd F dX6_letterAt_4 ?_
    refine jm_nameI (f := fun x1 => [.int x1]) (fun x1 => ?_) rfl
    refine jm_istore_n (i := 3) (lv' := [some (.int p1), some (.int p2), some (.int p1), some (.int x1)]) F dX6_letterAt_5 rfl (by decide) rfl rfl ?_
    refine jm_bind (pcJ := 22) (lvJ := fun e5 => [none, none, some (.int e5), none]) (stJ := fun _ => []) (MJ := fun e5 => M) ?_ (fun e5 => ?_)
    · refine jm_weak F (lv' := [none, none, some (.int p1), some (.int x1)]) ⟨rfl, rfl, trivial⟩ ?_
      refine jm_loopR (lvH := fun s2 => [none, none, some (.int s2.1), some (.int s2.2)]) (MH := fun s2 => M) (fun s2 => ?_) jm_N (p1, x1)
      unfold sI_letterAt_L6
      refine jm_iload_n (i := 3) F dX6_letterAt_6 rfl rfl ?_
      refine jm_iconst F dX6_letterAt_7 kc_4 ?_
      refine jm_icmp_ge F dX6_letterAt_8 (fun c3 => ?_) (fun c3 => ?_)
      · exact jm_weakD F (lv' := [none, none, some (.int s2.1), none]) ⟨rfl, trivial⟩ (fun h => h)
      · refine jm_iload_n (i := 2) F dX6_letterAt_11 rfl rfl ?_
        refine jm_bipush F dX6_letterAt_12 kb_27 ?_
        refine jm_idiv F dX6_letterAt_14 (fun v4 => ?_)
        refine jm_istore_n (i := 2) (lv' := [none, none, some (.int v4), some (.int s2.2)]) F dX6_letterAt_15 rfl (by decide) rfl rfl ?_
        refine jm_iinc (i := 3) (lv' := [none, none, some (.int v4), some (.int (s2.2 + 1))]) F dX6_letterAt_16 kc_1 rfl (by decide) rfl rfl ?_
        refine jm_goto F dX6_letterAt_19 ?_
        exact jm_weakD F (lv' := [none, none, some (.int v4), some (.int (s2.2 + 1))]) ⟨rfl, rfl, trivial⟩ (fun h => h)
    · refine jm_iload_n (i := 2) F dX6_letterAt_22 rfl rfl ?_
      refine jm_bipush F dX6_letterAt_23 kb_27 ?_
      refine jm_irem F dX6_letterAt_25 (fun v6 => ?_)
      refine jm_iconst F dX6_letterAt_26 kc_1 ?_
      refine jm_isub F dX6_letterAt_27 ?_
      exact jm_iret F dX6_letterAt_28 (fun h => h)
  exact G r h hz
theorem dX8_title_0 : jm_d cX8_title 0 (.aload_n 0) 1 1 := ⟨by decide +kernel, rfl⟩
theorem dX8_title_1 : jm_d cX8_title 1 (.getfield 10) 3 4 := ⟨by decide +kernel, rfl⟩
theorem dX8_title_4 : jm_d cX8_title 4 (.iload_n 1) 1 5 := ⟨by decide +kernel, rfl⟩
theorem dX8_title_5 : jm_d cX8_title 5 (.invokevirtual 133) 3 8 := ⟨by decide +kernel, rfl⟩
theorem dX8_title_8 : jm_b cX8_title 8 (.ifCond .ne) 11 17 := ⟨9, by decide +kernel, rfl, by decide⟩
theorem dX8_title_11 : jm_d cX8_title 11 (.aload_n 0) 1 12 := ⟨by decide +kernel, rfl⟩
theorem dX8_title_12 : jm_d cX8_title 12 (.iconst (-1)) 1 13 := ⟨by decide +kernel, rfl⟩
theorem dX8_title_13 : jm_d cX8_title 13 (.invokevirtual 64) 3 16 := ⟨by decide +kernel, rfl⟩
theorem dX8_title_16 : jm_d cX8_title 16 (.ireturn) 1 17 := ⟨by decide +kernel, rfl⟩
theorem dX8_title_17 : jm_d cX8_title 17 (.iload_n 2) 1 18 := ⟨by decide +kernel, rfl⟩
theorem dX8_title_18 : jm_b cX8_title 18 (.ifCond .ge) 21 28 := ⟨10, by decide +kernel, rfl, by decide⟩
theorem dX8_title_28 : jm_d cX8_title 28 (.iload_n 2) 1 29 := ⟨by decide +kernel, rfl⟩
theorem dX8_title_29 : jm_d cX8_title 29 (.aload_n 0) 1 30 := ⟨by decide +kernel, rfl⟩
theorem dX8_title_30 : jm_d cX8_title 30 (.getfield 10) 3 33 := ⟨by decide +kernel, rfl⟩
theorem dX8_title_33 : jm_d cX8_title 33 (.getfield 151) 3 36 := ⟨by decide +kernel, rfl⟩
theorem dX8_title_36 : jm_d cX8_title 36 (.iload_n 1) 1 37 := ⟨by decide +kernel, rfl⟩
theorem dX8_title_37 : jm_d cX8_title 37 (.iaload) 1 38 := ⟨by decide +kernel, rfl⟩
theorem dX8_title_38 : jm_d cX8_title 38 (.invokestatic 154) 3 41 := ⟨by decide +kernel, rfl⟩
theorem dX8_title_41 : jm_b cX8_title 41 (.if_icmp .lt) 44 47 := ⟨6, by decide +kernel, rfl, by decide⟩
theorem dX8_title_47 : jm_d cX8_title 47 (.aload_n 0) 1 48 := ⟨by decide +kernel, rfl⟩
theorem dX8_title_48 : jm_d cX8_title 48 (.getfield 10) 3 51 := ⟨by decide +kernel, rfl⟩
theorem dX8_title_51 : jm_d cX8_title 51 (.getfield 151) 3 54 := ⟨by decide +kernel, rfl⟩
theorem dX8_title_54 : jm_d cX8_title 54 (.iload_n 1) 1 55 := ⟨by decide +kernel, rfl⟩
theorem dX8_title_55 : jm_d cX8_title 55 (.iaload) 1 56 := ⟨by decide +kernel, rfl⟩
theorem dX8_title_56 : jm_d cX8_title 56 (.iload_n 2) 1 57 := ⟨by decide +kernel, rfl⟩
theorem dX8_title_57 : jm_d cX8_title 57 (.invokestatic 157) 3 60 := ⟨by decide +kernel, rfl⟩
theorem dX8_title_60 : jm_d cX8_title 60 (.ireturn) 1 61 := ⟨by decide +kernel, rfl⟩
theorem dX8_title_44 : jm_d cX8_title 44 (.bipush (-9)) 2 46 := ⟨by decide +kernel, rfl⟩
theorem dX8_title_46 : jm_d cX8_title 46 (.ireturn) 1 47 := ⟨by decide +kernel, rfl⟩
theorem dX8_title_21 : jm_d cX8_title 21 (.aload_n 0) 1 22 := ⟨by decide +kernel, rfl⟩
theorem dX8_title_22 : jm_d cX8_title 22 (.bipush (-4)) 2 24 := ⟨by decide +kernel, rfl⟩
theorem dX8_title_24 : jm_d cX8_title 24 (.invokevirtual 64) 3 27 := ⟨by decide +kernel, rfl⟩
theorem dX8_title_27 : jm_d cX8_title 27 (.ireturn) 1 28 := ⟨by decide +kernel, rfl⟩
set_option maxHeartbeats 4000000 in
set_option maxRecDepth 100000 in
theorem kW_title (E : jm_Ev) (hE : jm_dj E jm_LC) {M : jm_M} {p1 : Int32} {p2 : Int32}  {r : Int32 × jm_M} (h : sW_title M p1 p2 = some r) : jm_Ct E jm_LC yX8_title cX8_title 3 (some .int) 1 23 [.ref (jm_a E 0 0), .int p1, .int p2] M (some (.int r.1)) r.2 := by
  refine jm_enter (lv := [some (.ref (jm_a E 0 0)), some (.int p1), some (.int p2)]) hE (by decide) (Nat.le_of_ble_eq_true rfl) rfl ?_
  intro z w F hz
  have G : jm_G w 0 [some (.ref (jm_a E 0 0)), some (.int p1), some (.int p2)] [] M (sW_title M p1 p2) (fun e => z (some (.int e.1)) e.2) := by
    unfold sW_title
    refine jm_aload_n (i := 0) F dX8_title_0 rfl rfl ?_
    refine jm_getR F dX8_title_1 fl_X8_10 lo_X8 rfl ?_
    refine jm_iload_n (i := 1) F dX8_title_4 rfl rfl ?_
    refine jm_callV (As := [.int p1]) (st := []) (rv := fun r => some (.int r)) (mm := fun _ => M) F dX8_title_5 qX8_133 rfl (lo_T isT_1) rfl (fun r h => kT_hasBook E hE isT_1 h) rfl (Nat.le_of_ble_eq_true rfl) ⟨Nat.le_of_ble_eq_true rfl, Nat.le_of_ble_eq_true rfl⟩ (fun r1 => ?_)
    refine jm_if_ne F dX8_title_8 (fun c2 => ?_) (fun c2 => ?_)
    · refine jm_aload_n (i := 0) F dX8_title_11 rfl rfl ?_
      refine jm_iconst F dX8_title_12 kc_m1 ?_
      refine jm_callV (As := [.int (-1)]) (st := []) (rv := fun r => some (.int r.1)) (mm := fun r => r.2) F dX8_title_13 qX8_64 rfl lo_X8 rfl (fun r h => kW_refuse E hE h) rfl (Nat.le_of_ble_eq_true rfl) ⟨Nat.le_of_ble_eq_true rfl, Nat.le_of_ble_eq_true rfl⟩ (fun r3 => ?_)
      exact jm_iret F dX8_title_16 (fun h => h)
    · refine jm_iload_n (i := 2) F dX8_title_17 rfl rfl ?_
      refine jm_if_ge F dX8_title_18 (fun c4 => ?_) (fun c4 => ?_)
      · refine jm_iload_n (i := 2) F dX8_title_28 rfl rfl ?_
        refine jm_aload_n (i := 0) F dX8_title_29 rfl rfl ?_
        refine jm_getR F dX8_title_30 fl_X8_10 lo_X8 rfl ?_
        refine jm_getR F dX8_title_33 fl_X8_151 (lo_T isT_1) rfl ?_
        refine jm_iload_n (i := 1) F dX8_title_36 rfl rfl ?_
        refine jm_iald F dX8_title_37 (la_T_11 isT_1) (fun v5 => ?_)
        refine jm_callS (As := [.int v5]) (st := [.int p2]) (rv := fun r => some (.int r)) (mm := fun _ => M) F dX8_title_38 qX8_154 rfl (fun r h => kI_lengthOf E hE h) rfl (Nat.le_of_ble_eq_true rfl) ⟨Nat.le_of_ble_eq_true rfl, Nat.le_of_ble_eq_true rfl⟩ (fun r6 => ?_)
        refine jm_icmp_lt F dX8_title_41 (fun c7 => ?_) (fun c7 => ?_)
        · refine jm_aload_n (i := 0) F dX8_title_47 rfl rfl ?_
          refine jm_getR F dX8_title_48 fl_X8_10 lo_X8 rfl ?_
          refine jm_getR F dX8_title_51 fl_X8_151 (lo_T isT_1) rfl ?_
          refine jm_iload_n (i := 1) F dX8_title_54 rfl rfl ?_
          refine jm_iald F dX8_title_55 (la_T_11 isT_1) (fun v8 => ?_)
          refine jm_iload_n (i := 2) F dX8_title_56 rfl rfl ?_
          refine jm_callS (As := [.int v8, .int p2]) (st := []) (rv := fun r => some (.int r)) (mm := fun _ => M) F dX8_title_57 qX8_157 rfl (fun r h => kI_letterAt E hE h) rfl (Nat.le_of_ble_eq_true rfl) ⟨Nat.le_of_ble_eq_true rfl, Nat.le_of_ble_eq_true rfl⟩ (fun r9 => ?_)
          exact jm_iret F dX8_title_60 (fun h => h)
        · refine jm_bipush F dX8_title_44 kb_m9 ?_
          exact jm_iret F dX8_title_46 (fun h => h)
      · refine jm_aload_n (i := 0) F dX8_title_21 rfl rfl ?_
        refine jm_bipush F dX8_title_22 kb_m4 ?_
        refine jm_callV (As := [.int (-4)]) (st := []) (rv := fun r => some (.int r.1)) (mm := fun r => r.2) F dX8_title_24 qX8_64 rfl lo_X8 rfl (fun r h => kW_refuse E hE h) rfl (Nat.le_of_ble_eq_true rfl) ⟨Nat.le_of_ble_eq_true rfl, Nat.le_of_ble_eq_true rfl⟩ (fun r10 => ?_)
        exact jm_iret F dX8_title_27 (fun h => h)
  exact G r h hz
theorem dX4_keep_0 : jm_d cX4_keep 0 (.aload_n 0) 1 1 := ⟨by decide +kernel, rfl⟩
theorem dX4_keep_1 : jm_d cX4_keep 1 (.aload_n 0) 1 2 := ⟨by decide +kernel, rfl⟩
theorem dX4_keep_2 : jm_d cX4_keep 2 (.getfield 17) 3 5 := ⟨by decide +kernel, rfl⟩
theorem dX4_keep_5 : jm_d cX4_keep 5 (.iconst 1) 1 6 := ⟨by decide +kernel, rfl⟩
theorem dX4_keep_6 : jm_d cX4_keep 6 (.iadd) 1 7 := ⟨by decide +kernel, rfl⟩
theorem dX4_keep_7 : jm_d cX4_keep 7 (.bipush 8) 2 9 := ⟨by decide +kernel, rfl⟩
theorem dX4_keep_9 : jm_d cX4_keep 9 (.irem) 1 10 := ⟨by decide +kernel, rfl⟩
theorem dX4_keep_10 : jm_d cX4_keep 10 (.putfield 17) 3 13 := ⟨by decide +kernel, rfl⟩
theorem dX4_keep_13 : jm_d cX4_keep 13 (.aload_n 0) 1 14 := ⟨by decide +kernel, rfl⟩
theorem dX4_keep_14 : jm_d cX4_keep 14 (.bipush 8) 2 16 := ⟨by decide +kernel, rfl⟩
theorem dX4_keep_16 : jm_d cX4_keep 16 (.aload_n 0) 1 17 := ⟨by decide +kernel, rfl⟩
theorem dX4_keep_17 : jm_d cX4_keep 17 (.getfield 22) 3 20 := ⟨by decide +kernel, rfl⟩
theorem dX4_keep_20 : jm_d cX4_keep 20 (.iconst 1) 1 21 := ⟨by decide +kernel, rfl⟩
theorem dX4_keep_21 : jm_d cX4_keep 21 (.iadd) 1 22 := ⟨by decide +kernel, rfl⟩
theorem dX4_keep_22 : jm_d cX4_keep 22 (.invokestatic 25) 3 25 := ⟨by decide +kernel, rfl⟩
theorem dX4_keep_25 : jm_d cX4_keep 25 (.putfield 22) 3 28 := ⟨by decide +kernel, rfl⟩
theorem dX4_keep_28 : jm_d cX4_keep 28 (.aload_n 0) 1 29 := ⟨by decide +kernel, rfl⟩
theorem dX4_keep_29 : jm_d cX4_keep 29 (.getfield 11) 3 32 := ⟨by decide +kernel, rfl⟩
theorem dX4_keep_32 : jm_d cX4_keep 32 (.aload_n 0) 1 33 := ⟨by decide +kernel, rfl⟩
theorem dX4_keep_33 : jm_d cX4_keep 33 (.getfield 17) 3 36 := ⟨by decide +kernel, rfl⟩
theorem dX4_keep_36 : jm_d cX4_keep 36 (.aaload) 1 37 := ⟨by decide +kernel, rfl⟩
theorem dX4_keep_37 : jm_d cX4_keep 37 (.astore_n 2) 1 38 := ⟨by decide +kernel, rfl⟩
theorem dX4_keep_38 : jm_d cX4_keep 38 (.aload_n 2) 1 39 := ⟨by decide +kernel, rfl⟩
theorem dX4_keep_39 : jm_b cX4_keep 39 .ifnull 42 47 := ⟨8, by decide +kernel, rfl, by decide⟩
theorem dX4_keep_42 : jm_d cX4_keep 42 (.aload_n 2) 1 43 := ⟨by decide +kernel, rfl⟩
theorem dX4_keep_43 : jm_d cX4_keep 43 (.aload_n 1) 1 44 := ⟨by decide +kernel, rfl⟩
theorem dX4_keep_44 : jm_d cX4_keep 44 (.invokevirtual 31) 3 47 := ⟨by decide +kernel, rfl⟩
theorem dX4_keep_47 : jm_d cX4_keep 47 (.return_) 1 48 := ⟨by decide +kernel, rfl⟩
set_option maxHeartbeats 4000000 in
set_option maxRecDepth 100000 in
theorem kP_keep (E : jm_Ev) (hE : jm_dj E jm_LC) {M : jm_M} {p1 : Nat} (hp1 : jm_isT p1) {r : jm_M} (h : sP_keep M p1 = some r) : jm_Ct E jm_LC yX4_keep cX4_keep 3 none 2 61 [.ref (jm_a E 13 0), .ref (jm_a E p1 0)] M none r := by
  refine jm_enter (lv := [some (.ref (jm_a E 13 0)), some (.ref (jm_a E p1 0)), none]) hE (by decide) (Nat.le_of_ble_eq_true rfl) rfl ?_
  intro z w F hz
  have G : jm_G w 0 [some (.ref (jm_a E 13 0)), some (.ref (jm_a E p1 0)), none] [] M (sP_keep M p1) (fun e => z none e) := by
    unfold sP_keep
    refine jm_aload_n (i := 0) F dX4_keep_0 rfl rfl ?_
    refine jm_aload_n (i := 0) F dX4_keep_1 rfl rfl ?_
    refine jm_getI F dX4_keep_2 fl_X4_17 lo_X4 rfl ?_
    refine jm_iconst F dX4_keep_5 kc_1 ?_
    refine jm_iadd F dX4_keep_6 ?_
    refine jm_bipush F dX4_keep_7 kb_8 ?_
    refine jm_irem F dX4_keep_9 (fun v1 => ?_)
    refine jm_putI F dX4_keep_10 fp_X4_17 lo_X4 rfl (fun M2 => ?_)
    refine jm_aload_n (i := 0) F dX4_keep_13 rfl rfl ?_
    refine jm_bipush F dX4_keep_14 kb_8 ?_
    refine jm_aload_n (i := 0) F dX4_keep_16 rfl rfl ?_
    refine jm_getI F dX4_keep_17 fl_X4_22 lo_X4 rfl ?_
    refine jm_iconst F dX4_keep_20 kc_1 ?_
    refine jm_iadd F dX4_keep_21 ?_
    refine jm_mmin F dX4_keep_22 tw_573 tw_485 tw_92 tw_486 ⟨Nat.le_of_ble_eq_true rfl, Nat.le_of_ble_eq_true rfl⟩ ?_
    refine jm_putI F dX4_keep_25 fp_X4_22 lo_X4 rfl (fun M3 => ?_)
    refine jm_aload_n (i := 0) F dX4_keep_28 rfl rfl ?_
    refine jm_getR F dX4_keep_29 fl_X4_11 lo_X4 rfl ?_
    refine jm_aload_n (i := 0) F dX4_keep_32 rfl rfl ?_
    refine jm_getI F dX4_keep_33 fl_X4_17 lo_X4 rfl ?_
    refine jm_aald (b := 5) F dX4_keep_36 lr_X4_1 rfl jm_keptk (fun k4 hk4 => ?_)
    refine jm_astore_n (i := 2) (lv' := [some (.ref (jm_a E 13 0)), some (.ref (jm_a E p1 0)), some (.ref (jm_a E (5 + k4) 0))]) F dX4_keep_37 rfl (by decide) rfl rfl ?_
    refine jm_aload_n (i := 2) F dX4_keep_38 rfl rfl ?_
    refine jm_ifnull F dX4_keep_39 ?_
    refine jm_aload_n (i := 2) F dX4_keep_42 rfl rfl ?_
    refine jm_aload_n (i := 1) F dX4_keep_43 rfl rfl ?_
    refine jm_callV (As := [.ref (jm_a E p1 0)]) (st := []) (rv := fun _ => none) (mm := fun r => r) F dX4_keep_44 qX4_31 rfl (lo_T (isT_k hk4)) rfl (fun r h => kT_copyFrom E hE (isT_k hk4) hp1 h) rfl (Nat.le_of_ble_eq_true rfl) ⟨Nat.le_of_ble_eq_true rfl, Nat.le_of_ble_eq_true rfl⟩ (fun r5 => ?_)
    exact jm_vret F dX4_keep_47 (fun h => h)
  exact G r h hz
theorem dX8_eats_0 : jm_d cX8_eats 0 (.aload_n 0) 1 1 := ⟨by decide +kernel, rfl⟩
theorem dX8_eats_1 : jm_d cX8_eats 1 (.getfield 10) 3 4 := ⟨by decide +kernel, rfl⟩
theorem dX8_eats_4 : jm_d cX8_eats 4 (.iload_n 1) 1 5 := ⟨by decide +kernel, rfl⟩
theorem dX8_eats_5 : jm_d cX8_eats 5 (.invokevirtual 108) 3 8 := ⟨by decide +kernel, rfl⟩
theorem dX8_eats_8 : jm_b cX8_eats 8 (.ifCond .ne) 11 17 := ⟨9, by decide +kernel, rfl, by decide⟩
theorem dX8_eats_11 : jm_d cX8_eats 11 (.aload_n 0) 1 12 := ⟨by decide +kernel, rfl⟩
theorem dX8_eats_12 : jm_d cX8_eats 12 (.iconst (-1)) 1 13 := ⟨by decide +kernel, rfl⟩
theorem dX8_eats_13 : jm_d cX8_eats 13 (.invokevirtual 64) 3 16 := ⟨by decide +kernel, rfl⟩
theorem dX8_eats_16 : jm_d cX8_eats 16 (.ireturn) 1 17 := ⟨by decide +kernel, rfl⟩
theorem dX8_eats_17 : jm_d cX8_eats 17 (.iload_n 2) 1 18 := ⟨by decide +kernel, rfl⟩
theorem dX8_eats_18 : jm_b cX8_eats 18 (.ifCond .ge) 21 28 := ⟨10, by decide +kernel, rfl, by decide⟩
theorem dX8_eats_28 : jm_d cX8_eats 28 (.iload_n 2) 1 29 := ⟨by decide +kernel, rfl⟩
theorem dX8_eats_29 : jm_d cX8_eats 29 (.bipush 99) 2 31 := ⟨by decide +kernel, rfl⟩
theorem dX8_eats_31 : jm_b cX8_eats 31 (.if_icmp .le) 34 41 := ⟨10, by decide +kernel, rfl, by decide⟩
theorem dX8_eats_41 : jm_d cX8_eats 41 (.aload_n 0) 1 42 := ⟨by decide +kernel, rfl⟩
theorem dX8_eats_42 : jm_d cX8_eats 42 (.getfield 19) 3 45 := ⟨by decide +kernel, rfl⟩
theorem dX8_eats_45 : jm_d cX8_eats 45 (.aload_n 0) 1 46 := ⟨by decide +kernel, rfl⟩
theorem dX8_eats_46 : jm_d cX8_eats 46 (.getfield 10) 3 49 := ⟨by decide +kernel, rfl⟩
theorem dX8_eats_49 : jm_d cX8_eats 49 (.invokevirtual 161) 3 52 := ⟨by decide +kernel, rfl⟩
theorem dX8_eats_52 : jm_d cX8_eats 52 (.aload_n 0) 1 53 := ⟨by decide +kernel, rfl⟩
theorem dX8_eats_53 : jm_d cX8_eats 53 (.getfield 10) 3 56 := ⟨by decide +kernel, rfl⟩
theorem dX8_eats_56 : jm_d cX8_eats 56 (.getfield 111) 3 59 := ⟨by decide +kernel, rfl⟩
theorem dX8_eats_59 : jm_d cX8_eats 59 (.iload_n 1) 1 60 := ⟨by decide +kernel, rfl⟩
theorem dX8_eats_60 : jm_d cX8_eats 60 (.iaload) 1 61 := ⟨by decide +kernel, rfl⟩
theorem dX8_eats_61 : jm_d cX8_eats 61 (.istore_n 3) 1 62 := ⟨by decide +kernel, rfl⟩
theorem dX8_eats_62 : jm_d cX8_eats 62 (.aload_n 0) 1 63 := ⟨by decide +kernel, rfl⟩
theorem dX8_eats_63 : jm_d cX8_eats 63 (.getfield 10) 3 66 := ⟨by decide +kernel, rfl⟩
theorem dX8_eats_66 : jm_d cX8_eats 66 (.getfield 111) 3 69 := ⟨by decide +kernel, rfl⟩
theorem dX8_eats_69 : jm_d cX8_eats 69 (.iload_n 1) 1 70 := ⟨by decide +kernel, rfl⟩
theorem dX8_eats_70 : jm_d cX8_eats 70 (.iload_n 2) 1 71 := ⟨by decide +kernel, rfl⟩
theorem dX8_eats_71 : jm_d cX8_eats 71 (.iastore) 1 72 := ⟨by decide +kernel, rfl⟩
theorem dX8_eats_72 : jm_d cX8_eats 72 (.iload_n 3) 1 73 := ⟨by decide +kernel, rfl⟩
theorem dX8_eats_73 : jm_d cX8_eats 73 (.ireturn) 1 74 := ⟨by decide +kernel, rfl⟩
theorem dX8_eats_34 : jm_d cX8_eats 34 (.aload_n 0) 1 35 := ⟨by decide +kernel, rfl⟩
theorem dX8_eats_35 : jm_d cX8_eats 35 (.bipush (-6)) 2 37 := ⟨by decide +kernel, rfl⟩
theorem dX8_eats_37 : jm_d cX8_eats 37 (.invokevirtual 64) 3 40 := ⟨by decide +kernel, rfl⟩
theorem dX8_eats_40 : jm_d cX8_eats 40 (.ireturn) 1 41 := ⟨by decide +kernel, rfl⟩
theorem dX8_eats_21 : jm_d cX8_eats 21 (.aload_n 0) 1 22 := ⟨by decide +kernel, rfl⟩
theorem dX8_eats_22 : jm_d cX8_eats 22 (.bipush (-4)) 2 24 := ⟨by decide +kernel, rfl⟩
theorem dX8_eats_24 : jm_d cX8_eats 24 (.invokevirtual 64) 3 27 := ⟨by decide +kernel, rfl⟩
theorem dX8_eats_27 : jm_d cX8_eats 27 (.ireturn) 1 28 := ⟨by decide +kernel, rfl⟩
set_option maxHeartbeats 4000000 in
set_option maxRecDepth 100000 in
theorem kW_eats (E : jm_Ev) (hE : jm_dj E jm_LC) {M : jm_M} {p1 : Int32} {p2 : Int32}  {r : Int32 × jm_M} (h : sW_eats M p1 p2 = some r) : jm_Ct E jm_LC yX8_eats cX8_eats 4 (some .int) 3 83 [.ref (jm_a E 0 0), .int p1, .int p2] M (some (.int r.1)) r.2 := by
  refine jm_enter (lv := [some (.ref (jm_a E 0 0)), some (.int p1), some (.int p2), none]) hE (by decide) (Nat.le_of_ble_eq_true rfl) rfl ?_
  intro z w F hz
  have G : jm_G w 0 [some (.ref (jm_a E 0 0)), some (.int p1), some (.int p2), none] [] M (sW_eats M p1 p2) (fun e => z (some (.int e.1)) e.2) := by
    unfold sW_eats
    refine jm_aload_n (i := 0) F dX8_eats_0 rfl rfl ?_
    refine jm_getR F dX8_eats_1 fl_X8_10 lo_X8 rfl ?_
    refine jm_iload_n (i := 1) F dX8_eats_4 rfl rfl ?_
    refine jm_callV (As := [.int p1]) (st := []) (rv := fun r => some (.int r)) (mm := fun _ => M) F dX8_eats_5 qX8_108 rfl (lo_T isT_1) rfl (fun r h => kT_hasPerson E hE isT_1 h) rfl (Nat.le_of_ble_eq_true rfl) ⟨Nat.le_of_ble_eq_true rfl, Nat.le_of_ble_eq_true rfl⟩ (fun r1 => ?_)
    refine jm_if_ne F dX8_eats_8 (fun c2 => ?_) (fun c2 => ?_)
    · refine jm_aload_n (i := 0) F dX8_eats_11 rfl rfl ?_
      refine jm_iconst F dX8_eats_12 kc_m1 ?_
      refine jm_callV (As := [.int (-1)]) (st := []) (rv := fun r => some (.int r.1)) (mm := fun r => r.2) F dX8_eats_13 qX8_64 rfl lo_X8 rfl (fun r h => kW_refuse E hE h) rfl (Nat.le_of_ble_eq_true rfl) ⟨Nat.le_of_ble_eq_true rfl, Nat.le_of_ble_eq_true rfl⟩ (fun r3 => ?_)
      exact jm_iret F dX8_eats_16 (fun h => h)
    · refine jm_iload_n (i := 2) F dX8_eats_17 rfl rfl ?_
      refine jm_if_ge F dX8_eats_18 (fun c4 => ?_) (fun c4 => ?_)
      · refine jm_iload_n (i := 2) F dX8_eats_28 rfl rfl ?_
        refine jm_bipush F dX8_eats_29 kb_99 ?_
        refine jm_icmp_le F dX8_eats_31 (fun c5 => ?_) (fun c5 => ?_)
        · refine jm_aload_n (i := 0) F dX8_eats_41 rfl rfl ?_
          refine jm_getR F dX8_eats_42 fl_X8_19 lo_X8 rfl ?_
          refine jm_aload_n (i := 0) F dX8_eats_45 rfl rfl ?_
          refine jm_getR F dX8_eats_46 fl_X8_10 lo_X8 rfl ?_
          refine jm_callV (As := [.ref (jm_a E 1 0)]) (st := []) (rv := fun _ => none) (mm := fun r => r) F dX8_eats_49 qX8_161 rfl lo_X4 rfl (fun r h => kP_keep E hE isT_1 h) rfl (Nat.le_of_ble_eq_true rfl) ⟨Nat.le_of_ble_eq_true rfl, Nat.le_of_ble_eq_true rfl⟩ (fun r6 => ?_)
          refine jm_aload_n (i := 0) F dX8_eats_52 rfl rfl ?_
          refine jm_getR F dX8_eats_53 fl_X8_10 lo_X8 rfl ?_
          refine jm_getR F dX8_eats_56 fl_X8_111 (lo_T isT_1) rfl ?_
          refine jm_iload_n (i := 1) F dX8_eats_59 rfl rfl ?_
          refine jm_iald F dX8_eats_60 (la_T_2 isT_1) (fun v7 => ?_)
          refine jm_istore_n (i := 3) (lv' := [some (.ref (jm_a E 0 0)), some (.int p1), some (.int p2), some (.int v7)]) F dX8_eats_61 rfl (by decide) rfl rfl ?_
          refine jm_aload_n (i := 0) F dX8_eats_62 rfl rfl ?_
          refine jm_getR F dX8_eats_63 fl_X8_10 lo_X8 rfl ?_
          refine jm_getR F dX8_eats_66 fl_X8_111 (lo_T isT_1) rfl ?_
          refine jm_iload_n (i := 1) F dX8_eats_69 rfl rfl ?_
          refine jm_iload_n (i := 2) F dX8_eats_70 rfl rfl ?_
          refine jm_iast F dX8_eats_71 (la_T_2 isT_1) (fun M8 => ?_)
          refine jm_iload_n (i := 3) F dX8_eats_72 rfl rfl ?_
          exact jm_iret F dX8_eats_73 (fun h => h)
        · refine jm_aload_n (i := 0) F dX8_eats_34 rfl rfl ?_
          refine jm_bipush F dX8_eats_35 kb_m6 ?_
          refine jm_callV (As := [.int (-6)]) (st := []) (rv := fun r => some (.int r.1)) (mm := fun r => r.2) F dX8_eats_37 qX8_64 rfl lo_X8 rfl (fun r h => kW_refuse E hE h) rfl (Nat.le_of_ble_eq_true rfl) ⟨Nat.le_of_ble_eq_true rfl, Nat.le_of_ble_eq_true rfl⟩ (fun r9 => ?_)
          exact jm_iret F dX8_eats_40 (fun h => h)
      · refine jm_aload_n (i := 0) F dX8_eats_21 rfl rfl ?_
        refine jm_bipush F dX8_eats_22 kb_m4 ?_
        refine jm_callV (As := [.int (-4)]) (st := []) (rv := fun r => some (.int r.1)) (mm := fun r => r.2) F dX8_eats_24 qX8_64 rfl lo_X8 rfl (fun r h => kW_refuse E hE h) rfl (Nat.le_of_ble_eq_true rfl) ⟨Nat.le_of_ble_eq_true rfl, Nat.le_of_ble_eq_true rfl⟩ (fun r10 => ?_)
        exact jm_iret F dX8_eats_27 (fun h => h)
  exact G r h hz
theorem dX8_reads_0 : jm_d cX8_reads 0 (.aload_n 0) 1 1 := ⟨by decide +kernel, rfl⟩
theorem dX8_reads_1 : jm_d cX8_reads 1 (.getfield 10) 3 4 := ⟨by decide +kernel, rfl⟩
theorem dX8_reads_4 : jm_d cX8_reads 4 (.iload_n 1) 1 5 := ⟨by decide +kernel, rfl⟩
theorem dX8_reads_5 : jm_d cX8_reads 5 (.invokevirtual 108) 3 8 := ⟨by decide +kernel, rfl⟩
theorem dX8_reads_8 : jm_b cX8_reads 8 (.ifCond .eq) 11 22 := ⟨14, by decide +kernel, rfl, by decide⟩
theorem dX8_reads_22 : jm_d cX8_reads 22 (.aload_n 0) 1 23 := ⟨by decide +kernel, rfl⟩
theorem dX8_reads_23 : jm_d cX8_reads 23 (.iconst (-1)) 1 24 := ⟨by decide +kernel, rfl⟩
theorem dX8_reads_24 : jm_d cX8_reads 24 (.invokevirtual 64) 3 27 := ⟨by decide +kernel, rfl⟩
theorem dX8_reads_27 : jm_d cX8_reads 27 (.ireturn) 1 28 := ⟨by decide +kernel, rfl⟩
theorem dX8_reads_11 : jm_d cX8_reads 11 (.aload_n 0) 1 12 := ⟨by decide +kernel, rfl⟩
theorem dX8_reads_12 : jm_d cX8_reads 12 (.getfield 10) 3 15 := ⟨by decide +kernel, rfl⟩
theorem dX8_reads_15 : jm_d cX8_reads 15 (.iload_n 2) 1 16 := ⟨by decide +kernel, rfl⟩
theorem dX8_reads_16 : jm_d cX8_reads 16 (.invokevirtual 133) 3 19 := ⟨by decide +kernel, rfl⟩
theorem dX8_reads_19 : jm_b cX8_reads 19 (.ifCond .ne) 22 28 := ⟨9, by decide +kernel, rfl, by decide⟩
theorem dX8_reads_28 : jm_d cX8_reads 28 (.aload_n 0) 1 29 := ⟨by decide +kernel, rfl⟩
theorem dX8_reads_29 : jm_d cX8_reads 29 (.getfield 19) 3 32 := ⟨by decide +kernel, rfl⟩
theorem dX8_reads_32 : jm_d cX8_reads 32 (.aload_n 0) 1 33 := ⟨by decide +kernel, rfl⟩
theorem dX8_reads_33 : jm_d cX8_reads 33 (.getfield 10) 3 36 := ⟨by decide +kernel, rfl⟩
theorem dX8_reads_36 : jm_d cX8_reads 36 (.invokevirtual 161) 3 39 := ⟨by decide +kernel, rfl⟩
theorem dX8_reads_39 : jm_d cX8_reads 39 (.iconst 1) 1 40 := ⟨by decide +kernel, rfl⟩
theorem dX8_reads_40 : jm_d cX8_reads 40 (.aload_n 0) 1 41 := ⟨by decide +kernel, rfl⟩
theorem dX8_reads_41 : jm_d cX8_reads 41 (.getfield 10) 3 44 := ⟨by decide +kernel, rfl⟩
theorem dX8_reads_44 : jm_d cX8_reads 44 (.iload_n 1) 1 45 := ⟨by decide +kernel, rfl⟩
theorem dX8_reads_45 : jm_d cX8_reads 45 (.iload_n 2) 1 46 := ⟨by decide +kernel, rfl⟩
theorem dX8_reads_46 : jm_d cX8_reads 46 (.invokevirtual 165) 3 49 := ⟨by decide +kernel, rfl⟩
theorem dX8_reads_49 : jm_d cX8_reads 49 (.isub) 1 50 := ⟨by decide +kernel, rfl⟩
theorem dX8_reads_50 : jm_d cX8_reads 50 (.istore_n 3) 1 51 := ⟨by decide +kernel, rfl⟩
theorem dX8_reads_51 : jm_d cX8_reads 51 (.aload_n 0) 1 52 := ⟨by decide +kernel, rfl⟩
theorem dX8_reads_52 : jm_d cX8_reads 52 (.getfield 10) 3 55 := ⟨by decide +kernel, rfl⟩
theorem dX8_reads_55 : jm_d cX8_reads 55 (.getfield 142) 3 58 := ⟨by decide +kernel, rfl⟩
theorem dX8_reads_58 : jm_d cX8_reads 58 (.iload_n 2) 1 59 := ⟨by decide +kernel, rfl⟩
theorem dX8_reads_59 : jm_d cX8_reads 59 (.dup2) 1 60 := ⟨by decide +kernel, rfl⟩
theorem dX8_reads_60 : jm_d cX8_reads 60 (.iaload) 1 61 := ⟨by decide +kernel, rfl⟩
theorem dX8_reads_61 : jm_d cX8_reads 61 (.iconst 1) 1 62 := ⟨by decide +kernel, rfl⟩
theorem dX8_reads_62 : jm_d cX8_reads 62 (.iload_n 1) 1 63 := ⟨by decide +kernel, rfl⟩
theorem dX8_reads_63 : jm_d cX8_reads 63 (.ishl) 1 64 := ⟨by decide +kernel, rfl⟩
theorem dX8_reads_64 : jm_d cX8_reads 64 (.ior) 1 65 := ⟨by decide +kernel, rfl⟩
theorem dX8_reads_65 : jm_d cX8_reads 65 (.iastore) 1 66 := ⟨by decide +kernel, rfl⟩
theorem dX8_reads_66 : jm_d cX8_reads 66 (.iload_n 3) 1 67 := ⟨by decide +kernel, rfl⟩
theorem dX8_reads_67 : jm_d cX8_reads 67 (.ireturn) 1 68 := ⟨by decide +kernel, rfl⟩
set_option maxHeartbeats 4000000 in
set_option maxRecDepth 100000 in
theorem kW_reads (E : jm_Ev) (hE : jm_dj E jm_LC) {M : jm_M} {p1 : Int32} {p2 : Int32}  {r : Int32 × jm_M} (h : sW_reads M p1 p2 = some r) : jm_Ct E jm_LC yX8_reads cX8_reads 4 (some .int) 3 83 [.ref (jm_a E 0 0), .int p1, .int p2] M (some (.int r.1)) r.2 := by
  refine jm_enter (lv := [some (.ref (jm_a E 0 0)), some (.int p1), some (.int p2), none]) hE (by decide) (Nat.le_of_ble_eq_true rfl) rfl ?_
  intro z w F hz
  have G : jm_G w 0 [some (.ref (jm_a E 0 0)), some (.int p1), some (.int p2), none] [] M (sW_reads M p1 p2) (fun e => z (some (.int e.1)) e.2) := by
    unfold sW_reads
    refine jm_aload_n (i := 0) F dX8_reads_0 rfl rfl ?_
    refine jm_getR F dX8_reads_1 fl_X8_10 lo_X8 rfl ?_
    refine jm_iload_n (i := 1) F dX8_reads_4 rfl rfl ?_
    refine jm_callV (As := [.int p1]) (st := []) (rv := fun r => some (.int r)) (mm := fun _ => M) F dX8_reads_5 qX8_108 rfl (lo_T isT_1) rfl (fun r h => kT_hasPerson E hE isT_1 h) rfl (Nat.le_of_ble_eq_true rfl) ⟨Nat.le_of_ble_eq_true rfl, Nat.le_of_ble_eq_true rfl⟩ (fun r1 => ?_)
    refine jm_if_eq F dX8_reads_8 (fun c2 => ?_) (fun c2 => ?_)
    · refine jm_aload_n (i := 0) F dX8_reads_22 rfl rfl ?_
      refine jm_iconst F dX8_reads_23 kc_m1 ?_
      refine jm_callV (As := [.int (-1)]) (st := []) (rv := fun r => some (.int r.1)) (mm := fun r => r.2) F dX8_reads_24 qX8_64 rfl lo_X8 rfl (fun r h => kW_refuse E hE h) rfl (Nat.le_of_ble_eq_true rfl) ⟨Nat.le_of_ble_eq_true rfl, Nat.le_of_ble_eq_true rfl⟩ (fun r3 => ?_)
      exact jm_iret F dX8_reads_27 (fun h => h)
    · refine jm_aload_n (i := 0) F dX8_reads_11 rfl rfl ?_
      refine jm_getR F dX8_reads_12 fl_X8_10 lo_X8 rfl ?_
      refine jm_iload_n (i := 2) F dX8_reads_15 rfl rfl ?_
      refine jm_callV (As := [.int p2]) (st := []) (rv := fun r => some (.int r)) (mm := fun _ => M) F dX8_reads_16 qX8_133 rfl (lo_T isT_1) rfl (fun r h => kT_hasBook E hE isT_1 h) rfl (Nat.le_of_ble_eq_true rfl) ⟨Nat.le_of_ble_eq_true rfl, Nat.le_of_ble_eq_true rfl⟩ (fun r4 => ?_)
      refine jm_if_ne F dX8_reads_19 (fun c5 => ?_) (fun c5 => ?_)
      · refine jm_aload_n (i := 0) F dX8_reads_22 rfl rfl ?_
        refine jm_iconst F dX8_reads_23 kc_m1 ?_
        refine jm_callV (As := [.int (-1)]) (st := []) (rv := fun r => some (.int r.1)) (mm := fun r => r.2) F dX8_reads_24 qX8_64 rfl lo_X8 rfl (fun r h => kW_refuse E hE h) rfl (Nat.le_of_ble_eq_true rfl) ⟨Nat.le_of_ble_eq_true rfl, Nat.le_of_ble_eq_true rfl⟩ (fun r6 => ?_)
        exact jm_iret F dX8_reads_27 (fun h => h)
      · refine jm_aload_n (i := 0) F dX8_reads_28 rfl rfl ?_
        refine jm_getR F dX8_reads_29 fl_X8_19 lo_X8 rfl ?_
        refine jm_aload_n (i := 0) F dX8_reads_32 rfl rfl ?_
        refine jm_getR F dX8_reads_33 fl_X8_10 lo_X8 rfl ?_
        refine jm_callV (As := [.ref (jm_a E 1 0)]) (st := []) (rv := fun _ => none) (mm := fun r => r) F dX8_reads_36 qX8_161 rfl lo_X4 rfl (fun r h => kP_keep E hE isT_1 h) rfl (Nat.le_of_ble_eq_true rfl) ⟨Nat.le_of_ble_eq_true rfl, Nat.le_of_ble_eq_true rfl⟩ (fun r7 => ?_)
        refine jm_iconst F dX8_reads_39 kc_1 ?_
        refine jm_aload_n (i := 0) F dX8_reads_40 rfl rfl ?_
        refine jm_getR F dX8_reads_41 fl_X8_10 lo_X8 rfl ?_
        refine jm_iload_n (i := 1) F dX8_reads_44 rfl rfl ?_
        refine jm_iload_n (i := 2) F dX8_reads_45 rfl rfl ?_
        refine jm_callV (As := [.int p1, .int p2]) (st := [.int 1]) (rv := fun r => some (.int r)) (mm := fun _ => r7) F dX8_reads_46 qX8_165 rfl (lo_T isT_1) rfl (fun r h => kT_hasRead E hE isT_1 h) rfl (Nat.le_of_ble_eq_true rfl) ⟨Nat.le_of_ble_eq_true rfl, Nat.le_of_ble_eq_true rfl⟩ (fun r8 => ?_)
        refine jm_isub F dX8_reads_49 ?_
        refine jm_nameI (f := fun x9 => [.int x9]) (fun x9 => ?_) rfl
        refine jm_istore_n (i := 3) (lv' := [some (.ref (jm_a E 0 0)), some (.int p1), some (.int p2), some (.int x9)]) F dX8_reads_50 rfl (by decide) rfl rfl ?_
        refine jm_aload_n (i := 0) F dX8_reads_51 rfl rfl ?_
        refine jm_getR F dX8_reads_52 fl_X8_10 lo_X8 rfl ?_
        refine jm_getR F dX8_reads_55 fl_X8_142 (lo_T isT_1) rfl ?_
        refine jm_iload_n (i := 2) F dX8_reads_58 rfl rfl ?_
        refine jm_dup2 F dX8_reads_59 rfl rfl ?_
        refine jm_iald F dX8_reads_60 (la_T_10 isT_1) (fun v10 => ?_)
        refine jm_iconst F dX8_reads_61 kc_1 ?_
        refine jm_iload_n (i := 1) F dX8_reads_62 rfl rfl ?_
        refine jm_ishl F dX8_reads_63 ?_
        refine jm_ior F dX8_reads_64 ?_
        refine jm_iast F dX8_reads_65 (la_T_10 isT_1) (fun M11 => ?_)
        refine jm_iload_n (i := 3) F dX8_reads_66 rfl rfl ?_
        exact jm_iret F dX8_reads_67 (fun h => h)
  exact G r h hz
theorem dX8_lends_0 : jm_d cX8_lends 0 (.aload_n 0) 1 1 := ⟨by decide +kernel, rfl⟩
theorem dX8_lends_1 : jm_d cX8_lends 1 (.getfield 10) 3 4 := ⟨by decide +kernel, rfl⟩
theorem dX8_lends_4 : jm_d cX8_lends 4 (.iload_n 1) 1 5 := ⟨by decide +kernel, rfl⟩
theorem dX8_lends_5 : jm_d cX8_lends 5 (.invokevirtual 133) 3 8 := ⟨by decide +kernel, rfl⟩
theorem dX8_lends_8 : jm_b cX8_lends 8 (.ifCond .eq) 11 22 := ⟨14, by decide +kernel, rfl, by decide⟩
theorem dX8_lends_22 : jm_d cX8_lends 22 (.aload_n 0) 1 23 := ⟨by decide +kernel, rfl⟩
theorem dX8_lends_23 : jm_d cX8_lends 23 (.iconst (-1)) 1 24 := ⟨by decide +kernel, rfl⟩
theorem dX8_lends_24 : jm_d cX8_lends 24 (.invokevirtual 64) 3 27 := ⟨by decide +kernel, rfl⟩
theorem dX8_lends_27 : jm_d cX8_lends 27 (.ireturn) 1 28 := ⟨by decide +kernel, rfl⟩
theorem dX8_lends_11 : jm_d cX8_lends 11 (.aload_n 0) 1 12 := ⟨by decide +kernel, rfl⟩
theorem dX8_lends_12 : jm_d cX8_lends 12 (.getfield 10) 3 15 := ⟨by decide +kernel, rfl⟩
theorem dX8_lends_15 : jm_d cX8_lends 15 (.iload_n 2) 1 16 := ⟨by decide +kernel, rfl⟩
theorem dX8_lends_16 : jm_d cX8_lends 16 (.invokevirtual 92) 3 19 := ⟨by decide +kernel, rfl⟩
theorem dX8_lends_19 : jm_b cX8_lends 19 (.ifCond .ne) 22 28 := ⟨9, by decide +kernel, rfl, by decide⟩
theorem dX8_lends_28 : jm_d cX8_lends 28 (.aload_n 0) 1 29 := ⟨by decide +kernel, rfl⟩
theorem dX8_lends_29 : jm_d cX8_lends 29 (.getfield 19) 3 32 := ⟨by decide +kernel, rfl⟩
theorem dX8_lends_32 : jm_d cX8_lends 32 (.aload_n 0) 1 33 := ⟨by decide +kernel, rfl⟩
theorem dX8_lends_33 : jm_d cX8_lends 33 (.getfield 10) 3 36 := ⟨by decide +kernel, rfl⟩
theorem dX8_lends_36 : jm_d cX8_lends 36 (.invokevirtual 161) 3 39 := ⟨by decide +kernel, rfl⟩
theorem dX8_lends_39 : jm_d cX8_lends 39 (.aload_n 0) 1 40 := ⟨by decide +kernel, rfl⟩
theorem dX8_lends_40 : jm_d cX8_lends 40 (.getfield 10) 3 43 := ⟨by decide +kernel, rfl⟩
theorem dX8_lends_43 : jm_d cX8_lends 43 (.getfield 123) 3 46 := ⟨by decide +kernel, rfl⟩
theorem dX8_lends_46 : jm_d cX8_lends 46 (.iload_n 1) 1 47 := ⟨by decide +kernel, rfl⟩
theorem dX8_lends_47 : jm_d cX8_lends 47 (.iaload) 1 48 := ⟨by decide +kernel, rfl⟩
theorem dX8_lends_48 : jm_d cX8_lends 48 (.istore_n 3) 1 49 := ⟨by decide +kernel, rfl⟩
theorem dX8_lends_49 : jm_d cX8_lends 49 (.aload_n 0) 1 50 := ⟨by decide +kernel, rfl⟩
theorem dX8_lends_50 : jm_d cX8_lends 50 (.getfield 10) 3 53 := ⟨by decide +kernel, rfl⟩
theorem dX8_lends_53 : jm_d cX8_lends 53 (.getfield 123) 3 56 := ⟨by decide +kernel, rfl⟩
theorem dX8_lends_56 : jm_d cX8_lends 56 (.iload_n 1) 1 57 := ⟨by decide +kernel, rfl⟩
theorem dX8_lends_57 : jm_d cX8_lends 57 (.iload_n 2) 1 58 := ⟨by decide +kernel, rfl⟩
theorem dX8_lends_58 : jm_d cX8_lends 58 (.iastore) 1 59 := ⟨by decide +kernel, rfl⟩
theorem dX8_lends_59 : jm_d cX8_lends 59 (.iload_n 3) 1 60 := ⟨by decide +kernel, rfl⟩
theorem dX8_lends_60 : jm_d cX8_lends 60 (.ireturn) 1 61 := ⟨by decide +kernel, rfl⟩
set_option maxHeartbeats 4000000 in
set_option maxRecDepth 100000 in
theorem kW_lends (E : jm_Ev) (hE : jm_dj E jm_LC) {M : jm_M} {p1 : Int32} {p2 : Int32}  {r : Int32 × jm_M} (h : sW_lends M p1 p2 = some r) : jm_Ct E jm_LC yX8_lends cX8_lends 4 (some .int) 3 83 [.ref (jm_a E 0 0), .int p1, .int p2] M (some (.int r.1)) r.2 := by
  refine jm_enter (lv := [some (.ref (jm_a E 0 0)), some (.int p1), some (.int p2), none]) hE (by decide) (Nat.le_of_ble_eq_true rfl) rfl ?_
  intro z w F hz
  have G : jm_G w 0 [some (.ref (jm_a E 0 0)), some (.int p1), some (.int p2), none] [] M (sW_lends M p1 p2) (fun e => z (some (.int e.1)) e.2) := by
    unfold sW_lends
    refine jm_aload_n (i := 0) F dX8_lends_0 rfl rfl ?_
    refine jm_getR F dX8_lends_1 fl_X8_10 lo_X8 rfl ?_
    refine jm_iload_n (i := 1) F dX8_lends_4 rfl rfl ?_
    refine jm_callV (As := [.int p1]) (st := []) (rv := fun r => some (.int r)) (mm := fun _ => M) F dX8_lends_5 qX8_133 rfl (lo_T isT_1) rfl (fun r h => kT_hasBook E hE isT_1 h) rfl (Nat.le_of_ble_eq_true rfl) ⟨Nat.le_of_ble_eq_true rfl, Nat.le_of_ble_eq_true rfl⟩ (fun r1 => ?_)
    refine jm_if_eq F dX8_lends_8 (fun c2 => ?_) (fun c2 => ?_)
    · refine jm_aload_n (i := 0) F dX8_lends_22 rfl rfl ?_
      refine jm_iconst F dX8_lends_23 kc_m1 ?_
      refine jm_callV (As := [.int (-1)]) (st := []) (rv := fun r => some (.int r.1)) (mm := fun r => r.2) F dX8_lends_24 qX8_64 rfl lo_X8 rfl (fun r h => kW_refuse E hE h) rfl (Nat.le_of_ble_eq_true rfl) ⟨Nat.le_of_ble_eq_true rfl, Nat.le_of_ble_eq_true rfl⟩ (fun r3 => ?_)
      exact jm_iret F dX8_lends_27 (fun h => h)
    · refine jm_aload_n (i := 0) F dX8_lends_11 rfl rfl ?_
      refine jm_getR F dX8_lends_12 fl_X8_10 lo_X8 rfl ?_
      refine jm_iload_n (i := 2) F dX8_lends_15 rfl rfl ?_
      refine jm_callV (As := [.int p2]) (st := []) (rv := fun r => some (.int r)) (mm := fun _ => M) F dX8_lends_16 qX8_92 rfl (lo_T isT_1) rfl (fun r h => kT_hasKeeper E hE isT_1 h) rfl (Nat.le_of_ble_eq_true rfl) ⟨Nat.le_of_ble_eq_true rfl, Nat.le_of_ble_eq_true rfl⟩ (fun r4 => ?_)
      refine jm_if_ne F dX8_lends_19 (fun c5 => ?_) (fun c5 => ?_)
      · refine jm_aload_n (i := 0) F dX8_lends_22 rfl rfl ?_
        refine jm_iconst F dX8_lends_23 kc_m1 ?_
        refine jm_callV (As := [.int (-1)]) (st := []) (rv := fun r => some (.int r.1)) (mm := fun r => r.2) F dX8_lends_24 qX8_64 rfl lo_X8 rfl (fun r h => kW_refuse E hE h) rfl (Nat.le_of_ble_eq_true rfl) ⟨Nat.le_of_ble_eq_true rfl, Nat.le_of_ble_eq_true rfl⟩ (fun r6 => ?_)
        exact jm_iret F dX8_lends_27 (fun h => h)
      · refine jm_aload_n (i := 0) F dX8_lends_28 rfl rfl ?_
        refine jm_getR F dX8_lends_29 fl_X8_19 lo_X8 rfl ?_
        refine jm_aload_n (i := 0) F dX8_lends_32 rfl rfl ?_
        refine jm_getR F dX8_lends_33 fl_X8_10 lo_X8 rfl ?_
        refine jm_callV (As := [.ref (jm_a E 1 0)]) (st := []) (rv := fun _ => none) (mm := fun r => r) F dX8_lends_36 qX8_161 rfl lo_X4 rfl (fun r h => kP_keep E hE isT_1 h) rfl (Nat.le_of_ble_eq_true rfl) ⟨Nat.le_of_ble_eq_true rfl, Nat.le_of_ble_eq_true rfl⟩ (fun r7 => ?_)
        refine jm_aload_n (i := 0) F dX8_lends_39 rfl rfl ?_
        refine jm_getR F dX8_lends_40 fl_X8_10 lo_X8 rfl ?_
        refine jm_getR F dX8_lends_43 fl_X8_123 (lo_T isT_1) rfl ?_
        refine jm_iload_n (i := 1) F dX8_lends_46 rfl rfl ?_
        refine jm_iald F dX8_lends_47 (la_T_9 isT_1) (fun v8 => ?_)
        refine jm_istore_n (i := 3) (lv' := [some (.ref (jm_a E 0 0)), some (.int p1), some (.int p2), some (.int v8)]) F dX8_lends_48 rfl (by decide) rfl rfl ?_
        refine jm_aload_n (i := 0) F dX8_lends_49 rfl rfl ?_
        refine jm_getR F dX8_lends_50 fl_X8_10 lo_X8 rfl ?_
        refine jm_getR F dX8_lends_53 fl_X8_123 (lo_T isT_1) rfl ?_
        refine jm_iload_n (i := 1) F dX8_lends_56 rfl rfl ?_
        refine jm_iload_n (i := 2) F dX8_lends_57 rfl rfl ?_
        refine jm_iast F dX8_lends_58 (la_T_9 isT_1) (fun M9 => ?_)
        refine jm_iload_n (i := 3) F dX8_lends_59 rfl rfl ?_
        exact jm_iret F dX8_lends_60 (fun h => h)
  exact G r h hz
theorem dX8_buys_0 : jm_d cX8_buys 0 (.aload_n 0) 1 1 := ⟨by decide +kernel, rfl⟩
theorem dX8_buys_1 : jm_d cX8_buys 1 (.getfield 10) 3 4 := ⟨by decide +kernel, rfl⟩
theorem dX8_buys_4 : jm_d cX8_buys 4 (.iload_n 1) 1 5 := ⟨by decide +kernel, rfl⟩
theorem dX8_buys_5 : jm_d cX8_buys 5 (.invokevirtual 108) 3 8 := ⟨by decide +kernel, rfl⟩
theorem dX8_buys_8 : jm_b cX8_buys 8 (.ifCond .eq) 11 22 := ⟨14, by decide +kernel, rfl, by decide⟩
theorem dX8_buys_22 : jm_d cX8_buys 22 (.aload_n 0) 1 23 := ⟨by decide +kernel, rfl⟩
theorem dX8_buys_23 : jm_d cX8_buys 23 (.iconst (-1)) 1 24 := ⟨by decide +kernel, rfl⟩
theorem dX8_buys_24 : jm_d cX8_buys 24 (.invokevirtual 64) 3 27 := ⟨by decide +kernel, rfl⟩
theorem dX8_buys_27 : jm_d cX8_buys 27 (.ireturn) 1 28 := ⟨by decide +kernel, rfl⟩
theorem dX8_buys_11 : jm_d cX8_buys 11 (.aload_n 0) 1 12 := ⟨by decide +kernel, rfl⟩
theorem dX8_buys_12 : jm_d cX8_buys 12 (.getfield 10) 3 15 := ⟨by decide +kernel, rfl⟩
theorem dX8_buys_15 : jm_d cX8_buys 15 (.iload_n 2) 1 16 := ⟨by decide +kernel, rfl⟩
theorem dX8_buys_16 : jm_d cX8_buys 16 (.invokevirtual 133) 3 19 := ⟨by decide +kernel, rfl⟩
theorem dX8_buys_19 : jm_b cX8_buys 19 (.ifCond .ne) 22 28 := ⟨9, by decide +kernel, rfl, by decide⟩
theorem dX8_buys_28 : jm_d cX8_buys 28 (.aload_n 0) 1 29 := ⟨by decide +kernel, rfl⟩
theorem dX8_buys_29 : jm_d cX8_buys 29 (.getfield 10) 3 32 := ⟨by decide +kernel, rfl⟩
theorem dX8_buys_32 : jm_d cX8_buys 32 (.iload_n 2) 1 33 := ⟨by decide +kernel, rfl⟩
theorem dX8_buys_33 : jm_d cX8_buys 33 (.invokevirtual 148) 3 36 := ⟨by decide +kernel, rfl⟩
theorem dX8_buys_36 : jm_d cX8_buys 36 (.istore_n 3) 1 37 := ⟨by decide +kernel, rfl⟩
theorem dX8_buys_37 : jm_d cX8_buys 37 (.aload_n 0) 1 38 := ⟨by decide +kernel, rfl⟩
theorem dX8_buys_38 : jm_d cX8_buys 38 (.getfield 10) 3 41 := ⟨by decide +kernel, rfl⟩
theorem dX8_buys_41 : jm_d cX8_buys 41 (.getfield 130) 3 44 := ⟨by decide +kernel, rfl⟩
theorem dX8_buys_44 : jm_d cX8_buys 44 (.iload_n 2) 1 45 := ⟨by decide +kernel, rfl⟩
theorem dX8_buys_45 : jm_d cX8_buys 45 (.iaload) 1 46 := ⟨by decide +kernel, rfl⟩
theorem dX8_buys_46 : jm_d cX8_buys 46 (.bipush 9) 2 48 := ⟨by decide +kernel, rfl⟩
theorem dX8_buys_48 : jm_b cX8_buys 48 (.if_icmp .ne) 51 64 := ⟨16, by decide +kernel, rfl, by decide⟩
theorem dX8_buys_51 : jm_d cX8_buys 51 (.aload_n 0) 1 52 := ⟨by decide +kernel, rfl⟩
theorem dX8_buys_52 : jm_d cX8_buys 52 (.getfield 10) 3 55 := ⟨by decide +kernel, rfl⟩
theorem dX8_buys_55 : jm_d cX8_buys 55 (.getfield 117) 3 58 := ⟨by decide +kernel, rfl⟩
theorem dX8_buys_58 : jm_d cX8_buys 58 (.iload_n 1) 1 59 := ⟨by decide +kernel, rfl⟩
theorem dX8_buys_59 : jm_d cX8_buys 59 (.iaload) 1 60 := ⟨by decide +kernel, rfl⟩
theorem dX8_buys_60 : jm_d cX8_buys 60 (.iload_n 3) 1 61 := ⟨by decide +kernel, rfl⟩
theorem dX8_buys_61 : jm_b cX8_buys 61 (.if_icmp .ge) 64 71 := ⟨10, by decide +kernel, rfl, by decide⟩
theorem dX8_buys_71 : jm_d cX8_buys 71 (.aload_n 0) 1 72 := ⟨by decide +kernel, rfl⟩
theorem dX8_buys_72 : jm_d cX8_buys 72 (.getfield 19) 3 75 := ⟨by decide +kernel, rfl⟩
theorem dX8_buys_75 : jm_d cX8_buys 75 (.aload_n 0) 1 76 := ⟨by decide +kernel, rfl⟩
theorem dX8_buys_76 : jm_d cX8_buys 76 (.getfield 10) 3 79 := ⟨by decide +kernel, rfl⟩
theorem dX8_buys_79 : jm_d cX8_buys 79 (.invokevirtual 161) 3 82 := ⟨by decide +kernel, rfl⟩
theorem dX8_buys_82 : jm_d cX8_buys 82 (.aload_n 0) 1 83 := ⟨by decide +kernel, rfl⟩
theorem dX8_buys_83 : jm_d cX8_buys 83 (.getfield 10) 3 86 := ⟨by decide +kernel, rfl⟩
theorem dX8_buys_86 : jm_d cX8_buys 86 (.getfield 130) 3 89 := ⟨by decide +kernel, rfl⟩
theorem dX8_buys_89 : jm_d cX8_buys 89 (.iload_n 2) 1 90 := ⟨by decide +kernel, rfl⟩
theorem dX8_buys_90 : jm_d cX8_buys 90 (.iload_n 1) 1 91 := ⟨by decide +kernel, rfl⟩
theorem dX8_buys_91 : jm_d cX8_buys 91 (.iastore) 1 92 := ⟨by decide +kernel, rfl⟩
theorem dX8_buys_92 : jm_d cX8_buys 92 (.aload_n 0) 1 93 := ⟨by decide +kernel, rfl⟩
theorem dX8_buys_93 : jm_d cX8_buys 93 (.getfield 10) 3 96 := ⟨by decide +kernel, rfl⟩
theorem dX8_buys_96 : jm_d cX8_buys 96 (.getfield 123) 3 99 := ⟨by decide +kernel, rfl⟩
theorem dX8_buys_99 : jm_d cX8_buys 99 (.iload_n 2) 1 100 := ⟨by decide +kernel, rfl⟩
theorem dX8_buys_100 : jm_d cX8_buys 100 (.iload_n 1) 1 101 := ⟨by decide +kernel, rfl⟩
theorem dX8_buys_101 : jm_d cX8_buys 101 (.iastore) 1 102 := ⟨by decide +kernel, rfl⟩
theorem dX8_buys_102 : jm_d cX8_buys 102 (.aload_n 0) 1 103 := ⟨by decide +kernel, rfl⟩
theorem dX8_buys_103 : jm_d cX8_buys 103 (.getfield 10) 3 106 := ⟨by decide +kernel, rfl⟩
theorem dX8_buys_106 : jm_d cX8_buys 106 (.getfield 117) 3 109 := ⟨by decide +kernel, rfl⟩
theorem dX8_buys_109 : jm_d cX8_buys 109 (.iload_n 1) 1 110 := ⟨by decide +kernel, rfl⟩
theorem dX8_buys_110 : jm_d cX8_buys 110 (.dup2) 1 111 := ⟨by decide +kernel, rfl⟩
theorem dX8_buys_111 : jm_d cX8_buys 111 (.iaload) 1 112 := ⟨by decide +kernel, rfl⟩
theorem dX8_buys_112 : jm_d cX8_buys 112 (.iload_n 3) 1 113 := ⟨by decide +kernel, rfl⟩
theorem dX8_buys_113 : jm_d cX8_buys 113 (.isub) 1 114 := ⟨by decide +kernel, rfl⟩
theorem dX8_buys_114 : jm_d cX8_buys 114 (.iastore) 1 115 := ⟨by decide +kernel, rfl⟩
theorem dX8_buys_115 : jm_d cX8_buys 115 (.aload_n 0) 1 116 := ⟨by decide +kernel, rfl⟩
theorem dX8_buys_116 : jm_d cX8_buys 116 (.getfield 10) 3 119 := ⟨by decide +kernel, rfl⟩
theorem dX8_buys_119 : jm_d cX8_buys 119 (.getfield 117) 3 122 := ⟨by decide +kernel, rfl⟩
theorem dX8_buys_122 : jm_d cX8_buys 122 (.iload_n 1) 1 123 := ⟨by decide +kernel, rfl⟩
theorem dX8_buys_123 : jm_d cX8_buys 123 (.iaload) 1 124 := ⟨by decide +kernel, rfl⟩
theorem dX8_buys_124 : jm_d cX8_buys 124 (.ireturn) 1 125 := ⟨by decide +kernel, rfl⟩
theorem dX8_buys_64 : jm_d cX8_buys 64 (.aload_n 0) 1 65 := ⟨by decide +kernel, rfl⟩
theorem dX8_buys_65 : jm_d cX8_buys 65 (.bipush (-3)) 2 67 := ⟨by decide +kernel, rfl⟩
theorem dX8_buys_67 : jm_d cX8_buys 67 (.invokevirtual 64) 3 70 := ⟨by decide +kernel, rfl⟩
theorem dX8_buys_70 : jm_d cX8_buys 70 (.ireturn) 1 71 := ⟨by decide +kernel, rfl⟩
set_option maxHeartbeats 4000000 in
set_option maxRecDepth 100000 in
theorem kW_buys (E : jm_Ev) (hE : jm_dj E jm_LC) {M : jm_M} {p1 : Int32} {p2 : Int32}  {r : Int32 × jm_M} (h : sW_buys M p1 p2 = some r) : jm_Ct E jm_LC yX8_buys cX8_buys 4 (some .int) 3 83 [.ref (jm_a E 0 0), .int p1, .int p2] M (some (.int r.1)) r.2 := by
  refine jm_enter (lv := [some (.ref (jm_a E 0 0)), some (.int p1), some (.int p2), none]) hE (by decide) (Nat.le_of_ble_eq_true rfl) rfl ?_
  intro z w F hz
  have G : jm_G w 0 [some (.ref (jm_a E 0 0)), some (.int p1), some (.int p2), none] [] M (sW_buys M p1 p2) (fun e => z (some (.int e.1)) e.2) := by
    unfold sW_buys
    refine jm_aload_n (i := 0) F dX8_buys_0 rfl rfl ?_
    refine jm_getR F dX8_buys_1 fl_X8_10 lo_X8 rfl ?_
    refine jm_iload_n (i := 1) F dX8_buys_4 rfl rfl ?_
    refine jm_callV (As := [.int p1]) (st := []) (rv := fun r => some (.int r)) (mm := fun _ => M) F dX8_buys_5 qX8_108 rfl (lo_T isT_1) rfl (fun r h => kT_hasPerson E hE isT_1 h) rfl (Nat.le_of_ble_eq_true rfl) ⟨Nat.le_of_ble_eq_true rfl, Nat.le_of_ble_eq_true rfl⟩ (fun r1 => ?_)
    refine jm_if_eq F dX8_buys_8 (fun c2 => ?_) (fun c2 => ?_)
    · refine jm_aload_n (i := 0) F dX8_buys_22 rfl rfl ?_
      refine jm_iconst F dX8_buys_23 kc_m1 ?_
      refine jm_callV (As := [.int (-1)]) (st := []) (rv := fun r => some (.int r.1)) (mm := fun r => r.2) F dX8_buys_24 qX8_64 rfl lo_X8 rfl (fun r h => kW_refuse E hE h) rfl (Nat.le_of_ble_eq_true rfl) ⟨Nat.le_of_ble_eq_true rfl, Nat.le_of_ble_eq_true rfl⟩ (fun r3 => ?_)
      exact jm_iret F dX8_buys_27 (fun h => h)
    · refine jm_aload_n (i := 0) F dX8_buys_11 rfl rfl ?_
      refine jm_getR F dX8_buys_12 fl_X8_10 lo_X8 rfl ?_
      refine jm_iload_n (i := 2) F dX8_buys_15 rfl rfl ?_
      refine jm_callV (As := [.int p2]) (st := []) (rv := fun r => some (.int r)) (mm := fun _ => M) F dX8_buys_16 qX8_133 rfl (lo_T isT_1) rfl (fun r h => kT_hasBook E hE isT_1 h) rfl (Nat.le_of_ble_eq_true rfl) ⟨Nat.le_of_ble_eq_true rfl, Nat.le_of_ble_eq_true rfl⟩ (fun r4 => ?_)
      refine jm_if_ne F dX8_buys_19 (fun c5 => ?_) (fun c5 => ?_)
      · refine jm_aload_n (i := 0) F dX8_buys_22 rfl rfl ?_
        refine jm_iconst F dX8_buys_23 kc_m1 ?_
        refine jm_callV (As := [.int (-1)]) (st := []) (rv := fun r => some (.int r.1)) (mm := fun r => r.2) F dX8_buys_24 qX8_64 rfl lo_X8 rfl (fun r h => kW_refuse E hE h) rfl (Nat.le_of_ble_eq_true rfl) ⟨Nat.le_of_ble_eq_true rfl, Nat.le_of_ble_eq_true rfl⟩ (fun r6 => ?_)
        exact jm_iret F dX8_buys_27 (fun h => h)
      · refine jm_aload_n (i := 0) F dX8_buys_28 rfl rfl ?_
        refine jm_getR F dX8_buys_29 fl_X8_10 lo_X8 rfl ?_
        refine jm_iload_n (i := 2) F dX8_buys_32 rfl rfl ?_
        refine jm_callV (As := [.int p2]) (st := []) (rv := fun r => some (.int r)) (mm := fun _ => M) F dX8_buys_33 qX8_148 rfl (lo_T isT_1) rfl (fun r h => kT_priceOf E hE isT_1 h) rfl (Nat.le_of_ble_eq_true rfl) ⟨Nat.le_of_ble_eq_true rfl, Nat.le_of_ble_eq_true rfl⟩ (fun r7 => ?_)
        refine jm_istore_n (i := 3) (lv' := [some (.ref (jm_a E 0 0)), some (.int p1), some (.int p2), some (.int r7)]) F dX8_buys_36 rfl (by decide) rfl rfl ?_
        refine jm_aload_n (i := 0) F dX8_buys_37 rfl rfl ?_
        refine jm_getR F dX8_buys_38 fl_X8_10 lo_X8 rfl ?_
        refine jm_getR F dX8_buys_41 fl_X8_130 (lo_T isT_1) rfl ?_
        refine jm_iload_n (i := 2) F dX8_buys_44 rfl rfl ?_
        refine jm_iald F dX8_buys_45 (la_T_8 isT_1) (fun v8 => ?_)
        refine jm_bipush F dX8_buys_46 kb_9 ?_
        refine jm_icmp_ne F dX8_buys_48 (fun c9 => ?_) (fun c9 => ?_)
        · refine jm_aload_n (i := 0) F dX8_buys_51 rfl rfl ?_
          refine jm_getR F dX8_buys_52 fl_X8_10 lo_X8 rfl ?_
          refine jm_getR F dX8_buys_55 fl_X8_117 (lo_T isT_1) rfl ?_
          refine jm_iload_n (i := 1) F dX8_buys_58 rfl rfl ?_
          refine jm_iald F dX8_buys_59 (la_T_4 isT_1) (fun v10 => ?_)
          refine jm_iload_n (i := 3) F dX8_buys_60 rfl rfl ?_
          refine jm_icmp_ge F dX8_buys_61 (fun c11 => ?_) (fun c11 => ?_)
          · refine jm_aload_n (i := 0) F dX8_buys_71 rfl rfl ?_
            refine jm_getR F dX8_buys_72 fl_X8_19 lo_X8 rfl ?_
            refine jm_aload_n (i := 0) F dX8_buys_75 rfl rfl ?_
            refine jm_getR F dX8_buys_76 fl_X8_10 lo_X8 rfl ?_
            refine jm_callV (As := [.ref (jm_a E 1 0)]) (st := []) (rv := fun _ => none) (mm := fun r => r) F dX8_buys_79 qX8_161 rfl lo_X4 rfl (fun r h => kP_keep E hE isT_1 h) rfl (Nat.le_of_ble_eq_true rfl) ⟨Nat.le_of_ble_eq_true rfl, Nat.le_of_ble_eq_true rfl⟩ (fun r12 => ?_)
            refine jm_aload_n (i := 0) F dX8_buys_82 rfl rfl ?_
            refine jm_getR F dX8_buys_83 fl_X8_10 lo_X8 rfl ?_
            refine jm_getR F dX8_buys_86 fl_X8_130 (lo_T isT_1) rfl ?_
            refine jm_iload_n (i := 2) F dX8_buys_89 rfl rfl ?_
            refine jm_iload_n (i := 1) F dX8_buys_90 rfl rfl ?_
            refine jm_iast F dX8_buys_91 (la_T_8 isT_1) (fun M13 => ?_)
            refine jm_aload_n (i := 0) F dX8_buys_92 rfl rfl ?_
            refine jm_getR F dX8_buys_93 fl_X8_10 lo_X8 rfl ?_
            refine jm_getR F dX8_buys_96 fl_X8_123 (lo_T isT_1) rfl ?_
            refine jm_iload_n (i := 2) F dX8_buys_99 rfl rfl ?_
            refine jm_iload_n (i := 1) F dX8_buys_100 rfl rfl ?_
            refine jm_iast F dX8_buys_101 (la_T_9 isT_1) (fun M14 => ?_)
            refine jm_aload_n (i := 0) F dX8_buys_102 rfl rfl ?_
            refine jm_getR F dX8_buys_103 fl_X8_10 lo_X8 rfl ?_
            refine jm_getR F dX8_buys_106 fl_X8_117 (lo_T isT_1) rfl ?_
            refine jm_iload_n (i := 1) F dX8_buys_109 rfl rfl ?_
            refine jm_dup2 F dX8_buys_110 rfl rfl ?_
            refine jm_iald F dX8_buys_111 (la_T_4 isT_1) (fun v15 => ?_)
            refine jm_iload_n (i := 3) F dX8_buys_112 rfl rfl ?_
            refine jm_isub F dX8_buys_113 ?_
            refine jm_iast F dX8_buys_114 (la_T_4 isT_1) (fun M16 => ?_)
            refine jm_aload_n (i := 0) F dX8_buys_115 rfl rfl ?_
            refine jm_getR F dX8_buys_116 fl_X8_10 lo_X8 rfl ?_
            refine jm_getR F dX8_buys_119 fl_X8_117 (lo_T isT_1) rfl ?_
            refine jm_iload_n (i := 1) F dX8_buys_122 rfl rfl ?_
            refine jm_iald F dX8_buys_123 (la_T_4 isT_1) (fun v17 => ?_)
            exact jm_iret F dX8_buys_124 (fun h => h)
          · refine jm_aload_n (i := 0) F dX8_buys_64 rfl rfl ?_
            refine jm_bipush F dX8_buys_65 kb_m3 ?_
            refine jm_callV (As := [.int (-3)]) (st := []) (rv := fun r => some (.int r.1)) (mm := fun r => r.2) F dX8_buys_67 qX8_64 rfl lo_X8 rfl (fun r h => kW_refuse E hE h) rfl (Nat.le_of_ble_eq_true rfl) ⟨Nat.le_of_ble_eq_true rfl, Nat.le_of_ble_eq_true rfl⟩ (fun r18 => ?_)
            exact jm_iret F dX8_buys_70 (fun h => h)
        · refine jm_aload_n (i := 0) F dX8_buys_64 rfl rfl ?_
          refine jm_bipush F dX8_buys_65 kb_m3 ?_
          refine jm_callV (As := [.int (-3)]) (st := []) (rv := fun r => some (.int r.1)) (mm := fun r => r.2) F dX8_buys_67 qX8_64 rfl lo_X8 rfl (fun r h => kW_refuse E hE h) rfl (Nat.le_of_ble_eq_true rfl) ⟨Nat.le_of_ble_eq_true rfl, Nat.le_of_ble_eq_true rfl⟩ (fun r19 => ?_)
          exact jm_iret F dX8_buys_70 (fun h => h)
  exact G r h hz
theorem dX8_step_0 : jm_d cX8_step 0 (.iload_n 1) 1 1 := ⟨by decide +kernel, rfl⟩
theorem dX8_step_1 : jm_b cX8_step 1 (.ifCond .lt) 4 10 := ⟨9, by decide +kernel, rfl, by decide⟩
theorem dX8_step_10 : jm_d cX8_step 10 (.aload_n 0) 1 11 := ⟨by decide +kernel, rfl⟩
theorem dX8_step_11 : jm_d cX8_step 11 (.bipush (-2)) 2 13 := ⟨by decide +kernel, rfl⟩
theorem dX8_step_13 : jm_d cX8_step 13 (.invokevirtual 64) 3 16 := ⟨by decide +kernel, rfl⟩
theorem dX8_step_16 : jm_d cX8_step 16 (.ireturn) 1 17 := ⟨by decide +kernel, rfl⟩
theorem dX8_step_4 : jm_d cX8_step 4 (.iload_n 1) 1 5 := ⟨by decide +kernel, rfl⟩
theorem dX8_step_5 : jm_d cX8_step 5 (.bipush 8) 2 7 := ⟨by decide +kernel, rfl⟩
theorem dX8_step_7 : jm_b cX8_step 7 (.if_icmp .lt) 10 17 := ⟨10, by decide +kernel, rfl, by decide⟩
theorem dX8_step_17 : jm_d cX8_step 17 (.iload_n 2) 1 18 := ⟨by decide +kernel, rfl⟩
theorem dX8_step_18 : jm_b cX8_step 18 (.ifCond .ge) 21 28 := ⟨10, by decide +kernel, rfl, by decide⟩
theorem dX8_step_28 : jm_d cX8_step 28 (.iload_n 2) 1 29 := ⟨by decide +kernel, rfl⟩
theorem dX8_step_29 : jm_d cX8_step 29 (.bipush 99) 2 31 := ⟨by decide +kernel, rfl⟩
theorem dX8_step_31 : jm_b cX8_step 31 (.if_icmp .gt) 34 46 := ⟨15, by decide +kernel, rfl, by decide⟩
theorem dX8_step_46 : jm_d cX8_step 46 (.aload_n 0) 1 47 := ⟨by decide +kernel, rfl⟩
theorem dX8_step_47 : jm_d cX8_step 47 (.bipush (-6)) 2 49 := ⟨by decide +kernel, rfl⟩
theorem dX8_step_49 : jm_d cX8_step 49 (.invokevirtual 64) 3 52 := ⟨by decide +kernel, rfl⟩
theorem dX8_step_52 : jm_d cX8_step 52 (.ireturn) 1 53 := ⟨by decide +kernel, rfl⟩
theorem dX8_step_34 : jm_d cX8_step 34 (.aload_n 0) 1 35 := ⟨by decide +kernel, rfl⟩
theorem dX8_step_35 : jm_d cX8_step 35 (.getfield 10) 3 38 := ⟨by decide +kernel, rfl⟩
theorem dX8_step_38 : jm_d cX8_step 38 (.getfield 168) 3 41 := ⟨by decide +kernel, rfl⟩
theorem dX8_step_41 : jm_d cX8_step 41 (.bipush 6) 2 43 := ⟨by decide +kernel, rfl⟩
theorem dX8_step_43 : jm_b cX8_step 43 (.if_icmp .lt) 46 53 := ⟨10, by decide +kernel, rfl, by decide⟩
theorem dX8_step_53 : jm_d cX8_step 53 (.aload_n 0) 1 54 := ⟨by decide +kernel, rfl⟩
theorem dX8_step_54 : jm_d cX8_step 54 (.getfield 19) 3 57 := ⟨by decide +kernel, rfl⟩
theorem dX8_step_57 : jm_d cX8_step 57 (.aload_n 0) 1 58 := ⟨by decide +kernel, rfl⟩
theorem dX8_step_58 : jm_d cX8_step 58 (.getfield 10) 3 61 := ⟨by decide +kernel, rfl⟩
theorem dX8_step_61 : jm_d cX8_step 61 (.invokevirtual 161) 3 64 := ⟨by decide +kernel, rfl⟩
theorem dX8_step_64 : jm_d cX8_step 64 (.aload_n 0) 1 65 := ⟨by decide +kernel, rfl⟩
theorem dX8_step_65 : jm_d cX8_step 65 (.getfield 10) 3 68 := ⟨by decide +kernel, rfl⟩
theorem dX8_step_68 : jm_d cX8_step 68 (.iload_n 1) 1 69 := ⟨by decide +kernel, rfl⟩
theorem dX8_step_69 : jm_d cX8_step 69 (.iload_n 2) 1 70 := ⟨by decide +kernel, rfl⟩
theorem dX8_step_70 : jm_d cX8_step 70 (.invokevirtual 171) 3 73 := ⟨by decide +kernel, rfl⟩
theorem dX8_step_73 : jm_d cX8_step 73 (.aload_n 0) 1 74 := ⟨by decide +kernel, rfl⟩
theorem dX8_step_74 : jm_d cX8_step 74 (.getfield 10) 3 77 := ⟨by decide +kernel, rfl⟩
theorem dX8_step_77 : jm_d cX8_step 77 (.getfield 168) 3 80 := ⟨by decide +kernel, rfl⟩
theorem dX8_step_80 : jm_d cX8_step 80 (.ireturn) 1 81 := ⟨by decide +kernel, rfl⟩
theorem dX8_step_21 : jm_d cX8_step 21 (.aload_n 0) 1 22 := ⟨by decide +kernel, rfl⟩
theorem dX8_step_22 : jm_d cX8_step 22 (.bipush (-4)) 2 24 := ⟨by decide +kernel, rfl⟩
theorem dX8_step_24 : jm_d cX8_step 24 (.invokevirtual 64) 3 27 := ⟨by decide +kernel, rfl⟩
theorem dX8_step_27 : jm_d cX8_step 27 (.ireturn) 1 28 := ⟨by decide +kernel, rfl⟩
set_option maxHeartbeats 4000000 in
set_option maxRecDepth 100000 in
theorem kW_step (E : jm_Ev) (hE : jm_dj E jm_LC) {M : jm_M} {p1 : Int32} {p2 : Int32}  {r : Int32 × jm_M} (h : sW_step M p1 p2 = some r) : jm_Ct E jm_LC yX8_step cX8_step 3 (some .int) 3 83 [.ref (jm_a E 0 0), .int p1, .int p2] M (some (.int r.1)) r.2 := by
  refine jm_enter (lv := [some (.ref (jm_a E 0 0)), some (.int p1), some (.int p2)]) hE (by decide) (Nat.le_of_ble_eq_true rfl) rfl ?_
  intro z w F hz
  have G : jm_G w 0 [some (.ref (jm_a E 0 0)), some (.int p1), some (.int p2)] [] M (sW_step M p1 p2) (fun e => z (some (.int e.1)) e.2) := by
    unfold sW_step
    refine jm_iload_n (i := 1) F dX8_step_0 rfl rfl ?_
    refine jm_if_lt F dX8_step_1 (fun c1 => ?_) (fun c1 => ?_)
    · refine jm_aload_n (i := 0) F dX8_step_10 rfl rfl ?_
      refine jm_bipush F dX8_step_11 kb_m2 ?_
      refine jm_callV (As := [.int (-2)]) (st := []) (rv := fun r => some (.int r.1)) (mm := fun r => r.2) F dX8_step_13 qX8_64 rfl lo_X8 rfl (fun r h => kW_refuse E hE h) rfl (Nat.le_of_ble_eq_true rfl) ⟨Nat.le_of_ble_eq_true rfl, Nat.le_of_ble_eq_true rfl⟩ (fun r2 => ?_)
      exact jm_iret F dX8_step_16 (fun h => h)
    · refine jm_iload_n (i := 1) F dX8_step_4 rfl rfl ?_
      refine jm_bipush F dX8_step_5 kb_8 ?_
      refine jm_icmp_lt F dX8_step_7 (fun c3 => ?_) (fun c3 => ?_)
      · refine jm_iload_n (i := 2) F dX8_step_17 rfl rfl ?_
        refine jm_if_ge F dX8_step_18 (fun c4 => ?_) (fun c4 => ?_)
        · refine jm_iload_n (i := 2) F dX8_step_28 rfl rfl ?_
          refine jm_bipush F dX8_step_29 kb_99 ?_
          refine jm_icmp_gt F dX8_step_31 (fun c5 => ?_) (fun c5 => ?_)
          · refine jm_aload_n (i := 0) F dX8_step_46 rfl rfl ?_
            refine jm_bipush F dX8_step_47 kb_m6 ?_
            refine jm_callV (As := [.int (-6)]) (st := []) (rv := fun r => some (.int r.1)) (mm := fun r => r.2) F dX8_step_49 qX8_64 rfl lo_X8 rfl (fun r h => kW_refuse E hE h) rfl (Nat.le_of_ble_eq_true rfl) ⟨Nat.le_of_ble_eq_true rfl, Nat.le_of_ble_eq_true rfl⟩ (fun r6 => ?_)
            exact jm_iret F dX8_step_52 (fun h => h)
          · refine jm_aload_n (i := 0) F dX8_step_34 rfl rfl ?_
            refine jm_getR F dX8_step_35 fl_X8_10 lo_X8 rfl ?_
            refine jm_getI F dX8_step_38 fl_X8_168 (lo_T isT_1) rfl ?_
            refine jm_bipush F dX8_step_41 kb_6 ?_
            refine jm_icmp_lt F dX8_step_43 (fun c7 => ?_) (fun c7 => ?_)
            · refine jm_aload_n (i := 0) F dX8_step_53 rfl rfl ?_
              refine jm_getR F dX8_step_54 fl_X8_19 lo_X8 rfl ?_
              refine jm_aload_n (i := 0) F dX8_step_57 rfl rfl ?_
              refine jm_getR F dX8_step_58 fl_X8_10 lo_X8 rfl ?_
              refine jm_callV (As := [.ref (jm_a E 1 0)]) (st := []) (rv := fun _ => none) (mm := fun r => r) F dX8_step_61 qX8_161 rfl lo_X4 rfl (fun r h => kP_keep E hE isT_1 h) rfl (Nat.le_of_ble_eq_true rfl) ⟨Nat.le_of_ble_eq_true rfl, Nat.le_of_ble_eq_true rfl⟩ (fun r8 => ?_)
              refine jm_aload_n (i := 0) F dX8_step_64 rfl rfl ?_
              refine jm_getR F dX8_step_65 fl_X8_10 lo_X8 rfl ?_
              refine jm_iload_n (i := 1) F dX8_step_68 rfl rfl ?_
              refine jm_iload_n (i := 2) F dX8_step_69 rfl rfl ?_
              refine jm_callV (As := [.int p1, .int p2]) (st := []) (rv := fun _ => none) (mm := fun r => r) F dX8_step_70 qX8_171 rfl (lo_T isT_1) rfl (fun r h => kT_addStep E hE isT_1 h) rfl (Nat.le_of_ble_eq_true rfl) ⟨Nat.le_of_ble_eq_true rfl, Nat.le_of_ble_eq_true rfl⟩ (fun r9 => ?_)
              refine jm_aload_n (i := 0) F dX8_step_73 rfl rfl ?_
              refine jm_getR F dX8_step_74 fl_X8_10 lo_X8 rfl ?_
              refine jm_getI F dX8_step_77 fl_X8_168 (lo_T isT_1) rfl ?_
              exact jm_iret F dX8_step_80 (fun h => h)
            · refine jm_aload_n (i := 0) F dX8_step_46 rfl rfl ?_
              refine jm_bipush F dX8_step_47 kb_m6 ?_
              refine jm_callV (As := [.int (-6)]) (st := []) (rv := fun r => some (.int r.1)) (mm := fun r => r.2) F dX8_step_49 qX8_64 rfl lo_X8 rfl (fun r h => kW_refuse E hE h) rfl (Nat.le_of_ble_eq_true rfl) ⟨Nat.le_of_ble_eq_true rfl, Nat.le_of_ble_eq_true rfl⟩ (fun r10 => ?_)
              exact jm_iret F dX8_step_52 (fun h => h)
        · refine jm_aload_n (i := 0) F dX8_step_21 rfl rfl ?_
          refine jm_bipush F dX8_step_22 kb_m4 ?_
          refine jm_callV (As := [.int (-4)]) (st := []) (rv := fun r => some (.int r.1)) (mm := fun r => r.2) F dX8_step_24 qX8_64 rfl lo_X8 rfl (fun r h => kW_refuse E hE h) rfl (Nat.le_of_ble_eq_true rfl) ⟨Nat.le_of_ble_eq_true rfl, Nat.le_of_ble_eq_true rfl⟩ (fun r11 => ?_)
          exact jm_iret F dX8_step_27 (fun h => h)
      · refine jm_aload_n (i := 0) F dX8_step_10 rfl rfl ?_
        refine jm_bipush F dX8_step_11 kb_m2 ?_
        refine jm_callV (As := [.int (-2)]) (st := []) (rv := fun r => some (.int r.1)) (mm := fun r => r.2) F dX8_step_13 qX8_64 rfl lo_X8 rfl (fun r h => kW_refuse E hE h) rfl (Nat.le_of_ble_eq_true rfl) ⟨Nat.le_of_ble_eq_true rfl, Nat.le_of_ble_eq_true rfl⟩ (fun r12 => ?_)
        exact jm_iret F dX8_step_16 (fun h => h)
  exact G r h hz
theorem dX8_clearLaw_0 : jm_d cX8_clearLaw 0 (.aload_n 0) 1 1 := ⟨by decide +kernel, rfl⟩
theorem dX8_clearLaw_1 : jm_d cX8_clearLaw 1 (.getfield 19) 3 4 := ⟨by decide +kernel, rfl⟩
theorem dX8_clearLaw_4 : jm_d cX8_clearLaw 4 (.aload_n 0) 1 5 := ⟨by decide +kernel, rfl⟩
theorem dX8_clearLaw_5 : jm_d cX8_clearLaw 5 (.getfield 10) 3 8 := ⟨by decide +kernel, rfl⟩
theorem dX8_clearLaw_8 : jm_d cX8_clearLaw 8 (.invokevirtual 161) 3 11 := ⟨by decide +kernel, rfl⟩
theorem dX8_clearLaw_11 : jm_d cX8_clearLaw 11 (.aload_n 0) 1 12 := ⟨by decide +kernel, rfl⟩
theorem dX8_clearLaw_12 : jm_d cX8_clearLaw 12 (.getfield 10) 3 15 := ⟨by decide +kernel, rfl⟩
theorem dX8_clearLaw_15 : jm_d cX8_clearLaw 15 (.getfield 168) 3 18 := ⟨by decide +kernel, rfl⟩
theorem dX8_clearLaw_18 : jm_d cX8_clearLaw 18 (.istore_n 1) 1 19 := ⟨by decide +kernel, rfl⟩
theorem dX8_clearLaw_19 : jm_d cX8_clearLaw 19 (.aload_n 0) 1 20 := ⟨by decide +kernel, rfl⟩
theorem dX8_clearLaw_20 : jm_d cX8_clearLaw 20 (.getfield 10) 3 23 := ⟨by decide +kernel, rfl⟩
theorem dX8_clearLaw_23 : jm_d cX8_clearLaw 23 (.iconst 0) 1 24 := ⟨by decide +kernel, rfl⟩
theorem dX8_clearLaw_24 : jm_d cX8_clearLaw 24 (.putfield 168) 3 27 := ⟨by decide +kernel, rfl⟩
theorem dX8_clearLaw_27 : jm_d cX8_clearLaw 27 (.iload_n 1) 1 28 := ⟨by decide +kernel, rfl⟩
theorem dX8_clearLaw_28 : jm_d cX8_clearLaw 28 (.ireturn) 1 29 := ⟨by decide +kernel, rfl⟩
set_option maxHeartbeats 4000000 in
set_option maxRecDepth 100000 in
theorem kW_clearLaw (E : jm_Ev) (hE : jm_dj E jm_LC) {M : jm_M}  {r : Int32 × jm_M} (h : sW_clearLaw M = some r) : jm_Ct E jm_LC yX8_clearLaw cX8_clearLaw 2 (some .int) 3 83 [.ref (jm_a E 0 0)] M (some (.int r.1)) r.2 := by
  refine jm_enter (lv := [some (.ref (jm_a E 0 0)), none]) hE (by decide) (Nat.le_of_ble_eq_true rfl) rfl ?_
  intro z w F hz
  have G : jm_G w 0 [some (.ref (jm_a E 0 0)), none] [] M (sW_clearLaw M) (fun e => z (some (.int e.1)) e.2) := by
    unfold sW_clearLaw
    refine jm_aload_n (i := 0) F dX8_clearLaw_0 rfl rfl ?_
    refine jm_getR F dX8_clearLaw_1 fl_X8_19 lo_X8 rfl ?_
    refine jm_aload_n (i := 0) F dX8_clearLaw_4 rfl rfl ?_
    refine jm_getR F dX8_clearLaw_5 fl_X8_10 lo_X8 rfl ?_
    refine jm_callV (As := [.ref (jm_a E 1 0)]) (st := []) (rv := fun _ => none) (mm := fun r => r) F dX8_clearLaw_8 qX8_161 rfl lo_X4 rfl (fun r h => kP_keep E hE isT_1 h) rfl (Nat.le_of_ble_eq_true rfl) ⟨Nat.le_of_ble_eq_true rfl, Nat.le_of_ble_eq_true rfl⟩ (fun r1 => ?_)
    refine jm_aload_n (i := 0) F dX8_clearLaw_11 rfl rfl ?_
    refine jm_getR F dX8_clearLaw_12 fl_X8_10 lo_X8 rfl ?_
    refine jm_getI F dX8_clearLaw_15 fl_X8_168 (lo_T isT_1) rfl ?_
    refine jm_nameI (f := fun x2 => [.int x2]) (fun x2 => ?_) rfl
    refine jm_istore_n (i := 1) (lv' := [some (.ref (jm_a E 0 0)), some (.int x2)]) F dX8_clearLaw_18 rfl (by decide) rfl rfl ?_
    refine jm_aload_n (i := 0) F dX8_clearLaw_19 rfl rfl ?_
    refine jm_getR F dX8_clearLaw_20 fl_X8_10 lo_X8 rfl ?_
    refine jm_iconst F dX8_clearLaw_23 kc_0 ?_
    refine jm_putI F dX8_clearLaw_24 fp_X8_168 (lo_T isT_1) rfl (fun M3 => ?_)
    refine jm_iload_n (i := 1) F dX8_clearLaw_27 rfl rfl ?_
    exact jm_iret F dX8_clearLaw_28 (fun h => h)
  exact G r h hz
theorem dX8_weeks_0 : jm_d cX8_weeks 0 (.iload_n 1) 1 1 := ⟨by decide +kernel, rfl⟩
theorem dX8_weeks_1 : jm_d cX8_weeks 1 (.iconst 1) 1 2 := ⟨by decide +kernel, rfl⟩
theorem dX8_weeks_2 : jm_b cX8_weeks 2 (.if_icmp .ge) 5 12 := ⟨10, by decide +kernel, rfl, by decide⟩
theorem dX8_weeks_12 : jm_d cX8_weeks 12 (.iload_n 1) 1 13 := ⟨by decide +kernel, rfl⟩
theorem dX8_weeks_13 : jm_d cX8_weeks 13 (.bipush 60) 2 15 := ⟨by decide +kernel, rfl⟩
theorem dX8_weeks_15 : jm_b cX8_weeks 15 (.if_icmp .gt) 18 33 := ⟨18, by decide +kernel, rfl, by decide⟩
theorem dX8_weeks_33 : jm_d cX8_weeks 33 (.aload_n 0) 1 34 := ⟨by decide +kernel, rfl⟩
theorem dX8_weeks_34 : jm_d cX8_weeks 34 (.bipush (-6)) 2 36 := ⟨by decide +kernel, rfl⟩
theorem dX8_weeks_36 : jm_d cX8_weeks 36 (.invokevirtual 64) 3 39 := ⟨by decide +kernel, rfl⟩
theorem dX8_weeks_39 : jm_d cX8_weeks 39 (.ireturn) 1 40 := ⟨by decide +kernel, rfl⟩
theorem dX8_weeks_18 : jm_d cX8_weeks 18 (.aload_n 0) 1 19 := ⟨by decide +kernel, rfl⟩
theorem dX8_weeks_19 : jm_d cX8_weeks 19 (.getfield 10) 3 22 := ⟨by decide +kernel, rfl⟩
theorem dX8_weeks_22 : jm_d cX8_weeks 22 (.getfield 175) 3 25 := ⟨by decide +kernel, rfl⟩
theorem dX8_weeks_25 : jm_d cX8_weeks 25 (.iload_n 1) 1 26 := ⟨by decide +kernel, rfl⟩
theorem dX8_weeks_26 : jm_d cX8_weeks 26 (.iadd) 1 27 := ⟨by decide +kernel, rfl⟩
theorem dX8_weeks_27 : jm_d cX8_weeks 27 (.sipush 999) 3 30 := ⟨by decide +kernel, rfl⟩
theorem dX8_weeks_30 : jm_b cX8_weeks 30 (.if_icmp .le) 33 40 := ⟨10, by decide +kernel, rfl, by decide⟩
theorem dX8_weeks_40 : jm_d cX8_weeks 40 (.aload_n 0) 1 41 := ⟨by decide +kernel, rfl⟩
theorem dX8_weeks_41 : jm_d cX8_weeks 41 (.getfield 19) 3 44 := ⟨by decide +kernel, rfl⟩
theorem dX8_weeks_44 : jm_d cX8_weeks 44 (.aload_n 0) 1 45 := ⟨by decide +kernel, rfl⟩
theorem dX8_weeks_45 : jm_d cX8_weeks 45 (.getfield 10) 3 48 := ⟨by decide +kernel, rfl⟩
theorem dX8_weeks_48 : jm_d cX8_weeks 48 (.invokevirtual 161) 3 51 := ⟨by decide +kernel, rfl⟩
theorem dX8_weeks_51 : jm_d cX8_weeks 51 (.aload_n 0) 1 52 := ⟨by decide +kernel, rfl⟩
theorem dX8_weeks_52 : jm_d cX8_weeks 52 (.getfield 10) 3 55 := ⟨by decide +kernel, rfl⟩
theorem dX8_weeks_55 : jm_d cX8_weeks 55 (.iload_n 1) 1 56 := ⟨by decide +kernel, rfl⟩
theorem dX8_weeks_56 : jm_d cX8_weeks 56 (.invokevirtual 178) 3 59 := ⟨by decide +kernel, rfl⟩
theorem dX8_weeks_59 : jm_d cX8_weeks 59 (.aload_n 0) 1 60 := ⟨by decide +kernel, rfl⟩
theorem dX8_weeks_60 : jm_d cX8_weeks 60 (.getfield 10) 3 63 := ⟨by decide +kernel, rfl⟩
theorem dX8_weeks_63 : jm_d cX8_weeks 63 (.getfield 175) 3 66 := ⟨by decide +kernel, rfl⟩
theorem dX8_weeks_66 : jm_d cX8_weeks 66 (.ireturn) 1 67 := ⟨by decide +kernel, rfl⟩
theorem dX8_weeks_5 : jm_d cX8_weeks 5 (.aload_n 0) 1 6 := ⟨by decide +kernel, rfl⟩
theorem dX8_weeks_6 : jm_d cX8_weeks 6 (.bipush (-4)) 2 8 := ⟨by decide +kernel, rfl⟩
theorem dX8_weeks_8 : jm_d cX8_weeks 8 (.invokevirtual 64) 3 11 := ⟨by decide +kernel, rfl⟩
theorem dX8_weeks_11 : jm_d cX8_weeks 11 (.ireturn) 1 12 := ⟨by decide +kernel, rfl⟩
set_option maxHeartbeats 4000000 in
set_option maxRecDepth 100000 in
theorem kW_weeks (E : jm_Ev) (hE : jm_dj E jm_LC) {M : jm_M} {p1 : Int32}  {r : Int32 × jm_M} (h : sW_weeks M p1 = some r) : jm_Ct E jm_LC yX8_weeks cX8_weeks 2 (some .int) 4 90 [.ref (jm_a E 0 0), .int p1] M (some (.int r.1)) r.2 := by
  refine jm_enter (lv := [some (.ref (jm_a E 0 0)), some (.int p1)]) hE (by decide) (Nat.le_of_ble_eq_true rfl) rfl ?_
  intro z w F hz
  have G : jm_G w 0 [some (.ref (jm_a E 0 0)), some (.int p1)] [] M (sW_weeks M p1) (fun e => z (some (.int e.1)) e.2) := by
    unfold sW_weeks
    refine jm_iload_n (i := 1) F dX8_weeks_0 rfl rfl ?_
    refine jm_iconst F dX8_weeks_1 kc_1 ?_
    refine jm_icmp_ge F dX8_weeks_2 (fun c1 => ?_) (fun c1 => ?_)
    · refine jm_iload_n (i := 1) F dX8_weeks_12 rfl rfl ?_
      refine jm_bipush F dX8_weeks_13 kb_60 ?_
      refine jm_icmp_gt F dX8_weeks_15 (fun c2 => ?_) (fun c2 => ?_)
      · refine jm_aload_n (i := 0) F dX8_weeks_33 rfl rfl ?_
        refine jm_bipush F dX8_weeks_34 kb_m6 ?_
        refine jm_callV (As := [.int (-6)]) (st := []) (rv := fun r => some (.int r.1)) (mm := fun r => r.2) F dX8_weeks_36 qX8_64 rfl lo_X8 rfl (fun r h => kW_refuse E hE h) rfl (Nat.le_of_ble_eq_true rfl) ⟨Nat.le_of_ble_eq_true rfl, Nat.le_of_ble_eq_true rfl⟩ (fun r3 => ?_)
        exact jm_iret F dX8_weeks_39 (fun h => h)
      · refine jm_aload_n (i := 0) F dX8_weeks_18 rfl rfl ?_
        refine jm_getR F dX8_weeks_19 fl_X8_10 lo_X8 rfl ?_
        refine jm_getI F dX8_weeks_22 fl_X8_175 (lo_T isT_1) rfl ?_
        refine jm_iload_n (i := 1) F dX8_weeks_25 rfl rfl ?_
        refine jm_iadd F dX8_weeks_26 ?_
        refine jm_sipush F dX8_weeks_27 ks_999 ?_
        refine jm_icmp_le F dX8_weeks_30 (fun c4 => ?_) (fun c4 => ?_)
        · refine jm_aload_n (i := 0) F dX8_weeks_40 rfl rfl ?_
          refine jm_getR F dX8_weeks_41 fl_X8_19 lo_X8 rfl ?_
          refine jm_aload_n (i := 0) F dX8_weeks_44 rfl rfl ?_
          refine jm_getR F dX8_weeks_45 fl_X8_10 lo_X8 rfl ?_
          refine jm_callV (As := [.ref (jm_a E 1 0)]) (st := []) (rv := fun _ => none) (mm := fun r => r) F dX8_weeks_48 qX8_161 rfl lo_X4 rfl (fun r h => kP_keep E hE isT_1 h) rfl (Nat.le_of_ble_eq_true rfl) ⟨Nat.le_of_ble_eq_true rfl, Nat.le_of_ble_eq_true rfl⟩ (fun r5 => ?_)
          refine jm_aload_n (i := 0) F dX8_weeks_51 rfl rfl ?_
          refine jm_getR F dX8_weeks_52 fl_X8_10 lo_X8 rfl ?_
          refine jm_iload_n (i := 1) F dX8_weeks_55 rfl rfl ?_
          refine jm_callV (As := [.int p1]) (st := []) (rv := fun _ => none) (mm := fun r => r) F dX8_weeks_56 qX8_178 rfl (lo_T isT_1) rfl (fun r h => kT_weeksPass E hE isT_1 h) rfl (Nat.le_of_ble_eq_true rfl) ⟨Nat.le_of_ble_eq_true rfl, Nat.le_of_ble_eq_true rfl⟩ (fun r6 => ?_)
          refine jm_aload_n (i := 0) F dX8_weeks_59 rfl rfl ?_
          refine jm_getR F dX8_weeks_60 fl_X8_10 lo_X8 rfl ?_
          refine jm_getI F dX8_weeks_63 fl_X8_175 (lo_T isT_1) rfl ?_
          exact jm_iret F dX8_weeks_66 (fun h => h)
        · refine jm_aload_n (i := 0) F dX8_weeks_33 rfl rfl ?_
          refine jm_bipush F dX8_weeks_34 kb_m6 ?_
          refine jm_callV (As := [.int (-6)]) (st := []) (rv := fun r => some (.int r.1)) (mm := fun r => r.2) F dX8_weeks_36 qX8_64 rfl lo_X8 rfl (fun r h => kW_refuse E hE h) rfl (Nat.le_of_ble_eq_true rfl) ⟨Nat.le_of_ble_eq_true rfl, Nat.le_of_ble_eq_true rfl⟩ (fun r7 => ?_)
          exact jm_iret F dX8_weeks_39 (fun h => h)
    · refine jm_aload_n (i := 0) F dX8_weeks_5 rfl rfl ?_
      refine jm_bipush F dX8_weeks_6 kb_m4 ?_
      refine jm_callV (As := [.int (-4)]) (st := []) (rv := fun r => some (.int r.1)) (mm := fun r => r.2) F dX8_weeks_8 qX8_64 rfl lo_X8 rfl (fun r h => kW_refuse E hE h) rfl (Nat.le_of_ble_eq_true rfl) ⟨Nat.le_of_ble_eq_true rfl, Nat.le_of_ble_eq_true rfl⟩ (fun r8 => ?_)
      exact jm_iret F dX8_weeks_11 (fun h => h)
  exact G r h hz
theorem dX4_giveBack_0 : jm_d cX4_giveBack 0 (.aload_n 0) 1 1 := ⟨by decide +kernel, rfl⟩
theorem dX4_giveBack_1 : jm_d cX4_giveBack 1 (.getfield 11) 3 4 := ⟨by decide +kernel, rfl⟩
theorem dX4_giveBack_4 : jm_d cX4_giveBack 4 (.aload_n 0) 1 5 := ⟨by decide +kernel, rfl⟩
theorem dX4_giveBack_5 : jm_d cX4_giveBack 5 (.getfield 17) 3 8 := ⟨by decide +kernel, rfl⟩
theorem dX4_giveBack_8 : jm_d cX4_giveBack 8 (.aaload) 1 9 := ⟨by decide +kernel, rfl⟩
theorem dX4_giveBack_9 : jm_d cX4_giveBack 9 (.astore_n 2) 1 10 := ⟨by decide +kernel, rfl⟩
theorem dX4_giveBack_10 : jm_d cX4_giveBack 10 (.aload_n 2) 1 11 := ⟨by decide +kernel, rfl⟩
theorem dX4_giveBack_11 : jm_b cX4_giveBack 11 .ifnull 14 19 := ⟨8, by decide +kernel, rfl, by decide⟩
theorem dX4_giveBack_14 : jm_d cX4_giveBack 14 (.aload_n 1) 1 15 := ⟨by decide +kernel, rfl⟩
theorem dX4_giveBack_15 : jm_d cX4_giveBack 15 (.aload_n 2) 1 16 := ⟨by decide +kernel, rfl⟩
theorem dX4_giveBack_16 : jm_d cX4_giveBack 16 (.invokevirtual 31) 3 19 := ⟨by decide +kernel, rfl⟩
theorem dX4_giveBack_19 : jm_d cX4_giveBack 19 (.aload_n 0) 1 20 := ⟨by decide +kernel, rfl⟩
theorem dX4_giveBack_20 : jm_d cX4_giveBack 20 (.aload_n 0) 1 21 := ⟨by decide +kernel, rfl⟩
theorem dX4_giveBack_21 : jm_d cX4_giveBack 21 (.getfield 17) 3 24 := ⟨by decide +kernel, rfl⟩
theorem dX4_giveBack_24 : jm_d cX4_giveBack 24 (.bipush 8) 2 26 := ⟨by decide +kernel, rfl⟩
theorem dX4_giveBack_26 : jm_d cX4_giveBack 26 (.iadd) 1 27 := ⟨by decide +kernel, rfl⟩
theorem dX4_giveBack_27 : jm_d cX4_giveBack 27 (.iconst 1) 1 28 := ⟨by decide +kernel, rfl⟩
theorem dX4_giveBack_28 : jm_d cX4_giveBack 28 (.isub) 1 29 := ⟨by decide +kernel, rfl⟩
theorem dX4_giveBack_29 : jm_d cX4_giveBack 29 (.bipush 8) 2 31 := ⟨by decide +kernel, rfl⟩
theorem dX4_giveBack_31 : jm_d cX4_giveBack 31 (.irem) 1 32 := ⟨by decide +kernel, rfl⟩
theorem dX4_giveBack_32 : jm_d cX4_giveBack 32 (.putfield 17) 3 35 := ⟨by decide +kernel, rfl⟩
theorem dX4_giveBack_35 : jm_d cX4_giveBack 35 (.aload_n 0) 1 36 := ⟨by decide +kernel, rfl⟩
theorem dX4_giveBack_36 : jm_d cX4_giveBack 36 (.dup) 1 37 := ⟨by decide +kernel, rfl⟩
theorem dX4_giveBack_37 : jm_d cX4_giveBack 37 (.getfield 22) 3 40 := ⟨by decide +kernel, rfl⟩
theorem dX4_giveBack_40 : jm_d cX4_giveBack 40 (.iconst 1) 1 41 := ⟨by decide +kernel, rfl⟩
theorem dX4_giveBack_41 : jm_d cX4_giveBack 41 (.isub) 1 42 := ⟨by decide +kernel, rfl⟩
theorem dX4_giveBack_42 : jm_d cX4_giveBack 42 (.putfield 22) 3 45 := ⟨by decide +kernel, rfl⟩
theorem dX4_giveBack_45 : jm_d cX4_giveBack 45 (.return_) 1 46 := ⟨by decide +kernel, rfl⟩
set_option maxHeartbeats 4000000 in
set_option maxRecDepth 100000 in
theorem kP_giveBack (E : jm_Ev) (hE : jm_dj E jm_LC) {M : jm_M} {p1 : Nat} (hp1 : jm_isT p1) {r : jm_M} (h : sP_giveBack M p1 = some r) : jm_Ct E jm_LC yX4_giveBack cX4_giveBack 3 none 2 61 [.ref (jm_a E 13 0), .ref (jm_a E p1 0)] M none r := by
  refine jm_enter (lv := [some (.ref (jm_a E 13 0)), some (.ref (jm_a E p1 0)), none]) hE (by decide) (Nat.le_of_ble_eq_true rfl) rfl ?_
  intro z w F hz
  have G : jm_G w 0 [some (.ref (jm_a E 13 0)), some (.ref (jm_a E p1 0)), none] [] M (sP_giveBack M p1) (fun e => z none e) := by
    unfold sP_giveBack
    refine jm_aload_n (i := 0) F dX4_giveBack_0 rfl rfl ?_
    refine jm_getR F dX4_giveBack_1 fl_X4_11 lo_X4 rfl ?_
    refine jm_aload_n (i := 0) F dX4_giveBack_4 rfl rfl ?_
    refine jm_getI F dX4_giveBack_5 fl_X4_17 lo_X4 rfl ?_
    refine jm_aald (b := 5) F dX4_giveBack_8 lr_X4_1 rfl jm_keptk (fun k1 hk1 => ?_)
    refine jm_astore_n (i := 2) (lv' := [some (.ref (jm_a E 13 0)), some (.ref (jm_a E p1 0)), some (.ref (jm_a E (5 + k1) 0))]) F dX4_giveBack_9 rfl (by decide) rfl rfl ?_
    refine jm_aload_n (i := 2) F dX4_giveBack_10 rfl rfl ?_
    refine jm_ifnull F dX4_giveBack_11 ?_
    refine jm_aload_n (i := 1) F dX4_giveBack_14 rfl rfl ?_
    refine jm_aload_n (i := 2) F dX4_giveBack_15 rfl rfl ?_
    refine jm_callV (As := [.ref (jm_a E (5 + k1) 0)]) (st := []) (rv := fun _ => none) (mm := fun r => r) F dX4_giveBack_16 qX4_31 rfl (lo_T hp1) rfl (fun r h => kT_copyFrom E hE hp1 (isT_k hk1) h) rfl (Nat.le_of_ble_eq_true rfl) ⟨Nat.le_of_ble_eq_true rfl, Nat.le_of_ble_eq_true rfl⟩ (fun r2 => ?_)
    refine jm_aload_n (i := 0) F dX4_giveBack_19 rfl rfl ?_
    refine jm_aload_n (i := 0) F dX4_giveBack_20 rfl rfl ?_
    refine jm_getI F dX4_giveBack_21 fl_X4_17 lo_X4 rfl ?_
    refine jm_bipush F dX4_giveBack_24 kb_8 ?_
    refine jm_iadd F dX4_giveBack_26 ?_
    refine jm_iconst F dX4_giveBack_27 kc_1 ?_
    refine jm_isub F dX4_giveBack_28 ?_
    refine jm_bipush F dX4_giveBack_29 kb_8 ?_
    refine jm_irem F dX4_giveBack_31 (fun v3 => ?_)
    refine jm_putI F dX4_giveBack_32 fp_X4_17 lo_X4 rfl (fun M4 => ?_)
    refine jm_aload_n (i := 0) F dX4_giveBack_35 rfl rfl ?_
    refine jm_dup F dX4_giveBack_36 rfl ?_
    refine jm_getI F dX4_giveBack_37 fl_X4_22 lo_X4 rfl ?_
    refine jm_iconst F dX4_giveBack_40 kc_1 ?_
    refine jm_isub F dX4_giveBack_41 ?_
    refine jm_putI F dX4_giveBack_42 fp_X4_22 lo_X4 rfl (fun M5 => ?_)
    exact jm_vret F dX4_giveBack_45 (fun h => h)
  exact G r h hz
theorem dX8_back_0 : jm_d cX8_back 0 (.aload_n 0) 1 1 := ⟨by decide +kernel, rfl⟩
theorem dX8_back_1 : jm_d cX8_back 1 (.getfield 19) 3 4 := ⟨by decide +kernel, rfl⟩
theorem dX8_back_4 : jm_d cX8_back 4 (.getfield 182) 3 7 := ⟨by decide +kernel, rfl⟩
theorem dX8_back_7 : jm_b cX8_back 7 (.ifCond .ne) 10 17 := ⟨10, by decide +kernel, rfl, by decide⟩
theorem dX8_back_10 : jm_d cX8_back 10 (.aload_n 0) 1 11 := ⟨by decide +kernel, rfl⟩
theorem dX8_back_11 : jm_d cX8_back 11 (.bipush (-3)) 2 13 := ⟨by decide +kernel, rfl⟩
theorem dX8_back_13 : jm_d cX8_back 13 (.invokevirtual 64) 3 16 := ⟨by decide +kernel, rfl⟩
theorem dX8_back_16 : jm_d cX8_back 16 (.ireturn) 1 17 := ⟨by decide +kernel, rfl⟩
theorem dX8_back_17 : jm_d cX8_back 17 (.aload_n 0) 1 18 := ⟨by decide +kernel, rfl⟩
theorem dX8_back_18 : jm_d cX8_back 18 (.getfield 19) 3 21 := ⟨by decide +kernel, rfl⟩
theorem dX8_back_21 : jm_d cX8_back 21 (.aload_n 0) 1 22 := ⟨by decide +kernel, rfl⟩
theorem dX8_back_22 : jm_d cX8_back 22 (.getfield 10) 3 25 := ⟨by decide +kernel, rfl⟩
theorem dX8_back_25 : jm_d cX8_back 25 (.invokevirtual 185) 3 28 := ⟨by decide +kernel, rfl⟩
theorem dX8_back_28 : jm_d cX8_back 28 (.aload_n 0) 1 29 := ⟨by decide +kernel, rfl⟩
theorem dX8_back_29 : jm_d cX8_back 29 (.getfield 19) 3 32 := ⟨by decide +kernel, rfl⟩
theorem dX8_back_32 : jm_d cX8_back 32 (.getfield 182) 3 35 := ⟨by decide +kernel, rfl⟩
theorem dX8_back_35 : jm_d cX8_back 35 (.ireturn) 1 36 := ⟨by decide +kernel, rfl⟩
set_option maxHeartbeats 4000000 in
set_option maxRecDepth 100000 in
theorem kW_back (E : jm_Ev) (hE : jm_dj E jm_LC) {M : jm_M}  {r : Int32 × jm_M} (h : sW_back M = some r) : jm_Ct E jm_LC yX8_back cX8_back 1 (some .int) 3 83 [.ref (jm_a E 0 0)] M (some (.int r.1)) r.2 := by
  refine jm_enter (lv := [some (.ref (jm_a E 0 0))]) hE (by decide) (Nat.le_of_ble_eq_true rfl) rfl ?_
  intro z w F hz
  have G : jm_G w 0 [some (.ref (jm_a E 0 0))] [] M (sW_back M) (fun e => z (some (.int e.1)) e.2) := by
    unfold sW_back
    refine jm_aload_n (i := 0) F dX8_back_0 rfl rfl ?_
    refine jm_getR F dX8_back_1 fl_X8_19 lo_X8 rfl ?_
    refine jm_getI F dX8_back_4 fl_X8_182 lo_X4 rfl ?_
    refine jm_if_ne F dX8_back_7 (fun c1 => ?_) (fun c1 => ?_)
    · refine jm_aload_n (i := 0) F dX8_back_10 rfl rfl ?_
      refine jm_bipush F dX8_back_11 kb_m3 ?_
      refine jm_callV (As := [.int (-3)]) (st := []) (rv := fun r => some (.int r.1)) (mm := fun r => r.2) F dX8_back_13 qX8_64 rfl lo_X8 rfl (fun r h => kW_refuse E hE h) rfl (Nat.le_of_ble_eq_true rfl) ⟨Nat.le_of_ble_eq_true rfl, Nat.le_of_ble_eq_true rfl⟩ (fun r2 => ?_)
      exact jm_iret F dX8_back_16 (fun h => h)
    · refine jm_aload_n (i := 0) F dX8_back_17 rfl rfl ?_
      refine jm_getR F dX8_back_18 fl_X8_19 lo_X8 rfl ?_
      refine jm_aload_n (i := 0) F dX8_back_21 rfl rfl ?_
      refine jm_getR F dX8_back_22 fl_X8_10 lo_X8 rfl ?_
      refine jm_callV (As := [.ref (jm_a E 1 0)]) (st := []) (rv := fun _ => none) (mm := fun r => r) F dX8_back_25 qX8_185 rfl lo_X4 rfl (fun r h => kP_giveBack E hE isT_1 h) rfl (Nat.le_of_ble_eq_true rfl) ⟨Nat.le_of_ble_eq_true rfl, Nat.le_of_ble_eq_true rfl⟩ (fun r3 => ?_)
      refine jm_aload_n (i := 0) F dX8_back_28 rfl rfl ?_
      refine jm_getR F dX8_back_29 fl_X8_19 lo_X8 rfl ?_
      refine jm_getI F dX8_back_32 fl_X8_182 lo_X4 rfl ?_
      exact jm_iret F dX8_back_35 (fun h => h)
  exact G r h hz
theorem dX8_areTwo_0 : jm_d cX8_areTwo 0 (.aload_n 0) 1 1 := ⟨by decide +kernel, rfl⟩
theorem dX8_areTwo_1 : jm_d cX8_areTwo 1 (.getfield 10) 3 4 := ⟨by decide +kernel, rfl⟩
theorem dX8_areTwo_4 : jm_d cX8_areTwo 4 (.iload_n 1) 1 5 := ⟨by decide +kernel, rfl⟩
theorem dX8_areTwo_5 : jm_d cX8_areTwo 5 (.invokevirtual 108) 3 8 := ⟨by decide +kernel, rfl⟩
theorem dX8_areTwo_8 : jm_b cX8_areTwo 8 (.ifCond .eq) 11 31 := ⟨23, by decide +kernel, rfl, by decide⟩
theorem dX8_areTwo_31 : jm_d cX8_areTwo 31 (.iconst 0) 1 32 := ⟨by decide +kernel, rfl⟩
theorem dX8_areTwo_32 : jm_d cX8_areTwo 32 (.ireturn) 1 33 := ⟨by decide +kernel, rfl⟩
theorem dX8_areTwo_11 : jm_d cX8_areTwo 11 (.aload_n 0) 1 12 := ⟨by decide +kernel, rfl⟩
theorem dX8_areTwo_12 : jm_d cX8_areTwo 12 (.getfield 10) 3 15 := ⟨by decide +kernel, rfl⟩
theorem dX8_areTwo_15 : jm_d cX8_areTwo 15 (.iload_n 2) 1 16 := ⟨by decide +kernel, rfl⟩
theorem dX8_areTwo_16 : jm_d cX8_areTwo 16 (.invokevirtual 108) 3 19 := ⟨by decide +kernel, rfl⟩
theorem dX8_areTwo_19 : jm_b cX8_areTwo 19 (.ifCond .eq) 22 31 := ⟨12, by decide +kernel, rfl, by decide⟩
theorem dX8_areTwo_22 : jm_d cX8_areTwo 22 (.iload_n 1) 1 23 := ⟨by decide +kernel, rfl⟩
theorem dX8_areTwo_23 : jm_d cX8_areTwo 23 (.iload_n 2) 1 24 := ⟨by decide +kernel, rfl⟩
theorem dX8_areTwo_24 : jm_b cX8_areTwo 24 (.if_icmp .eq) 27 31 := ⟨7, by decide +kernel, rfl, by decide⟩
theorem dX8_areTwo_27 : jm_d cX8_areTwo 27 (.iconst 1) 1 28 := ⟨by decide +kernel, rfl⟩
theorem dX8_areTwo_28 : jm_b cX8_areTwo 28 .goto 31 32 := ⟨4, by decide +kernel, rfl, by decide⟩
set_option maxHeartbeats 4000000 in
set_option maxRecDepth 100000 in
theorem kW_areTwo (E : jm_Ev) (hE : jm_dj E jm_LC) {M : jm_M} {p1 : Int32} {p2 : Int32}  {r : Int32} (h : sW_areTwo M p1 p2 = some r) : jm_Ct E jm_LC yX8_areTwo cX8_areTwo 3 (some .boolean) 1 21 [.ref (jm_a E 0 0), .int p1, .int p2] M (some (.int r)) M := by
  refine jm_enter (lv := [some (.ref (jm_a E 0 0)), some (.int p1), some (.int p2)]) hE (by decide) (Nat.le_of_ble_eq_true rfl) rfl ?_
  intro z w F hz
  have G : jm_G w 0 [some (.ref (jm_a E 0 0)), some (.int p1), some (.int p2)] [] M (sW_areTwo M p1 p2) (fun e => z (some (.int e)) M) := by
    unfold sW_areTwo
    refine jm_aload_n (i := 0) F dX8_areTwo_0 rfl rfl ?_
    refine jm_getR F dX8_areTwo_1 fl_X8_10 lo_X8 rfl ?_
    refine jm_iload_n (i := 1) F dX8_areTwo_4 rfl rfl ?_
    refine jm_callV (As := [.int p1]) (st := []) (rv := fun r => some (.int r)) (mm := fun _ => M) F dX8_areTwo_5 qX8_108 rfl (lo_T isT_1) rfl (fun r h => kT_hasPerson E hE isT_1 h) rfl (Nat.le_of_ble_eq_true rfl) ⟨Nat.le_of_ble_eq_true rfl, Nat.le_of_ble_eq_true rfl⟩ (fun r1 => ?_)
    refine jm_if_eq F dX8_areTwo_8 (fun c2 => ?_) (fun c2 => ?_)
    · refine jm_iconst F dX8_areTwo_31 kc_0 ?_
      exact jm_zret F dX8_areTwo_32 (Or.inl rfl) (fun h => h)
    · refine jm_aload_n (i := 0) F dX8_areTwo_11 rfl rfl ?_
      refine jm_getR F dX8_areTwo_12 fl_X8_10 lo_X8 rfl ?_
      refine jm_iload_n (i := 2) F dX8_areTwo_15 rfl rfl ?_
      refine jm_callV (As := [.int p2]) (st := []) (rv := fun r => some (.int r)) (mm := fun _ => M) F dX8_areTwo_16 qX8_108 rfl (lo_T isT_1) rfl (fun r h => kT_hasPerson E hE isT_1 h) rfl (Nat.le_of_ble_eq_true rfl) ⟨Nat.le_of_ble_eq_true rfl, Nat.le_of_ble_eq_true rfl⟩ (fun r3 => ?_)
      refine jm_if_eq F dX8_areTwo_19 (fun c4 => ?_) (fun c4 => ?_)
      · refine jm_iconst F dX8_areTwo_31 kc_0 ?_
        exact jm_zret F dX8_areTwo_32 (Or.inl rfl) (fun h => h)
      · refine jm_iload_n (i := 1) F dX8_areTwo_22 rfl rfl ?_
        refine jm_iload_n (i := 2) F dX8_areTwo_23 rfl rfl ?_
        refine jm_icmp_eq F dX8_areTwo_24 (fun c5 => ?_) (fun c5 => ?_)
        · refine jm_iconst F dX8_areTwo_31 kc_0 ?_
          exact jm_zret F dX8_areTwo_32 (Or.inl rfl) (fun h => h)
        · refine jm_iconst F dX8_areTwo_27 kc_1 ?_
          refine jm_goto F dX8_areTwo_28 ?_
          exact jm_zret F dX8_areTwo_32 (Or.inr rfl) (fun h => h)
  exact G r h hz
theorem dX7_isOnPan_0 : jm_d cX7_isOnPan 0 (.aload_n 0) 1 1 := ⟨by decide +kernel, rfl⟩
theorem dX7_isOnPan_1 : jm_d cX7_isOnPan 1 (.getfield 30) 3 4 := ⟨by decide +kernel, rfl⟩
theorem dX7_isOnPan_4 : jm_d cX7_isOnPan 4 (.iload_n 3) 1 5 := ⟨by decide +kernel, rfl⟩
theorem dX7_isOnPan_5 : jm_d cX7_isOnPan 5 (.iaload) 1 6 := ⟨by decide +kernel, rfl⟩
theorem dX7_isOnPan_6 : jm_d cX7_isOnPan 6 (.iload_n 1) 1 7 := ⟨by decide +kernel, rfl⟩
theorem dX7_isOnPan_7 : jm_b cX7_isOnPan 7 (.if_icmp .eq) 10 20 := ⟨13, by decide +kernel, rfl, by decide⟩
theorem dX7_isOnPan_20 : jm_d cX7_isOnPan 20 (.iconst 1) 1 21 := ⟨by decide +kernel, rfl⟩
theorem dX7_isOnPan_21 : jm_b cX7_isOnPan 21 .goto 24 25 := ⟨4, by decide +kernel, rfl, by decide⟩
theorem dX7_isOnPan_25 : jm_d cX7_isOnPan 25 (.ireturn) 1 26 := ⟨by decide +kernel, rfl⟩
theorem dX7_isOnPan_10 : jm_d cX7_isOnPan 10 (.aload_n 0) 1 11 := ⟨by decide +kernel, rfl⟩
theorem dX7_isOnPan_11 : jm_d cX7_isOnPan 11 (.getfield 30) 3 14 := ⟨by decide +kernel, rfl⟩
theorem dX7_isOnPan_14 : jm_d cX7_isOnPan 14 (.iload_n 3) 1 15 := ⟨by decide +kernel, rfl⟩
theorem dX7_isOnPan_15 : jm_d cX7_isOnPan 15 (.iaload) 1 16 := ⟨by decide +kernel, rfl⟩
theorem dX7_isOnPan_16 : jm_d cX7_isOnPan 16 (.iload_n 2) 1 17 := ⟨by decide +kernel, rfl⟩
theorem dX7_isOnPan_17 : jm_b cX7_isOnPan 17 (.if_icmp .ne) 20 24 := ⟨7, by decide +kernel, rfl, by decide⟩
theorem dX7_isOnPan_24 : jm_d cX7_isOnPan 24 (.iconst 0) 1 25 := ⟨by decide +kernel, rfl⟩
set_option maxHeartbeats 4000000 in
set_option maxRecDepth 100000 in
theorem kT_isOnPan (E : jm_Ev) (hE : jm_dj E jm_LC) {M : jm_M} {t : Nat} {p1 : Int32} {p2 : Int32} {p3 : Int32} (ht : jm_isT t) {r : Int32} (h : sT_isOnPan M t p1 p2 p3 = some r) : jm_Ct E jm_LC yX7_isOnPan cX7_isOnPan 4 (some .boolean) 0 0 [.ref (jm_a E t 0), .int p1, .int p2, .int p3] M (some (.int r)) M := by
  refine jm_enter (lv := [some (.ref (jm_a E t 0)), some (.int p1), some (.int p2), some (.int p3)]) hE (by decide) (Nat.le_of_ble_eq_true rfl) rfl ?_
  intro z w F hz
  have G : jm_G w 0 [some (.ref (jm_a E t 0)), some (.int p1), some (.int p2), some (.int p3)] [] M (sT_isOnPan M t p1 p2 p3) (fun e => z (some (.int e)) M) := by
    unfold sT_isOnPan
    refine jm_aload_n (i := 0) F dX7_isOnPan_0 rfl rfl ?_
    refine jm_getR F dX7_isOnPan_1 fl_X7_30 (lo_T ht) rfl ?_
    refine jm_iload_n (i := 3) F dX7_isOnPan_4 rfl rfl ?_
    refine jm_iald F dX7_isOnPan_5 (la_T_9 ht) (fun v1 => ?_)
    refine jm_iload_n (i := 1) F dX7_isOnPan_6 rfl rfl ?_
    refine jm_icmp_eq F dX7_isOnPan_7 (fun c2 => ?_) (fun c2 => ?_)
    · refine jm_iconst F dX7_isOnPan_20 kc_1 ?_
      refine jm_goto F dX7_isOnPan_21 ?_
      exact jm_zret F dX7_isOnPan_25 (Or.inr rfl) (fun h => h)
    · refine jm_aload_n (i := 0) F dX7_isOnPan_10 rfl rfl ?_
      refine jm_getR F dX7_isOnPan_11 fl_X7_30 (lo_T ht) rfl ?_
      refine jm_iload_n (i := 3) F dX7_isOnPan_14 rfl rfl ?_
      refine jm_iald F dX7_isOnPan_15 (la_T_9 ht) (fun v3 => ?_)
      refine jm_iload_n (i := 2) F dX7_isOnPan_16 rfl rfl ?_
      refine jm_icmp_ne F dX7_isOnPan_17 (fun c4 => ?_) (fun c4 => ?_)
      · refine jm_iconst F dX7_isOnPan_20 kc_1 ?_
        refine jm_goto F dX7_isOnPan_21 ?_
        exact jm_zret F dX7_isOnPan_25 (Or.inr rfl) (fun h => h)
      · refine jm_iconst F dX7_isOnPan_24 kc_0 ?_
        exact jm_zret F dX7_isOnPan_25 (Or.inl rfl) (fun h => h)
  exact G r h hz
theorem dX7_stepped_0 : jm_d cX7_stepped 0 (.aload_n 0) 1 1 := ⟨by decide +kernel, rfl⟩
theorem dX7_stepped_1 : jm_d cX7_stepped 1 (.getfield 42) 3 4 := ⟨by decide +kernel, rfl⟩
theorem dX7_stepped_4 : jm_d cX7_stepped 4 (.iload_n 2) 1 5 := ⟨by decide +kernel, rfl⟩
theorem dX7_stepped_5 : jm_d cX7_stepped 5 (.iaload) 1 6 := ⟨by decide +kernel, rfl⟩
theorem dX7_stepped_6 : jm_d cX7_stepped 6 (.istore 4) 2 8 := ⟨by decide +kernel, rfl⟩
theorem dX7_stepped_8 : jm_d cX7_stepped 8 (.aload_n 0) 1 9 := ⟨by decide +kernel, rfl⟩
theorem dX7_stepped_9 : jm_d cX7_stepped 9 (.getfield 39) 3 12 := ⟨by decide +kernel, rfl⟩
theorem dX7_stepped_12 : jm_d cX7_stepped 12 (.iload_n 2) 1 13 := ⟨by decide +kernel, rfl⟩
theorem dX7_stepped_13 : jm_d cX7_stepped 13 (.iaload) 1 14 := ⟨by decide +kernel, rfl⟩
theorem dX7_stepped_14 : decode cX7_stepped 14 = .ok (.tableswitch 102 0 6 #[42, 47, 56, 63, 75, 88, 98], 42) := by decide +kernel
theorem dX7_stepped_56 : jm_d cX7_stepped 56 (.iload_n 1) 1 57 := ⟨by decide +kernel, rfl⟩
theorem dX7_stepped_57 : jm_d cX7_stepped 57 (.iload 4) 2 59 := ⟨by decide +kernel, rfl⟩
theorem dX7_stepped_59 : jm_d cX7_stepped 59 (.iadd) 1 60 := ⟨by decide +kernel, rfl⟩
theorem dX7_stepped_60 : jm_d cX7_stepped 60 (.ireturn) 1 61 := ⟨by decide +kernel, rfl⟩
theorem dX7_stepped_61 : jm_d cX7_stepped 61 (.iconst 0) 1 62 := ⟨by decide +kernel, rfl⟩
theorem dX7_stepped_62 : jm_d cX7_stepped 62 (.iload_n 1) 1 63 := ⟨by decide +kernel, rfl⟩
theorem dX7_stepped_63 : jm_d cX7_stepped 63 (.iload 4) 2 65 := ⟨by decide +kernel, rfl⟩
theorem dX7_stepped_65 : jm_d cX7_stepped 65 (.isub) 1 66 := ⟨by decide +kernel, rfl⟩
theorem dX7_stepped_66 : jm_d cX7_stepped 66 (.invokestatic 79) 3 69 := ⟨by decide +kernel, rfl⟩
theorem dX7_stepped_69 : jm_d cX7_stepped 69 (.ireturn) 1 70 := ⟨by decide +kernel, rfl⟩
theorem dX7_stepped_70 : jm_d cX7_stepped 70 (.iload_n 1) 1 71 := ⟨by decide +kernel, rfl⟩
theorem dX7_stepped_71 : jm_d cX7_stepped 71 (.iload 4) 2 73 := ⟨by decide +kernel, rfl⟩
theorem dX7_stepped_73 : jm_d cX7_stepped 73 (.invokestatic 95) 3 76 := ⟨by decide +kernel, rfl⟩
theorem dX7_stepped_76 : jm_d cX7_stepped 76 (.ireturn) 1 77 := ⟨by decide +kernel, rfl⟩
theorem dX7_stepped_77 : jm_d cX7_stepped 77 (.iload_n 1) 1 78 := ⟨by decide +kernel, rfl⟩
theorem dX7_stepped_78 : jm_d cX7_stepped 78 (.iload 4) 2 80 := ⟨by decide +kernel, rfl⟩
theorem dX7_stepped_80 : jm_b cX7_stepped 80 (.if_icmp .ge) 83 87 := ⟨7, by decide +kernel, rfl, by decide⟩
theorem dX7_stepped_87 : jm_d cX7_stepped 87 (.iload_n 1) 1 88 := ⟨by decide +kernel, rfl⟩
theorem dX7_stepped_88 : jm_d cX7_stepped 88 (.ireturn) 1 89 := ⟨by decide +kernel, rfl⟩
theorem dX7_stepped_83 : jm_d cX7_stepped 83 (.iconst 0) 1 84 := ⟨by decide +kernel, rfl⟩
theorem dX7_stepped_84 : jm_b cX7_stepped 84 .goto 87 88 := ⟨4, by decide +kernel, rfl, by decide⟩
theorem dX7_stepped_89 : jm_d cX7_stepped 89 (.iload_n 3) 1 90 := ⟨by decide +kernel, rfl⟩
theorem dX7_stepped_90 : jm_d cX7_stepped 90 (.iconst 2) 1 91 := ⟨by decide +kernel, rfl⟩
theorem dX7_stepped_91 : jm_b cX7_stepped 91 (.if_icmp .ne) 94 100 := ⟨9, by decide +kernel, rfl, by decide⟩
theorem dX7_stepped_94 : jm_d cX7_stepped 94 (.iconst 2) 1 95 := ⟨by decide +kernel, rfl⟩
theorem dX7_stepped_95 : jm_d cX7_stepped 95 (.iload_n 1) 1 96 := ⟨by decide +kernel, rfl⟩
theorem dX7_stepped_96 : jm_d cX7_stepped 96 (.imul) 1 97 := ⟨by decide +kernel, rfl⟩
theorem dX7_stepped_97 : jm_b cX7_stepped 97 .goto 100 101 := ⟨4, by decide +kernel, rfl, by decide⟩
theorem dX7_stepped_101 : jm_d cX7_stepped 101 (.ireturn) 1 102 := ⟨by decide +kernel, rfl⟩
theorem dX7_stepped_100 : jm_d cX7_stepped 100 (.iload_n 1) 1 101 := ⟨by decide +kernel, rfl⟩
theorem dX7_stepped_102 : jm_d cX7_stepped 102 (.iload_n 3) 1 103 := ⟨by decide +kernel, rfl⟩
theorem dX7_stepped_103 : jm_b cX7_stepped 103 (.ifCond .ne) 106 110 := ⟨7, by decide +kernel, rfl, by decide⟩
theorem dX7_stepped_106 : jm_d cX7_stepped 106 (.iconst 0) 1 107 := ⟨by decide +kernel, rfl⟩
theorem dX7_stepped_107 : jm_b cX7_stepped 107 .goto 110 111 := ⟨4, by decide +kernel, rfl, by decide⟩
theorem dX7_stepped_111 : jm_d cX7_stepped 111 (.ireturn) 1 112 := ⟨by decide +kernel, rfl⟩
theorem dX7_stepped_110 : jm_d cX7_stepped 110 (.iload_n 1) 1 111 := ⟨by decide +kernel, rfl⟩
theorem dX7_stepped_112 : jm_d cX7_stepped 112 (.iload_n 1) 1 113 := ⟨by decide +kernel, rfl⟩
theorem dX7_stepped_113 : jm_d cX7_stepped 113 (.iconst 2) 1 114 := ⟨by decide +kernel, rfl⟩
theorem dX7_stepped_114 : jm_d cX7_stepped 114 (.idiv) 1 115 := ⟨by decide +kernel, rfl⟩
theorem dX7_stepped_115 : jm_d cX7_stepped 115 (.ireturn) 1 116 := ⟨by decide +kernel, rfl⟩
theorem dX7_stepped_116 : jm_d cX7_stepped 116 (.iload_n 1) 1 117 := ⟨by decide +kernel, rfl⟩
theorem dX7_stepped_117 : jm_d cX7_stepped 117 (.aload_n 0) 1 118 := ⟨by decide +kernel, rfl⟩
theorem dX7_stepped_118 : jm_d cX7_stepped 118 (.getfield 58) 3 121 := ⟨by decide +kernel, rfl⟩
theorem dX7_stepped_121 : jm_d cX7_stepped 121 (.iconst 2) 1 122 := ⟨by decide +kernel, rfl⟩
theorem dX7_stepped_122 : jm_d cX7_stepped 122 (.irem) 1 123 := ⟨by decide +kernel, rfl⟩
theorem dX7_stepped_123 : jm_d cX7_stepped 123 (.iadd) 1 124 := ⟨by decide +kernel, rfl⟩
theorem dX7_stepped_124 : jm_d cX7_stepped 124 (.ireturn) 1 125 := ⟨by decide +kernel, rfl⟩
set_option maxHeartbeats 4000000 in
set_option maxRecDepth 100000 in
theorem kT_stepped (E : jm_Ev) (hE : jm_dj E jm_LC) {M : jm_M} {t : Nat} {p1 : Int32} {p2 : Int32} {p3 : Int32} (ht : jm_isT t) {r : Int32} (h : sT_stepped M t p1 p2 p3 = some r) : jm_Ct E jm_LC yX7_stepped cX7_stepped 5 (some .int) 1 40 [.ref (jm_a E t 0), .int p1, .int p2, .int p3] M (some (.int r)) M := by
  refine jm_enter (lv := [some (.ref (jm_a E t 0)), some (.int p1), some (.int p2), some (.int p3), none]) hE (by decide) (Nat.le_of_ble_eq_true rfl) rfl ?_
  intro z w F hz
  have G : jm_G w 0 [some (.ref (jm_a E t 0)), some (.int p1), some (.int p2), some (.int p3), none] [] M (sT_stepped M t p1 p2 p3) (fun e => z (some (.int e)) M) := by
    unfold sT_stepped
    refine jm_aload_n (i := 0) F dX7_stepped_0 rfl rfl ?_
    refine jm_getR F dX7_stepped_1 fl_X7_42 (lo_T ht) rfl ?_
    refine jm_iload_n (i := 2) F dX7_stepped_4 rfl rfl ?_
    refine jm_iald F dX7_stepped_5 (la_T_15 ht) (fun v1 => ?_)
    refine jm_istore (i := 4) (lv' := [some (.ref (jm_a E t 0)), some (.int p1), some (.int p2), some (.int p3), some (.int v1)]) F dX7_stepped_6 (by decide) rfl rfl ?_
    refine jm_aload_n (i := 0) F dX7_stepped_8 rfl rfl ?_
    refine jm_getR F dX7_stepped_9 fl_X7_39 (lo_T ht) rfl ?_
    refine jm_iload_n (i := 2) F dX7_stepped_12 rfl rfl ?_
    refine jm_iald F dX7_stepped_13 (la_T_14 ht) (fun v2 => ?_)
    refine jm_ite (fun c3 => ?_) (fun c3 => ?_)
    · refine jm_tsw (tgt := 56) F dX7_stepped_14 c3 (by decide) (by decide) rfl (by decide) ?_
      refine jm_iload_n (i := 1) F dX7_stepped_56 rfl rfl ?_
      refine jm_iload F dX7_stepped_57 rfl ?_
      refine jm_iadd F dX7_stepped_59 ?_
      exact jm_iret F dX7_stepped_60 (fun h => h)
    · refine jm_ite (fun c4 => ?_) (fun c4 => ?_)
      · refine jm_tsw (tgt := 61) F dX7_stepped_14 c4 (by decide) (by decide) rfl (by decide) ?_
        refine jm_iconst F dX7_stepped_61 kc_0 ?_
        refine jm_iload_n (i := 1) F dX7_stepped_62 rfl rfl ?_
        refine jm_iload F dX7_stepped_63 rfl ?_
        refine jm_isub F dX7_stepped_65 ?_
        refine jm_mmax F dX7_stepped_66 tw_550 tw_551 tw_92 tw_552 ⟨Nat.le_of_ble_eq_true rfl, Nat.le_of_ble_eq_true rfl⟩ ?_
        exact jm_iret F dX7_stepped_69 (fun h => h)
      · refine jm_ite (fun c5 => ?_) (fun c5 => ?_)
        · refine jm_tsw (tgt := 70) F dX7_stepped_14 c5 (by decide) (by decide) rfl (by decide) ?_
          refine jm_iload_n (i := 1) F dX7_stepped_70 rfl rfl ?_
          refine jm_iload F dX7_stepped_71 rfl ?_
          refine jm_mmin F dX7_stepped_73 tw_484 tw_485 tw_92 tw_486 ⟨Nat.le_of_ble_eq_true rfl, Nat.le_of_ble_eq_true rfl⟩ ?_
          exact jm_iret F dX7_stepped_76 (fun h => h)
        · refine jm_ite (fun c6 => ?_) (fun c6 => ?_)
          · refine jm_tsw (tgt := 77) F dX7_stepped_14 c6 (by decide) (by decide) rfl (by decide) ?_
            refine jm_iload_n (i := 1) F dX7_stepped_77 rfl rfl ?_
            refine jm_iload F dX7_stepped_78 rfl ?_
            refine jm_icmp_ge F dX7_stepped_80 (fun c7 => ?_) (fun c7 => ?_)
            · refine jm_iload_n (i := 1) F dX7_stepped_87 rfl rfl ?_
              exact jm_iret F dX7_stepped_88 (fun h => h)
            · refine jm_iconst F dX7_stepped_83 kc_0 ?_
              refine jm_goto F dX7_stepped_84 ?_
              exact jm_iret F dX7_stepped_88 (fun h => h)
          · refine jm_ite (fun c8 => ?_) (fun c8 => ?_)
            · refine jm_tsw (tgt := 89) F dX7_stepped_14 c8 (by decide) (by decide) rfl (by decide) ?_
              refine jm_iload_n (i := 3) F dX7_stepped_89 rfl rfl ?_
              refine jm_iconst F dX7_stepped_90 kc_2 ?_
              refine jm_icmp_ne F dX7_stepped_91 (fun c9 => ?_) (fun c9 => ?_)
              · refine jm_iconst F dX7_stepped_94 kc_2 ?_
                refine jm_iload_n (i := 1) F dX7_stepped_95 rfl rfl ?_
                refine jm_imul F dX7_stepped_96 ?_
                refine jm_goto F dX7_stepped_97 ?_
                exact jm_iret F dX7_stepped_101 (fun h => h)
              · refine jm_iload_n (i := 1) F dX7_stepped_100 rfl rfl ?_
                exact jm_iret F dX7_stepped_101 (fun h => h)
            · refine jm_ite (fun c10 => ?_) (fun c10 => ?_)
              · refine jm_tsw (tgt := 102) F dX7_stepped_14 c10 (by decide) (by decide) rfl (by decide) ?_
                refine jm_iload_n (i := 3) F dX7_stepped_102 rfl rfl ?_
                refine jm_if_ne F dX7_stepped_103 (fun c11 => ?_) (fun c11 => ?_)
                · refine jm_iconst F dX7_stepped_106 kc_0 ?_
                  refine jm_goto F dX7_stepped_107 ?_
                  exact jm_iret F dX7_stepped_111 (fun h => h)
                · refine jm_iload_n (i := 1) F dX7_stepped_110 rfl rfl ?_
                  exact jm_iret F dX7_stepped_111 (fun h => h)
              · refine jm_ite (fun c12 => ?_) (fun c12 => ?_)
                · refine jm_tsw (tgt := 112) F dX7_stepped_14 c12 (by decide) (by decide) rfl (by decide) ?_
                  refine jm_iload_n (i := 1) F dX7_stepped_112 rfl rfl ?_
                  refine jm_iconst F dX7_stepped_113 kc_2 ?_
                  refine jm_idiv F dX7_stepped_114 (fun v13 => ?_)
                  exact jm_iret F dX7_stepped_115 (fun h => h)
                · refine jm_tsd (tgt := 116) F dX7_stepped_14 (by
                      have e0 := jm_ne c3 (a := 0) (by decide)
                      have e1 := jm_ne c4 (a := 1) (by decide)
                      have e2 := jm_ne c5 (a := 2) (by decide)
                      have e3 := jm_ne c6 (a := 3) (by decide)
                      have e4 := jm_ne c8 (a := 4) (by decide)
                      have e5 := jm_ne c10 (a := 5) (by decide)
                      have e6 := jm_ne c12 (a := 6) (by decide)
                      omega) (by decide) ?_
                  refine jm_iload_n (i := 1) F dX7_stepped_116 rfl rfl ?_
                  refine jm_aload_n (i := 0) F dX7_stepped_117 rfl rfl ?_
                  refine jm_getI F dX7_stepped_118 fl_X7_58 (lo_T ht) rfl ?_
                  refine jm_iconst F dX7_stepped_121 kc_2 ?_
                  refine jm_irem F dX7_stepped_122 (fun v14 => ?_)
                  refine jm_iadd F dX7_stepped_123 ?_
                  exact jm_iret F dX7_stepped_124 (fun h => h)
  exact G r h hz
