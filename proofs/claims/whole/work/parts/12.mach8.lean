theorem dX9_buy_0 : jm_d cX9_buy 0 (.aload_n 0) 1 1 := ⟨by decide +kernel, rfl⟩
theorem dX9_buy_1 : jm_d cX9_buy 1 (.iload_n 1) 1 2 := ⟨by decide +kernel, rfl⟩
theorem dX9_buy_2 : jm_d cX9_buy 2 (.iload_n 2) 1 3 := ⟨by decide +kernel, rfl⟩
theorem dX9_buy_3 : jm_d cX9_buy 3 (.invokevirtual 301) 3 6 := ⟨by decide +kernel, rfl⟩
theorem dX9_buy_6 : jm_b cX9_buy 6 (.ifCond .ne) 9 13 := ⟨7, by decide +kernel, rfl, by decide⟩
theorem dX9_buy_9 : jm_d cX9_buy 9 (.iconst (-1)) 1 10 := ⟨by decide +kernel, rfl⟩
theorem dX9_buy_10 : jm_b cX9_buy 10 .goto 13 28 := ⟨18, by decide +kernel, rfl, by decide⟩
theorem dX9_buy_13 : jm_d cX9_buy 13 (.iload_n 3) 1 14 := ⟨by decide +kernel, rfl⟩
theorem dX9_buy_14 : jm_d cX9_buy 14 (.iconst 0) 1 15 := ⟨by decide +kernel, rfl⟩
theorem dX9_buy_15 : jm_d cX9_buy 15 (.iconst 1) 1 16 := ⟨by decide +kernel, rfl⟩
theorem dX9_buy_16 : jm_d cX9_buy 16 (.invokestatic 98) 3 19 := ⟨by decide +kernel, rfl⟩
theorem dX9_buy_19 : jm_b cX9_buy 19 (.ifCond .ne) 22 27 := ⟨8, by decide +kernel, rfl, by decide⟩
theorem dX9_buy_22 : jm_d cX9_buy 22 (.bipush (-2)) 2 24 := ⟨by decide +kernel, rfl⟩
theorem dX9_buy_24 : jm_b cX9_buy 24 .goto 27 28 := ⟨4, by decide +kernel, rfl, by decide⟩
theorem dX9_buy_27 : jm_d cX9_buy 27 (.iconst 0) 1 28 := ⟨by decide +kernel, rfl⟩
theorem dX9_buy_28 : jm_d cX9_buy 28 (.istore 4) 2 30 := ⟨by decide +kernel, rfl⟩
theorem dX9_buy_30 : jm_d cX9_buy 30 (.iload 4) 2 32 := ⟨by decide +kernel, rfl⟩
theorem dX9_buy_32 : jm_b cX9_buy 32 (.ifCond .eq) 35 42 := ⟨10, by decide +kernel, rfl, by decide⟩
theorem dX9_buy_42 : jm_d cX9_buy 42 (.aload_n 0) 1 43 := ⟨by decide +kernel, rfl⟩
theorem dX9_buy_43 : jm_d cX9_buy 43 (.bipush 9) 2 45 := ⟨by decide +kernel, rfl⟩
theorem dX9_buy_45 : jm_d cX9_buy 45 (.invokevirtual 328) 3 48 := ⟨by decide +kernel, rfl⟩
theorem dX9_buy_48 : jm_d cX9_buy 48 (.istore 5) 2 50 := ⟨by decide +kernel, rfl⟩
theorem dX9_buy_50 : jm_d cX9_buy 50 (.bipush (-9)) 2 52 := ⟨by decide +kernel, rfl⟩
theorem dX9_buy_52 : jm_d cX9_buy 52 (.istore 6) 2 54 := ⟨by decide +kernel, rfl⟩
theorem dX9_buy_54 : jm_d cX9_buy 54 (.iconst 0) 1 55 := ⟨by decide +kernel, rfl⟩
theorem dX9_buy_55 : jm_d cX9_buy 55 (.istore 7) 2 57 := ⟨by decide +kernel, rfl⟩
theorem dX9_buy_57 : jm_d cX9_buy 57 (.iload 7) 2 59 := ⟨by decide +kernel, rfl⟩
theorem dX9_buy_59 : jm_d cX9_buy 59 (.iconst 1) 1 60 := ⟨by decide +kernel, rfl⟩
theorem dX9_buy_60 : jm_d cX9_buy 60 (.aload_n 0) 1 61 := ⟨by decide +kernel, rfl⟩
theorem dX9_buy_61 : jm_d cX9_buy 61 (.getfield 106) 3 64 := ⟨by decide +kernel, rfl⟩
theorem dX9_buy_64 : jm_d cX9_buy 64 (.ishl) 1 65 := ⟨by decide +kernel, rfl⟩
theorem dX9_buy_65 : jm_b cX9_buy 65 (.if_icmp .ge) 68 110 := ⟨45, by decide +kernel, rfl, by decide⟩
theorem dX9_buy_68 : jm_d cX9_buy 68 (.iload 7) 2 70 := ⟨by decide +kernel, rfl⟩
theorem dX9_buy_70 : jm_d cX9_buy 70 (.iload 5) 2 72 := ⟨by decide +kernel, rfl⟩
theorem dX9_buy_72 : jm_d cX9_buy 72 (.iconst (-1)) 1 73 := ⟨by decide +kernel, rfl⟩
theorem dX9_buy_73 : jm_d cX9_buy 73 (.ixor) 1 74 := ⟨by decide +kernel, rfl⟩
theorem dX9_buy_74 : jm_d cX9_buy 74 (.iand) 1 75 := ⟨by decide +kernel, rfl⟩
theorem dX9_buy_75 : jm_b cX9_buy 75 (.ifCond .ne) 78 104 := ⟨29, by decide +kernel, rfl, by decide⟩
theorem dX9_buy_78 : jm_d cX9_buy 78 (.aload_n 0) 1 79 := ⟨by decide +kernel, rfl⟩
theorem dX9_buy_79 : jm_d cX9_buy 79 (.iload 7) 2 81 := ⟨by decide +kernel, rfl⟩
theorem dX9_buy_81 : jm_d cX9_buy 81 (.iload 6) 2 83 := ⟨by decide +kernel, rfl⟩
theorem dX9_buy_83 : jm_d cX9_buy 83 (.invokevirtual 331) 3 86 := ⟨by decide +kernel, rfl⟩
theorem dX9_buy_86 : jm_b cX9_buy 86 (.ifCond .eq) 89 104 := ⟨18, by decide +kernel, rfl, by decide⟩
theorem dX9_buy_104 : jm_d cX9_buy 104 (.iinc 7 1) 3 107 := ⟨by decide +kernel, rfl⟩
theorem dX9_buy_107 : jm_b cX9_buy 107 .goto 110 57 := ⟨(-50), by decide +kernel, rfl, by decide⟩
theorem dX9_buy_89 : jm_d cX9_buy 89 (.aload_n 0) 1 90 := ⟨by decide +kernel, rfl⟩
theorem dX9_buy_90 : jm_d cX9_buy 90 (.iload_n 1) 1 91 := ⟨by decide +kernel, rfl⟩
theorem dX9_buy_91 : jm_d cX9_buy 91 (.iload_n 2) 1 92 := ⟨by decide +kernel, rfl⟩
theorem dX9_buy_92 : jm_d cX9_buy 92 (.iload 7) 2 94 := ⟨by decide +kernel, rfl⟩
theorem dX9_buy_94 : jm_d cX9_buy 94 (.invokevirtual 139) 3 97 := ⟨by decide +kernel, rfl⟩
theorem dX9_buy_97 : jm_b cX9_buy 97 (.ifCond .lt) 100 104 := ⟨7, by decide +kernel, rfl, by decide⟩
theorem dX9_buy_100 : jm_d cX9_buy 100 (.iload 7) 2 102 := ⟨by decide +kernel, rfl⟩
theorem dX9_buy_102 : jm_d cX9_buy 102 (.istore 6) 2 104 := ⟨by decide +kernel, rfl⟩
theorem dX9_buy_110 : jm_d cX9_buy 110 (.iload 6) 2 112 := ⟨by decide +kernel, rfl⟩
theorem dX9_buy_112 : jm_b cX9_buy 112 (.ifCond .ge) 115 120 := ⟨8, by decide +kernel, rfl, by decide⟩
theorem dX9_buy_120 : jm_d cX9_buy 120 (.iload_n 3) 1 121 := ⟨by decide +kernel, rfl⟩
theorem dX9_buy_121 : jm_b cX9_buy 121 (.ifCond .ne) 124 129 := ⟨8, by decide +kernel, rfl, by decide⟩
theorem dX9_buy_124 : jm_d cX9_buy 124 (.iload 6) 2 126 := ⟨by decide +kernel, rfl⟩
theorem dX9_buy_126 : jm_b cX9_buy 126 .goto 129 135 := ⟨9, by decide +kernel, rfl, by decide⟩
theorem dX9_buy_135 : jm_d cX9_buy 135 (.ireturn) 1 136 := ⟨by decide +kernel, rfl⟩
theorem dX9_buy_129 : jm_d cX9_buy 129 (.aload_n 0) 1 130 := ⟨by decide +kernel, rfl⟩
theorem dX9_buy_130 : jm_d cX9_buy 130 (.iload 6) 2 132 := ⟨by decide +kernel, rfl⟩
theorem dX9_buy_132 : jm_d cX9_buy 132 (.invokevirtual 325) 3 135 := ⟨by decide +kernel, rfl⟩
theorem dX9_buy_115 : jm_d cX9_buy 115 (.bipush (-9)) 2 117 := ⟨by decide +kernel, rfl⟩
theorem dX9_buy_117 : jm_b cX9_buy 117 .goto 120 135 := ⟨18, by decide +kernel, rfl, by decide⟩
theorem dX9_buy_35 : jm_d cX9_buy 35 (.aload_n 0) 1 36 := ⟨by decide +kernel, rfl⟩
theorem dX9_buy_36 : jm_d cX9_buy 36 (.iload 4) 2 38 := ⟨by decide +kernel, rfl⟩
theorem dX9_buy_38 : jm_d cX9_buy 38 (.invokevirtual 172) 3 41 := ⟨by decide +kernel, rfl⟩
theorem dX9_buy_41 : jm_d cX9_buy 41 (.ireturn) 1 42 := ⟨by decide +kernel, rfl⟩
set_option maxHeartbeats 4000000 in
set_option maxRecDepth 100000 in
theorem kM_buy (E : jm_Ev) (hE : jm_dj E jm_LM) {M : jm_M} {p1 : Int32} {p2 : Int32} {p3 : Int32}  {r : Int32 × jm_M} (h : sM_buy M p1 p2 p3 = some r) : jm_Ct E jm_LM yX9_buy cX9_buy 8 (some .int) 5 118 [.ref (jm_a E 0 0), .int p1, .int p2, .int p3] M (some (.int r.1)) r.2 := by
  refine jm_enter (lv := [some (.ref (jm_a E 0 0)), some (.int p1), some (.int p2), some (.int p3), none, none, none, none]) hE (by decide) (Nat.le_of_ble_eq_true rfl) rfl ?_
  intro z w F hz
  have G : jm_G w 0 [some (.ref (jm_a E 0 0)), some (.int p1), some (.int p2), some (.int p3), none, none, none, none] [] M (sM_buy M p1 p2 p3) (fun e => z (some (.int e.1)) e.2) := by
    unfold sM_buy
    refine jm_aload_n (i := 0) F dX9_buy_0 rfl rfl ?_
    refine jm_iload_n (i := 1) F dX9_buy_1 rfl rfl ?_
    refine jm_iload_n (i := 2) F dX9_buy_2 rfl rfl ?_
    refine jm_callV (As := [.int p1, .int p2]) (st := []) (rv := fun r => some (.int r)) (mm := fun _ => M) F dX9_buy_3 qX9_301 rfl lo_X9 rfl (fun r h => kM_areTwo E hE h) rfl (Nat.le_of_ble_eq_true rfl) ⟨Nat.le_of_ble_eq_true rfl, Nat.le_of_ble_eq_true rfl⟩ (fun r1 => ?_)
    refine jm_bind (pcJ := 28) (lvJ := fun e2 => [some (.ref (jm_a E 0 0)), some (.int p1), some (.int p2), some (.int p3), none, none, none, none]) (stJ := fun e2 => [.int e2]) (MJ := fun e2 => M) ?_ (fun e2 => ?_)
    · refine jm_if_ne F dX9_buy_6 (fun c3 => ?_) (fun c3 => ?_)
      · refine jm_iconst F dX9_buy_9 kc_m1 ?_
        refine jm_goto F dX9_buy_10 ?_
        exact jm_weakD F (lv' := [some (.ref (jm_a E 0 0)), some (.int p1), some (.int p2), some (.int p3), none, none, none, none]) ⟨rfl, rfl, rfl, rfl, trivial⟩ (fun h => h)
      · refine jm_iload_n (i := 3) F dX9_buy_13 rfl rfl ?_
        refine jm_iconst F dX9_buy_14 kc_0 ?_
        refine jm_iconst F dX9_buy_15 kc_1 ?_
        refine jm_callS (As := [.int p3, .int 0, .int 1]) (st := []) (rv := fun r => some (.int r)) (mm := fun _ => M) F dX9_buy_16 qX9_98 rfl (fun r h => kM_isIn E hE h) rfl (Nat.le_of_ble_eq_true rfl) ⟨Nat.le_of_ble_eq_true rfl, Nat.le_of_ble_eq_true rfl⟩ (fun r4 => ?_)
        refine jm_if_ne F dX9_buy_19 (fun c5 => ?_) (fun c5 => ?_)
        · refine jm_bipush F dX9_buy_22 kb_m2 ?_
          refine jm_goto F dX9_buy_24 ?_
          exact jm_weakD F (lv' := [some (.ref (jm_a E 0 0)), some (.int p1), some (.int p2), some (.int p3), none, none, none, none]) ⟨rfl, rfl, rfl, rfl, trivial⟩ (fun h => h)
        · refine jm_iconst F dX9_buy_27 kc_0 ?_
          exact jm_weakD F (lv' := [some (.ref (jm_a E 0 0)), some (.int p1), some (.int p2), some (.int p3), none, none, none, none]) ⟨rfl, rfl, rfl, rfl, trivial⟩ (fun h => h)
    · refine jm_istore (i := 4) (lv' := [some (.ref (jm_a E 0 0)), some (.int p1), some (.int p2), some (.int p3), some (.int e2), none, none, none]) F dX9_buy_28 (by decide) rfl rfl ?_
      refine jm_iload F dX9_buy_30 rfl ?_
      refine jm_if_eq F dX9_buy_32 (fun c6 => ?_) (fun c6 => ?_)
      · refine jm_aload_n (i := 0) F dX9_buy_42 rfl rfl ?_
        refine jm_bipush F dX9_buy_43 kb_9 ?_
        refine jm_callV (As := [.int 9]) (st := []) (rv := fun r => some (.int r)) (mm := fun _ => M) F dX9_buy_45 qX9_328 rfl lo_X9 rfl (fun r h => kM_ownedBy E hE h) rfl (Nat.le_of_ble_eq_true rfl) ⟨Nat.le_of_ble_eq_true rfl, Nat.le_of_ble_eq_true rfl⟩ (fun r7 => ?_)
        refine jm_istore (i := 5) (lv' := [some (.ref (jm_a E 0 0)), some (.int p1), some (.int p2), some (.int p3), some (.int e2), some (.int r7), none, none]) F dX9_buy_48 (by decide) rfl rfl ?_
        refine jm_bipush F dX9_buy_50 kb_m9 ?_
        refine jm_istore (i := 6) (lv' := [some (.ref (jm_a E 0 0)), some (.int p1), some (.int p2), some (.int p3), some (.int e2), some (.int r7), some (.int (-9)), none]) F dX9_buy_52 (by decide) rfl rfl ?_
        refine jm_iconst F dX9_buy_54 kc_0 ?_
        refine jm_istore (i := 7) (lv' := [some (.ref (jm_a E 0 0)), some (.int p1), some (.int p2), some (.int p3), some (.int e2), some (.int r7), some (.int (-9)), some (.int 0)]) F dX9_buy_55 (by decide) rfl rfl ?_
        refine jm_bind (pcJ := 110) (lvJ := fun e15 => [some (.ref (jm_a E 0 0)), none, none, some (.int p3), none, none, some (.int e15), none]) (stJ := fun _ => []) (MJ := fun e15 => M) ?_ (fun e15 => ?_)
        · refine jm_weak F (lv' := [some (.ref (jm_a E 0 0)), some (.int p1), some (.int p2), some (.int p3), none, some (.int r7), some (.int (-9)), some (.int 0)]) ⟨rfl, rfl, rfl, rfl, rfl, rfl, rfl, trivial⟩ ?_
          refine jm_loopR (lvH := fun s8 => [some (.ref (jm_a E 0 0)), some (.int p1), some (.int p2), some (.int p3), none, some (.int r7), some (.int s8.1), some (.int s8.2)]) (MH := fun s8 => M) (fun s8 => ?_) jm_N ((-9), 0)
          unfold sM_buy_L57
          refine jm_iload F dX9_buy_57 rfl ?_
          refine jm_iconst F dX9_buy_59 kc_1 ?_
          refine jm_aload_n (i := 0) F dX9_buy_60 rfl rfl ?_
          refine jm_getI F dX9_buy_61 fl_X9_106 lo_X9 rfl ?_
          refine jm_ishl F dX9_buy_64 ?_
          refine jm_icmp_ge F dX9_buy_65 (fun c9 => ?_) (fun c9 => ?_)
          · exact jm_weakD F (lv' := [some (.ref (jm_a E 0 0)), none, none, some (.int p3), none, none, some (.int s8.1), none]) ⟨rfl, rfl, rfl, trivial⟩ (fun h => h)
          · refine jm_iload F dX9_buy_68 rfl ?_
            refine jm_iload F dX9_buy_70 rfl ?_
            refine jm_iconst F dX9_buy_72 kc_m1 ?_
            refine jm_ixor F dX9_buy_73 ?_
            refine jm_iand F dX9_buy_74 ?_
            refine jm_if_ne F dX9_buy_75 (fun c10 => ?_) (fun c10 => ?_)
            · refine jm_aload_n (i := 0) F dX9_buy_78 rfl rfl ?_
              refine jm_iload F dX9_buy_79 rfl ?_
              refine jm_iload F dX9_buy_81 rfl ?_
              refine jm_callV (As := [.int s8.2, .int s8.1]) (st := []) (rv := fun r => some (.int r)) (mm := fun _ => M) F dX9_buy_83 qX9_331 rfl lo_X9 rfl (fun r h => kM_isBetter E hE h) rfl (Nat.le_of_ble_eq_true rfl) ⟨Nat.le_of_ble_eq_true rfl, Nat.le_of_ble_eq_true rfl⟩ (fun r11 => ?_)
              refine jm_if_eq F dX9_buy_86 (fun c12 => ?_) (fun c12 => ?_)
              · refine jm_iinc (i := 7) (lv' := [some (.ref (jm_a E 0 0)), some (.int p1), some (.int p2), some (.int p3), none, some (.int r7), some (.int s8.1), some (.int (s8.2 + 1))]) F dX9_buy_104 kc_1 rfl (by decide) rfl rfl ?_
                refine jm_goto F dX9_buy_107 ?_
                exact jm_weakD F (lv' := [some (.ref (jm_a E 0 0)), some (.int p1), some (.int p2), some (.int p3), none, some (.int r7), some (.int s8.1), some (.int (s8.2 + 1))]) ⟨rfl, rfl, rfl, rfl, rfl, rfl, rfl, trivial⟩ (fun h => h)
              · refine jm_aload_n (i := 0) F dX9_buy_89 rfl rfl ?_
                refine jm_iload_n (i := 1) F dX9_buy_90 rfl rfl ?_
                refine jm_iload_n (i := 2) F dX9_buy_91 rfl rfl ?_
                refine jm_iload F dX9_buy_92 rfl ?_
                refine jm_callV (As := [.int p1, .int p2, .int s8.2]) (st := []) (rv := fun r => some (.int r)) (mm := fun _ => M) F dX9_buy_94 qX9_139 rfl lo_X9 rfl (fun r h => kM_overWith E hE h) rfl (Nat.le_of_ble_eq_true rfl) ⟨Nat.le_of_ble_eq_true rfl, Nat.le_of_ble_eq_true rfl⟩ (fun r13 => ?_)
                refine jm_if_lt F dX9_buy_97 (fun c14 => ?_) (fun c14 => ?_)
                · refine jm_iinc (i := 7) (lv' := [some (.ref (jm_a E 0 0)), some (.int p1), some (.int p2), some (.int p3), none, some (.int r7), some (.int s8.1), some (.int (s8.2 + 1))]) F dX9_buy_104 kc_1 rfl (by decide) rfl rfl ?_
                  refine jm_goto F dX9_buy_107 ?_
                  exact jm_weakD F (lv' := [some (.ref (jm_a E 0 0)), some (.int p1), some (.int p2), some (.int p3), none, some (.int r7), some (.int s8.1), some (.int (s8.2 + 1))]) ⟨rfl, rfl, rfl, rfl, rfl, rfl, rfl, trivial⟩ (fun h => h)
                · refine jm_iload F dX9_buy_100 rfl ?_
                  refine jm_istore (i := 6) (lv' := [some (.ref (jm_a E 0 0)), some (.int p1), some (.int p2), some (.int p3), none, some (.int r7), some (.int s8.2), some (.int s8.2)]) F dX9_buy_102 (by decide) rfl rfl ?_
                  refine jm_iinc (i := 7) (lv' := [some (.ref (jm_a E 0 0)), some (.int p1), some (.int p2), some (.int p3), none, some (.int r7), some (.int s8.2), some (.int (s8.2 + 1))]) F dX9_buy_104 kc_1 rfl (by decide) rfl rfl ?_
                  refine jm_goto F dX9_buy_107 ?_
                  exact jm_weakD F (lv' := [some (.ref (jm_a E 0 0)), some (.int p1), some (.int p2), some (.int p3), none, some (.int r7), some (.int s8.2), some (.int (s8.2 + 1))]) ⟨rfl, rfl, rfl, rfl, rfl, rfl, rfl, trivial⟩ (fun h => h)
            · refine jm_iinc (i := 7) (lv' := [some (.ref (jm_a E 0 0)), some (.int p1), some (.int p2), some (.int p3), none, some (.int r7), some (.int s8.1), some (.int (s8.2 + 1))]) F dX9_buy_104 kc_1 rfl (by decide) rfl rfl ?_
              refine jm_goto F dX9_buy_107 ?_
              exact jm_weakD F (lv' := [some (.ref (jm_a E 0 0)), some (.int p1), some (.int p2), some (.int p3), none, some (.int r7), some (.int s8.1), some (.int (s8.2 + 1))]) ⟨rfl, rfl, rfl, rfl, rfl, rfl, rfl, trivial⟩ (fun h => h)
        · refine jm_iload F dX9_buy_110 rfl ?_
          refine jm_if_ge F dX9_buy_112 (fun c16 => ?_) (fun c16 => ?_)
          · refine jm_iload_n (i := 3) F dX9_buy_120 rfl rfl ?_
            refine jm_if_ne F dX9_buy_121 (fun c17 => ?_) (fun c17 => ?_)
            · refine jm_iload F dX9_buy_124 rfl ?_
              refine jm_goto F dX9_buy_126 ?_
              exact jm_iret F dX9_buy_135 (fun h => h)
            · refine jm_aload_n (i := 0) F dX9_buy_129 rfl rfl ?_
              refine jm_iload F dX9_buy_130 rfl ?_
              refine jm_callV (As := [.int e15]) (st := []) (rv := fun r => some (.int r)) (mm := fun _ => M) F dX9_buy_132 qX9_325 rfl lo_X9 rfl (fun r h => kM_pricesOf E hE h) rfl (Nat.le_of_ble_eq_true rfl) ⟨Nat.le_of_ble_eq_true rfl, Nat.le_of_ble_eq_true rfl⟩ (fun r18 => ?_)
              exact jm_iret F dX9_buy_135 (fun h => h)
          · refine jm_bipush F dX9_buy_115 kb_m9 ?_
            refine jm_goto F dX9_buy_117 ?_
            exact jm_iret F dX9_buy_135 (fun h => h)
      · refine jm_aload_n (i := 0) F dX9_buy_35 rfl rfl ?_
        refine jm_iload F dX9_buy_36 rfl ?_
        refine jm_callV (As := [.int e2]) (st := []) (rv := fun r => some (.int r.1)) (mm := fun r => r.2) F dX9_buy_38 qX9_172 rfl lo_X9 rfl (fun r h => kM_no E hE h) rfl (Nat.le_of_ble_eq_true rfl) ⟨Nat.le_of_ble_eq_true rfl, Nat.le_of_ble_eq_true rfl⟩ (fun r19 => ?_)
        exact jm_iret F dX9_buy_41 (fun h => h)
  exact G r h hz
theorem dX9_borrow_0 : jm_d cX9_borrow 0 (.aload_n 0) 1 1 := ⟨by decide +kernel, rfl⟩
theorem dX9_borrow_1 : jm_d cX9_borrow 1 (.iload_n 1) 1 2 := ⟨by decide +kernel, rfl⟩
theorem dX9_borrow_2 : jm_d cX9_borrow 2 (.iload_n 2) 1 3 := ⟨by decide +kernel, rfl⟩
theorem dX9_borrow_3 : jm_d cX9_borrow 3 (.invokevirtual 301) 3 6 := ⟨by decide +kernel, rfl⟩
theorem dX9_borrow_6 : jm_b cX9_borrow 6 (.ifCond .ne) 9 13 := ⟨7, by decide +kernel, rfl, by decide⟩
theorem dX9_borrow_9 : jm_d cX9_borrow 9 (.iconst (-1)) 1 10 := ⟨by decide +kernel, rfl⟩
theorem dX9_borrow_10 : jm_b cX9_borrow 10 .goto 13 28 := ⟨18, by decide +kernel, rfl, by decide⟩
theorem dX9_borrow_13 : jm_d cX9_borrow 13 (.iload_n 3) 1 14 := ⟨by decide +kernel, rfl⟩
theorem dX9_borrow_14 : jm_d cX9_borrow 14 (.iconst 0) 1 15 := ⟨by decide +kernel, rfl⟩
theorem dX9_borrow_15 : jm_d cX9_borrow 15 (.iconst 1) 1 16 := ⟨by decide +kernel, rfl⟩
theorem dX9_borrow_16 : jm_d cX9_borrow 16 (.invokestatic 98) 3 19 := ⟨by decide +kernel, rfl⟩
theorem dX9_borrow_19 : jm_b cX9_borrow 19 (.ifCond .ne) 22 27 := ⟨8, by decide +kernel, rfl, by decide⟩
theorem dX9_borrow_22 : jm_d cX9_borrow 22 (.bipush (-2)) 2 24 := ⟨by decide +kernel, rfl⟩
theorem dX9_borrow_24 : jm_b cX9_borrow 24 .goto 27 28 := ⟨4, by decide +kernel, rfl, by decide⟩
theorem dX9_borrow_27 : jm_d cX9_borrow 27 (.iconst 0) 1 28 := ⟨by decide +kernel, rfl⟩
theorem dX9_borrow_28 : jm_d cX9_borrow 28 (.istore 4) 2 30 := ⟨by decide +kernel, rfl⟩
theorem dX9_borrow_30 : jm_d cX9_borrow 30 (.iload 4) 2 32 := ⟨by decide +kernel, rfl⟩
theorem dX9_borrow_32 : jm_b cX9_borrow 32 (.ifCond .eq) 35 42 := ⟨10, by decide +kernel, rfl, by decide⟩
theorem dX9_borrow_42 : jm_d cX9_borrow 42 (.bipush (-9)) 2 44 := ⟨by decide +kernel, rfl⟩
theorem dX9_borrow_44 : jm_d cX9_borrow 44 (.istore 5) 2 46 := ⟨by decide +kernel, rfl⟩
theorem dX9_borrow_46 : jm_d cX9_borrow 46 (.bipush (-9)) 2 48 := ⟨by decide +kernel, rfl⟩
theorem dX9_borrow_48 : jm_d cX9_borrow 48 (.istore 6) 2 50 := ⟨by decide +kernel, rfl⟩
theorem dX9_borrow_50 : jm_d cX9_borrow 50 (.iconst 0) 1 51 := ⟨by decide +kernel, rfl⟩
theorem dX9_borrow_51 : jm_d cX9_borrow 51 (.istore 7) 2 53 := ⟨by decide +kernel, rfl⟩
theorem dX9_borrow_53 : jm_d cX9_borrow 53 (.iload 7) 2 55 := ⟨by decide +kernel, rfl⟩
theorem dX9_borrow_55 : jm_d cX9_borrow 55 (.aload_n 0) 1 56 := ⟨by decide +kernel, rfl⟩
theorem dX9_borrow_56 : jm_d cX9_borrow 56 (.getfield 106) 3 59 := ⟨by decide +kernel, rfl⟩
theorem dX9_borrow_59 : jm_b cX9_borrow 59 (.if_icmp .ge) 62 134 := ⟨75, by decide +kernel, rfl, by decide⟩
theorem dX9_borrow_62 : jm_d cX9_borrow 62 (.aload_n 0) 1 63 := ⟨by decide +kernel, rfl⟩
theorem dX9_borrow_63 : jm_d cX9_borrow 63 (.iload 7) 2 65 := ⟨by decide +kernel, rfl⟩
theorem dX9_borrow_65 : jm_d cX9_borrow 65 (.iload_n 1) 1 66 := ⟨by decide +kernel, rfl⟩
theorem dX9_borrow_66 : jm_d cX9_borrow 66 (.iload_n 2) 1 67 := ⟨by decide +kernel, rfl⟩
theorem dX9_borrow_67 : jm_d cX9_borrow 67 (.invokevirtual 129) 3 70 := ⟨by decide +kernel, rfl⟩
theorem dX9_borrow_70 : jm_b cX9_borrow 70 (.ifCond .eq) 73 76 := ⟨6, by decide +kernel, rfl, by decide⟩
theorem dX9_borrow_76 : jm_d cX9_borrow 76 (.aload_n 0) 1 77 := ⟨by decide +kernel, rfl⟩
theorem dX9_borrow_77 : jm_d cX9_borrow 77 (.invokevirtual 307) 3 80 := ⟨by decide +kernel, rfl⟩
theorem dX9_borrow_80 : jm_d cX9_borrow 80 (.aload_n 0) 1 81 := ⟨by decide +kernel, rfl⟩
theorem dX9_borrow_81 : jm_d cX9_borrow 81 (.getfield 31) 3 84 := ⟨by decide +kernel, rfl⟩
theorem dX9_borrow_84 : jm_d cX9_borrow 84 (.iload 7) 2 86 := ⟨by decide +kernel, rfl⟩
theorem dX9_borrow_86 : jm_d cX9_borrow 86 (.iload_n 1) 1 87 := ⟨by decide +kernel, rfl⟩
theorem dX9_borrow_87 : jm_d cX9_borrow 87 (.iastore) 1 88 := ⟨by decide +kernel, rfl⟩
theorem dX9_borrow_88 : jm_d cX9_borrow 88 (.aload_n 0) 1 89 := ⟨by decide +kernel, rfl⟩
theorem dX9_borrow_89 : jm_d cX9_borrow 89 (.iload_n 1) 1 90 := ⟨by decide +kernel, rfl⟩
theorem dX9_borrow_90 : jm_d cX9_borrow 90 (.iload_n 2) 1 91 := ⟨by decide +kernel, rfl⟩
theorem dX9_borrow_91 : jm_d cX9_borrow 91 (.invokevirtual 316) 3 94 := ⟨by decide +kernel, rfl⟩
theorem dX9_borrow_94 : jm_d cX9_borrow 94 (.istore 8) 2 96 := ⟨by decide +kernel, rfl⟩
theorem dX9_borrow_96 : jm_d cX9_borrow 96 (.aload_n 0) 1 97 := ⟨by decide +kernel, rfl⟩
theorem dX9_borrow_97 : jm_d cX9_borrow 97 (.invokevirtual 310) 3 100 := ⟨by decide +kernel, rfl⟩
theorem dX9_borrow_100 : jm_d cX9_borrow 100 (.iload 8) 2 102 := ⟨by decide +kernel, rfl⟩
theorem dX9_borrow_102 : jm_b cX9_borrow 102 (.ifCond .lt) 105 128 := ⟨26, by decide +kernel, rfl, by decide⟩
theorem dX9_borrow_128 : jm_d cX9_borrow 128 (.iinc 7 1) 3 131 := ⟨by decide +kernel, rfl⟩
theorem dX9_borrow_131 : jm_b cX9_borrow 131 .goto 134 53 := ⟨(-78), by decide +kernel, rfl, by decide⟩
theorem dX9_borrow_105 : jm_d cX9_borrow 105 (.iload 5) 2 107 := ⟨by decide +kernel, rfl⟩
theorem dX9_borrow_107 : jm_b cX9_borrow 107 (.ifCond .lt) 110 120 := ⟨13, by decide +kernel, rfl, by decide⟩
theorem dX9_borrow_120 : jm_d cX9_borrow 120 (.iload 7) 2 122 := ⟨by decide +kernel, rfl⟩
theorem dX9_borrow_122 : jm_d cX9_borrow 122 (.istore 5) 2 124 := ⟨by decide +kernel, rfl⟩
theorem dX9_borrow_124 : jm_d cX9_borrow 124 (.iload 8) 2 126 := ⟨by decide +kernel, rfl⟩
theorem dX9_borrow_126 : jm_d cX9_borrow 126 (.istore 6) 2 128 := ⟨by decide +kernel, rfl⟩
theorem dX9_borrow_110 : jm_d cX9_borrow 110 (.iload 8) 2 112 := ⟨by decide +kernel, rfl⟩
theorem dX9_borrow_112 : jm_d cX9_borrow 112 (.iload 6) 2 114 := ⟨by decide +kernel, rfl⟩
theorem dX9_borrow_114 : jm_b cX9_borrow 114 (.if_icmp .lt) 117 120 := ⟨6, by decide +kernel, rfl, by decide⟩
theorem dX9_borrow_117 : jm_b cX9_borrow 117 .goto 120 128 := ⟨11, by decide +kernel, rfl, by decide⟩
theorem dX9_borrow_73 : jm_b cX9_borrow 73 .goto 76 128 := ⟨55, by decide +kernel, rfl, by decide⟩
theorem dX9_borrow_134 : jm_d cX9_borrow 134 (.iload_n 3) 1 135 := ⟨by decide +kernel, rfl⟩
theorem dX9_borrow_135 : jm_b cX9_borrow 135 (.ifCond .ne) 138 143 := ⟨8, by decide +kernel, rfl, by decide⟩
theorem dX9_borrow_138 : jm_d cX9_borrow 138 (.iload 5) 2 140 := ⟨by decide +kernel, rfl⟩
theorem dX9_borrow_140 : jm_b cX9_borrow 140 .goto 143 145 := ⟨5, by decide +kernel, rfl, by decide⟩
theorem dX9_borrow_145 : jm_d cX9_borrow 145 (.ireturn) 1 146 := ⟨by decide +kernel, rfl⟩
theorem dX9_borrow_143 : jm_d cX9_borrow 143 (.iload 6) 2 145 := ⟨by decide +kernel, rfl⟩
theorem dX9_borrow_35 : jm_d cX9_borrow 35 (.aload_n 0) 1 36 := ⟨by decide +kernel, rfl⟩
theorem dX9_borrow_36 : jm_d cX9_borrow 36 (.iload 4) 2 38 := ⟨by decide +kernel, rfl⟩
theorem dX9_borrow_38 : jm_d cX9_borrow 38 (.invokevirtual 172) 3 41 := ⟨by decide +kernel, rfl⟩
theorem dX9_borrow_41 : jm_d cX9_borrow 41 (.ireturn) 1 42 := ⟨by decide +kernel, rfl⟩
set_option maxHeartbeats 4000000 in
set_option maxRecDepth 100000 in
theorem kM_borrow (E : jm_Ev) (hE : jm_dj E jm_LM) {M : jm_M} {p1 : Int32} {p2 : Int32} {p3 : Int32}  {r : Int32 × jm_M} (h : sM_borrow M p1 p2 p3 = some r) : jm_Ct E jm_LM yX9_borrow cX9_borrow 9 (some .int) 8 185 [.ref (jm_a E 0 0), .int p1, .int p2, .int p3] M (some (.int r.1)) r.2 := by
  refine jm_enter (lv := [some (.ref (jm_a E 0 0)), some (.int p1), some (.int p2), some (.int p3), none, none, none, none, none]) hE (by decide) (Nat.le_of_ble_eq_true rfl) rfl ?_
  intro z w F hz
  have G : jm_G w 0 [some (.ref (jm_a E 0 0)), some (.int p1), some (.int p2), some (.int p3), none, none, none, none, none] [] M (sM_borrow M p1 p2 p3) (fun e => z (some (.int e.1)) e.2) := by
    unfold sM_borrow
    refine jm_aload_n (i := 0) F dX9_borrow_0 rfl rfl ?_
    refine jm_iload_n (i := 1) F dX9_borrow_1 rfl rfl ?_
    refine jm_iload_n (i := 2) F dX9_borrow_2 rfl rfl ?_
    refine jm_callV (As := [.int p1, .int p2]) (st := []) (rv := fun r => some (.int r)) (mm := fun _ => M) F dX9_borrow_3 qX9_301 rfl lo_X9 rfl (fun r h => kM_areTwo E hE h) rfl (Nat.le_of_ble_eq_true rfl) ⟨Nat.le_of_ble_eq_true rfl, Nat.le_of_ble_eq_true rfl⟩ (fun r1 => ?_)
    refine jm_bind (pcJ := 28) (lvJ := fun e2 => [some (.ref (jm_a E 0 0)), some (.int p1), some (.int p2), some (.int p3), none, none, none, none, none]) (stJ := fun e2 => [.int e2]) (MJ := fun e2 => M) ?_ (fun e2 => ?_)
    · refine jm_if_ne F dX9_borrow_6 (fun c3 => ?_) (fun c3 => ?_)
      · refine jm_iconst F dX9_borrow_9 kc_m1 ?_
        refine jm_goto F dX9_borrow_10 ?_
        exact jm_weakD F (lv' := [some (.ref (jm_a E 0 0)), some (.int p1), some (.int p2), some (.int p3), none, none, none, none, none]) ⟨rfl, rfl, rfl, rfl, trivial⟩ (fun h => h)
      · refine jm_iload_n (i := 3) F dX9_borrow_13 rfl rfl ?_
        refine jm_iconst F dX9_borrow_14 kc_0 ?_
        refine jm_iconst F dX9_borrow_15 kc_1 ?_
        refine jm_callS (As := [.int p3, .int 0, .int 1]) (st := []) (rv := fun r => some (.int r)) (mm := fun _ => M) F dX9_borrow_16 qX9_98 rfl (fun r h => kM_isIn E hE h) rfl (Nat.le_of_ble_eq_true rfl) ⟨Nat.le_of_ble_eq_true rfl, Nat.le_of_ble_eq_true rfl⟩ (fun r4 => ?_)
        refine jm_if_ne F dX9_borrow_19 (fun c5 => ?_) (fun c5 => ?_)
        · refine jm_bipush F dX9_borrow_22 kb_m2 ?_
          refine jm_goto F dX9_borrow_24 ?_
          exact jm_weakD F (lv' := [some (.ref (jm_a E 0 0)), some (.int p1), some (.int p2), some (.int p3), none, none, none, none, none]) ⟨rfl, rfl, rfl, rfl, trivial⟩ (fun h => h)
        · refine jm_iconst F dX9_borrow_27 kc_0 ?_
          exact jm_weakD F (lv' := [some (.ref (jm_a E 0 0)), some (.int p1), some (.int p2), some (.int p3), none, none, none, none, none]) ⟨rfl, rfl, rfl, rfl, trivial⟩ (fun h => h)
    · refine jm_istore (i := 4) (lv' := [some (.ref (jm_a E 0 0)), some (.int p1), some (.int p2), some (.int p3), some (.int e2), none, none, none, none]) F dX9_borrow_28 (by decide) rfl rfl ?_
      refine jm_iload F dX9_borrow_30 rfl ?_
      refine jm_if_eq F dX9_borrow_32 (fun c6 => ?_) (fun c6 => ?_)
      · refine jm_bipush F dX9_borrow_42 kb_m9 ?_
        refine jm_istore (i := 5) (lv' := [some (.ref (jm_a E 0 0)), some (.int p1), some (.int p2), some (.int p3), some (.int e2), some (.int (-9)), none, none, none]) F dX9_borrow_44 (by decide) rfl rfl ?_
        refine jm_bipush F dX9_borrow_46 kb_m9 ?_
        refine jm_istore (i := 6) (lv' := [some (.ref (jm_a E 0 0)), some (.int p1), some (.int p2), some (.int p3), some (.int e2), some (.int (-9)), some (.int (-9)), none, none]) F dX9_borrow_48 (by decide) rfl rfl ?_
        refine jm_iconst F dX9_borrow_50 kc_0 ?_
        refine jm_istore (i := 7) (lv' := [some (.ref (jm_a E 0 0)), some (.int p1), some (.int p2), some (.int p3), some (.int e2), some (.int (-9)), some (.int (-9)), some (.int 0), none]) F dX9_borrow_51 (by decide) rfl rfl ?_
        refine jm_bind (pcJ := 134) (lvJ := fun e18 => [none, none, none, some (.int p3), none, some (.int e18.1), some (.int e18.2.1), none, none]) (stJ := fun _ => []) (MJ := fun e18 => e18.2.2) ?_ (fun e18 => ?_)
        · refine jm_weak F (lv' := [some (.ref (jm_a E 0 0)), some (.int p1), some (.int p2), some (.int p3), none, some (.int (-9)), some (.int (-9)), some (.int 0), none]) ⟨rfl, rfl, rfl, rfl, rfl, rfl, rfl, trivial⟩ ?_
          refine jm_loopR (lvH := fun s7 => [some (.ref (jm_a E 0 0)), some (.int p1), some (.int p2), some (.int p3), none, some (.int s7.1), some (.int s7.2.1), some (.int s7.2.2.1), none]) (MH := fun s7 => s7.2.2.2) (fun s7 => ?_) jm_N ((-9), (-9), 0, M)
          unfold sM_borrow_L53
          refine jm_iload F dX9_borrow_53 rfl ?_
          refine jm_aload_n (i := 0) F dX9_borrow_55 rfl rfl ?_
          refine jm_getI F dX9_borrow_56 fl_X9_106 lo_X9 rfl ?_
          refine jm_icmp_ge F dX9_borrow_59 (fun c8 => ?_) (fun c8 => ?_)
          · exact jm_weakD F (lv' := [none, none, none, some (.int p3), none, some (.int s7.1), some (.int s7.2.1), none, none]) ⟨rfl, rfl, rfl, trivial⟩ (fun h => h)
          · refine jm_aload_n (i := 0) F dX9_borrow_62 rfl rfl ?_
            refine jm_iload F dX9_borrow_63 rfl ?_
            refine jm_iload_n (i := 1) F dX9_borrow_65 rfl rfl ?_
            refine jm_iload_n (i := 2) F dX9_borrow_66 rfl rfl ?_
            refine jm_callV (As := [.int s7.2.2.1, .int p1, .int p2]) (st := []) (rv := fun r => some (.int r)) (mm := fun _ => s7.2.2.2) F dX9_borrow_67 qX9_129 rfl lo_X9 rfl (fun r h => kM_isHeld E hE h) rfl (Nat.le_of_ble_eq_true rfl) ⟨Nat.le_of_ble_eq_true rfl, Nat.le_of_ble_eq_true rfl⟩ (fun r9 => ?_)
            refine jm_if_eq F dX9_borrow_70 (fun c10 => ?_) (fun c10 => ?_)
            · refine jm_aload_n (i := 0) F dX9_borrow_76 rfl rfl ?_
              refine jm_callV (As := []) (st := []) (rv := fun _ => none) (mm := fun r => r) F dX9_borrow_77 qX9_307 rfl lo_X9 rfl (fun r h => kM_minds E hE h) rfl (Nat.le_of_ble_eq_true rfl) ⟨Nat.le_of_ble_eq_true rfl, Nat.le_of_ble_eq_true rfl⟩ (fun r11 => ?_)
              refine jm_aload_n (i := 0) F dX9_borrow_80 rfl rfl ?_
              refine jm_getR F dX9_borrow_81 fl_X9_31 lo_X9 rfl ?_
              refine jm_iload F dX9_borrow_84 rfl ?_
              refine jm_iload_n (i := 1) F dX9_borrow_86 rfl rfl ?_
              refine jm_iast F dX9_borrow_87 la_X9_8 (fun M12 => ?_)
              refine jm_aload_n (i := 0) F dX9_borrow_88 rfl rfl ?_
              refine jm_iload_n (i := 1) F dX9_borrow_89 rfl rfl ?_
              refine jm_iload_n (i := 2) F dX9_borrow_90 rfl rfl ?_
              refine jm_callV (As := [.int p1, .int p2]) (st := []) (rv := fun r => some (.int r.1)) (mm := fun r => r.2) F dX9_borrow_91 qX9_316 rfl lo_X9 rfl (fun r h => kM_whenFrom E hE h) rfl (Nat.le_of_ble_eq_true rfl) ⟨Nat.le_of_ble_eq_true rfl, Nat.le_of_ble_eq_true rfl⟩ (fun r13 => ?_)
              refine jm_istore (i := 8) (lv' := [some (.ref (jm_a E 0 0)), some (.int p1), some (.int p2), some (.int p3), none, some (.int s7.1), some (.int s7.2.1), some (.int s7.2.2.1), some (.int r13.1)]) F dX9_borrow_94 (by decide) rfl rfl ?_
              refine jm_aload_n (i := 0) F dX9_borrow_96 rfl rfl ?_
              refine jm_callV (As := []) (st := []) (rv := fun _ => none) (mm := fun r => r) F dX9_borrow_97 qX9_310 rfl lo_X9 rfl (fun r h => kM_forgets E hE h) rfl (Nat.le_of_ble_eq_true rfl) ⟨Nat.le_of_ble_eq_true rfl, Nat.le_of_ble_eq_true rfl⟩ (fun r14 => ?_)
              refine jm_iload F dX9_borrow_100 rfl ?_
              refine jm_if_lt F dX9_borrow_102 (fun c15 => ?_) (fun c15 => ?_)
              · refine jm_iinc (i := 7) (lv' := [some (.ref (jm_a E 0 0)), some (.int p1), some (.int p2), some (.int p3), none, some (.int s7.1), some (.int s7.2.1), some (.int (s7.2.2.1 + 1)), some (.int r13.1)]) F dX9_borrow_128 kc_1 rfl (by decide) rfl rfl ?_
                refine jm_goto F dX9_borrow_131 ?_
                exact jm_weakD F (lv' := [some (.ref (jm_a E 0 0)), some (.int p1), some (.int p2), some (.int p3), none, some (.int s7.1), some (.int s7.2.1), some (.int (s7.2.2.1 + 1)), none]) ⟨rfl, rfl, rfl, rfl, rfl, rfl, rfl, trivial⟩ (fun h => h)
              · refine jm_iload F dX9_borrow_105 rfl ?_
                refine jm_if_lt F dX9_borrow_107 (fun c16 => ?_) (fun c16 => ?_)
                · refine jm_iload F dX9_borrow_120 rfl ?_
                  refine jm_istore (i := 5) (lv' := [some (.ref (jm_a E 0 0)), some (.int p1), some (.int p2), some (.int p3), none, some (.int s7.2.2.1), some (.int s7.2.1), some (.int s7.2.2.1), some (.int r13.1)]) F dX9_borrow_122 (by decide) rfl rfl ?_
                  refine jm_iload F dX9_borrow_124 rfl ?_
                  refine jm_istore (i := 6) (lv' := [some (.ref (jm_a E 0 0)), some (.int p1), some (.int p2), some (.int p3), none, some (.int s7.2.2.1), some (.int r13.1), some (.int s7.2.2.1), some (.int r13.1)]) F dX9_borrow_126 (by decide) rfl rfl ?_
                  refine jm_iinc (i := 7) (lv' := [some (.ref (jm_a E 0 0)), some (.int p1), some (.int p2), some (.int p3), none, some (.int s7.2.2.1), some (.int r13.1), some (.int (s7.2.2.1 + 1)), some (.int r13.1)]) F dX9_borrow_128 kc_1 rfl (by decide) rfl rfl ?_
                  refine jm_goto F dX9_borrow_131 ?_
                  exact jm_weakD F (lv' := [some (.ref (jm_a E 0 0)), some (.int p1), some (.int p2), some (.int p3), none, some (.int s7.2.2.1), some (.int r13.1), some (.int (s7.2.2.1 + 1)), none]) ⟨rfl, rfl, rfl, rfl, rfl, rfl, rfl, trivial⟩ (fun h => h)
                · refine jm_iload F dX9_borrow_110 rfl ?_
                  refine jm_iload F dX9_borrow_112 rfl ?_
                  refine jm_icmp_lt F dX9_borrow_114 (fun c17 => ?_) (fun c17 => ?_)
                  · refine jm_iload F dX9_borrow_120 rfl ?_
                    refine jm_istore (i := 5) (lv' := [some (.ref (jm_a E 0 0)), some (.int p1), some (.int p2), some (.int p3), none, some (.int s7.2.2.1), some (.int s7.2.1), some (.int s7.2.2.1), some (.int r13.1)]) F dX9_borrow_122 (by decide) rfl rfl ?_
                    refine jm_iload F dX9_borrow_124 rfl ?_
                    refine jm_istore (i := 6) (lv' := [some (.ref (jm_a E 0 0)), some (.int p1), some (.int p2), some (.int p3), none, some (.int s7.2.2.1), some (.int r13.1), some (.int s7.2.2.1), some (.int r13.1)]) F dX9_borrow_126 (by decide) rfl rfl ?_
                    refine jm_iinc (i := 7) (lv' := [some (.ref (jm_a E 0 0)), some (.int p1), some (.int p2), some (.int p3), none, some (.int s7.2.2.1), some (.int r13.1), some (.int (s7.2.2.1 + 1)), some (.int r13.1)]) F dX9_borrow_128 kc_1 rfl (by decide) rfl rfl ?_
                    refine jm_goto F dX9_borrow_131 ?_
                    exact jm_weakD F (lv' := [some (.ref (jm_a E 0 0)), some (.int p1), some (.int p2), some (.int p3), none, some (.int s7.2.2.1), some (.int r13.1), some (.int (s7.2.2.1 + 1)), none]) ⟨rfl, rfl, rfl, rfl, rfl, rfl, rfl, trivial⟩ (fun h => h)
                  · refine jm_goto F dX9_borrow_117 ?_
                    refine jm_iinc (i := 7) (lv' := [some (.ref (jm_a E 0 0)), some (.int p1), some (.int p2), some (.int p3), none, some (.int s7.1), some (.int s7.2.1), some (.int (s7.2.2.1 + 1)), some (.int r13.1)]) F dX9_borrow_128 kc_1 rfl (by decide) rfl rfl ?_
                    refine jm_goto F dX9_borrow_131 ?_
                    exact jm_weakD F (lv' := [some (.ref (jm_a E 0 0)), some (.int p1), some (.int p2), some (.int p3), none, some (.int s7.1), some (.int s7.2.1), some (.int (s7.2.2.1 + 1)), none]) ⟨rfl, rfl, rfl, rfl, rfl, rfl, rfl, trivial⟩ (fun h => h)
            · refine jm_goto F dX9_borrow_73 ?_
              refine jm_iinc (i := 7) (lv' := [some (.ref (jm_a E 0 0)), some (.int p1), some (.int p2), some (.int p3), none, some (.int s7.1), some (.int s7.2.1), some (.int (s7.2.2.1 + 1)), none]) F dX9_borrow_128 kc_1 rfl (by decide) rfl rfl ?_
              refine jm_goto F dX9_borrow_131 ?_
              exact jm_weakD F (lv' := [some (.ref (jm_a E 0 0)), some (.int p1), some (.int p2), some (.int p3), none, some (.int s7.1), some (.int s7.2.1), some (.int (s7.2.2.1 + 1)), none]) ⟨rfl, rfl, rfl, rfl, rfl, rfl, rfl, trivial⟩ (fun h => h)
        · refine jm_iload_n (i := 3) F dX9_borrow_134 rfl rfl ?_
          refine jm_if_ne F dX9_borrow_135 (fun c19 => ?_) (fun c19 => ?_)
          · refine jm_iload F dX9_borrow_138 rfl ?_
            refine jm_goto F dX9_borrow_140 ?_
            exact jm_iret F dX9_borrow_145 (fun h => h)
          · refine jm_iload F dX9_borrow_143 rfl ?_
            exact jm_iret F dX9_borrow_145 (fun h => h)
      · refine jm_aload_n (i := 0) F dX9_borrow_35 rfl rfl ?_
        refine jm_iload F dX9_borrow_36 rfl ?_
        refine jm_callV (As := [.int e2]) (st := []) (rv := fun r => some (.int r.1)) (mm := fun r => r.2) F dX9_borrow_38 qX9_172 rfl lo_X9 rfl (fun r h => kM_no E hE h) rfl (Nat.le_of_ble_eq_true rfl) ⟨Nat.le_of_ble_eq_true rfl, Nat.le_of_ble_eq_true rfl⟩ (fun r20 => ?_)
        exact jm_iret F dX9_borrow_41 (fun h => h)
  exact G r h hz
theorem dX9_taught_0 : jm_d cX9_taught 0 (.aload_n 0) 1 1 := ⟨by decide +kernel, rfl⟩
theorem dX9_taught_1 : jm_d cX9_taught 1 (.iload_n 1) 1 2 := ⟨by decide +kernel, rfl⟩
theorem dX9_taught_2 : jm_d cX9_taught 2 (.invokevirtual 102) 3 5 := ⟨by decide +kernel, rfl⟩
theorem dX9_taught_5 : jm_b cX9_taught 5 (.ifCond .eq) 8 17 := ⟨12, by decide +kernel, rfl, by decide⟩
theorem dX9_taught_17 : jm_d cX9_taught 17 (.iconst (-1)) 1 18 := ⟨by decide +kernel, rfl⟩
theorem dX9_taught_18 : jm_b cX9_taught 18 .goto 21 29 := ⟨11, by decide +kernel, rfl, by decide⟩
theorem dX9_taught_8 : jm_d cX9_taught 8 (.aload_n 0) 1 9 := ⟨by decide +kernel, rfl⟩
theorem dX9_taught_9 : jm_d cX9_taught 9 (.iload_n 2) 1 10 := ⟨by decide +kernel, rfl⟩
theorem dX9_taught_10 : jm_d cX9_taught 10 (.iload_n 3) 1 11 := ⟨by decide +kernel, rfl⟩
theorem dX9_taught_11 : jm_d cX9_taught 11 (.invokevirtual 301) 3 14 := ⟨by decide +kernel, rfl⟩
theorem dX9_taught_14 : jm_b cX9_taught 14 (.ifCond .ne) 17 21 := ⟨7, by decide +kernel, rfl, by decide⟩
theorem dX9_taught_21 : jm_d cX9_taught 21 (.iload 4) 2 23 := ⟨by decide +kernel, rfl⟩
theorem dX9_taught_23 : jm_d cX9_taught 23 (.iconst 0) 1 24 := ⟨by decide +kernel, rfl⟩
theorem dX9_taught_24 : jm_d cX9_taught 24 (.bipush 60) 2 26 := ⟨by decide +kernel, rfl⟩
theorem dX9_taught_26 : jm_d cX9_taught 26 (.invokestatic 166) 3 29 := ⟨by decide +kernel, rfl⟩
theorem dX9_taught_29 : jm_d cX9_taught 29 (.istore 5) 2 31 := ⟨by decide +kernel, rfl⟩
theorem dX9_taught_31 : jm_d cX9_taught 31 (.iload 5) 2 33 := ⟨by decide +kernel, rfl⟩
theorem dX9_taught_33 : jm_b cX9_taught 33 (.ifCond .eq) 36 43 := ⟨10, by decide +kernel, rfl, by decide⟩
theorem dX9_taught_43 : jm_d cX9_taught 43 (.bipush (-9)) 2 45 := ⟨by decide +kernel, rfl⟩
theorem dX9_taught_45 : jm_d cX9_taught 45 (.istore 6) 2 47 := ⟨by decide +kernel, rfl⟩
theorem dX9_taught_47 : jm_d cX9_taught 47 (.aload_n 0) 1 48 := ⟨by decide +kernel, rfl⟩
theorem dX9_taught_48 : jm_d cX9_taught 48 (.invokevirtual 307) 3 51 := ⟨by decide +kernel, rfl⟩
theorem dX9_taught_51 : jm_d cX9_taught 51 (.aload_n 0) 1 52 := ⟨by decide +kernel, rfl⟩
theorem dX9_taught_52 : jm_d cX9_taught 52 (.iload 4) 2 54 := ⟨by decide +kernel, rfl⟩
theorem dX9_taught_54 : jm_d cX9_taught 54 (.invokevirtual 229) 3 57 := ⟨by decide +kernel, rfl⟩
theorem dX9_taught_57 : jm_d cX9_taught 57 (.aload_n 0) 1 58 := ⟨by decide +kernel, rfl⟩
theorem dX9_taught_58 : jm_d cX9_taught 58 (.iload_n 2) 1 59 := ⟨by decide +kernel, rfl⟩
theorem dX9_taught_59 : jm_d cX9_taught 59 (.iload_n 3) 1 60 := ⟨by decide +kernel, rfl⟩
theorem dX9_taught_60 : jm_d cX9_taught 60 (.invokevirtual 142) 3 63 := ⟨by decide +kernel, rfl⟩
theorem dX9_taught_63 : jm_d cX9_taught 63 (.istore 7) 2 65 := ⟨by decide +kernel, rfl⟩
theorem dX9_taught_65 : jm_d cX9_taught 65 (.aload_n 0) 1 66 := ⟨by decide +kernel, rfl⟩
theorem dX9_taught_66 : jm_d cX9_taught 66 (.invokevirtual 310) 3 69 := ⟨by decide +kernel, rfl⟩
theorem dX9_taught_69 : jm_d cX9_taught 69 (.iconst 0) 1 70 := ⟨by decide +kernel, rfl⟩
theorem dX9_taught_70 : jm_d cX9_taught 70 (.istore 8) 2 72 := ⟨by decide +kernel, rfl⟩
theorem dX9_taught_72 : jm_d cX9_taught 72 (.iload 8) 2 74 := ⟨by decide +kernel, rfl⟩
theorem dX9_taught_74 : jm_d cX9_taught 74 (.aload_n 0) 1 75 := ⟨by decide +kernel, rfl⟩
theorem dX9_taught_75 : jm_d cX9_taught 75 (.getfield 106) 3 78 := ⟨by decide +kernel, rfl⟩
theorem dX9_taught_78 : jm_b cX9_taught 78 (.if_icmp .ge) 81 140 := ⟨62, by decide +kernel, rfl, by decide⟩
theorem dX9_taught_81 : jm_d cX9_taught 81 (.aload_n 0) 1 82 := ⟨by decide +kernel, rfl⟩
theorem dX9_taught_82 : jm_d cX9_taught 82 (.invokevirtual 307) 3 85 := ⟨by decide +kernel, rfl⟩
theorem dX9_taught_85 : jm_d cX9_taught 85 (.aload_n 0) 1 86 := ⟨by decide +kernel, rfl⟩
theorem dX9_taught_86 : jm_d cX9_taught 86 (.getfield 34) 3 89 := ⟨by decide +kernel, rfl⟩
theorem dX9_taught_89 : jm_d cX9_taught 89 (.iload 8) 2 91 := ⟨by decide +kernel, rfl⟩
theorem dX9_taught_91 : jm_d cX9_taught 91 (.dup2) 1 92 := ⟨by decide +kernel, rfl⟩
theorem dX9_taught_92 : jm_d cX9_taught 92 (.iaload) 1 93 := ⟨by decide +kernel, rfl⟩
theorem dX9_taught_93 : jm_d cX9_taught 93 (.iconst 1) 1 94 := ⟨by decide +kernel, rfl⟩
theorem dX9_taught_94 : jm_d cX9_taught 94 (.iload_n 1) 1 95 := ⟨by decide +kernel, rfl⟩
theorem dX9_taught_95 : jm_d cX9_taught 95 (.ishl) 1 96 := ⟨by decide +kernel, rfl⟩
theorem dX9_taught_96 : jm_d cX9_taught 96 (.ior) 1 97 := ⟨by decide +kernel, rfl⟩
theorem dX9_taught_97 : jm_d cX9_taught 97 (.iastore) 1 98 := ⟨by decide +kernel, rfl⟩
theorem dX9_taught_98 : jm_d cX9_taught 98 (.aload_n 0) 1 99 := ⟨by decide +kernel, rfl⟩
theorem dX9_taught_99 : jm_d cX9_taught 99 (.iload 4) 2 101 := ⟨by decide +kernel, rfl⟩
theorem dX9_taught_101 : jm_d cX9_taught 101 (.invokevirtual 229) 3 104 := ⟨by decide +kernel, rfl⟩
theorem dX9_taught_104 : jm_d cX9_taught 104 (.aload_n 0) 1 105 := ⟨by decide +kernel, rfl⟩
theorem dX9_taught_105 : jm_d cX9_taught 105 (.iload_n 2) 1 106 := ⟨by decide +kernel, rfl⟩
theorem dX9_taught_106 : jm_d cX9_taught 106 (.iload_n 3) 1 107 := ⟨by decide +kernel, rfl⟩
theorem dX9_taught_107 : jm_d cX9_taught 107 (.invokevirtual 142) 3 110 := ⟨by decide +kernel, rfl⟩
theorem dX9_taught_110 : jm_d cX9_taught 110 (.istore 9) 2 112 := ⟨by decide +kernel, rfl⟩
theorem dX9_taught_112 : jm_d cX9_taught 112 (.aload_n 0) 1 113 := ⟨by decide +kernel, rfl⟩
theorem dX9_taught_113 : jm_d cX9_taught 113 (.invokevirtual 310) 3 116 := ⟨by decide +kernel, rfl⟩
theorem dX9_taught_116 : jm_d cX9_taught 116 (.iload 9) 2 118 := ⟨by decide +kernel, rfl⟩
theorem dX9_taught_118 : jm_d cX9_taught 118 (.iload 7) 2 120 := ⟨by decide +kernel, rfl⟩
theorem dX9_taught_120 : jm_b cX9_taught 120 (.if_icmp .gt) 123 126 := ⟨6, by decide +kernel, rfl, by decide⟩
theorem dX9_taught_126 : jm_d cX9_taught 126 (.iload 8) 2 128 := ⟨by decide +kernel, rfl⟩
theorem dX9_taught_128 : jm_d cX9_taught 128 (.istore 6) 2 130 := ⟨by decide +kernel, rfl⟩
theorem dX9_taught_130 : jm_d cX9_taught 130 (.iload 9) 2 132 := ⟨by decide +kernel, rfl⟩
theorem dX9_taught_132 : jm_d cX9_taught 132 (.istore 7) 2 134 := ⟨by decide +kernel, rfl⟩
theorem dX9_taught_134 : jm_d cX9_taught 134 (.iinc 8 1) 3 137 := ⟨by decide +kernel, rfl⟩
theorem dX9_taught_137 : jm_b cX9_taught 137 .goto 140 72 := ⟨(-65), by decide +kernel, rfl, by decide⟩
theorem dX9_taught_123 : jm_b cX9_taught 123 .goto 126 134 := ⟨11, by decide +kernel, rfl, by decide⟩
theorem dX9_taught_140 : jm_d cX9_taught 140 (.iload 6) 2 142 := ⟨by decide +kernel, rfl⟩
theorem dX9_taught_142 : jm_d cX9_taught 142 (.ireturn) 1 143 := ⟨by decide +kernel, rfl⟩
theorem dX9_taught_36 : jm_d cX9_taught 36 (.aload_n 0) 1 37 := ⟨by decide +kernel, rfl⟩
theorem dX9_taught_37 : jm_d cX9_taught 37 (.iload 5) 2 39 := ⟨by decide +kernel, rfl⟩
theorem dX9_taught_39 : jm_d cX9_taught 39 (.invokevirtual 172) 3 42 := ⟨by decide +kernel, rfl⟩
theorem dX9_taught_42 : jm_d cX9_taught 42 (.ireturn) 1 43 := ⟨by decide +kernel, rfl⟩
set_option maxHeartbeats 4000000 in
set_option maxRecDepth 100000 in
theorem kM_taught (E : jm_Ev) (hE : jm_dj E jm_LM) {M : jm_M} {p1 : Int32} {p2 : Int32} {p3 : Int32} {p4 : Int32}  {r : Int32 × jm_M} (h : sM_taught M p1 p2 p3 p4 = some r) : jm_Ct E jm_LM yX9_taught cX9_taught 10 (some .int) 6 140 [.ref (jm_a E 0 0), .int p1, .int p2, .int p3, .int p4] M (some (.int r.1)) r.2 := by
  refine jm_enter (lv := [some (.ref (jm_a E 0 0)), some (.int p1), some (.int p2), some (.int p3), some (.int p4), none, none, none, none, none]) hE (by decide) (Nat.le_of_ble_eq_true rfl) rfl ?_
  intro z w F hz
  have G : jm_G w 0 [some (.ref (jm_a E 0 0)), some (.int p1), some (.int p2), some (.int p3), some (.int p4), none, none, none, none, none] [] M (sM_taught M p1 p2 p3 p4) (fun e => z (some (.int e.1)) e.2) := by
    unfold sM_taught
    refine jm_aload_n (i := 0) F dX9_taught_0 rfl rfl ?_
    refine jm_iload_n (i := 1) F dX9_taught_1 rfl rfl ?_
    refine jm_callV (As := [.int p1]) (st := []) (rv := fun r => some (.int r)) (mm := fun _ => M) F dX9_taught_2 qX9_102 rfl lo_X9 rfl (fun r h => kM_isPerson E hE h) rfl (Nat.le_of_ble_eq_true rfl) ⟨Nat.le_of_ble_eq_true rfl, Nat.le_of_ble_eq_true rfl⟩ (fun r1 => ?_)
    refine jm_bind (pcJ := 29) (lvJ := fun e2 => [some (.ref (jm_a E 0 0)), some (.int p1), some (.int p2), some (.int p3), some (.int p4), none, none, none, none, none]) (stJ := fun e2 => [.int e2]) (MJ := fun e2 => M) ?_ (fun e2 => ?_)
    · refine jm_if_eq F dX9_taught_5 (fun c3 => ?_) (fun c3 => ?_)
      · refine jm_iconst F dX9_taught_17 kc_m1 ?_
        refine jm_goto F dX9_taught_18 ?_
        exact jm_weakD F (lv' := [some (.ref (jm_a E 0 0)), some (.int p1), some (.int p2), some (.int p3), some (.int p4), none, none, none, none, none]) ⟨rfl, rfl, rfl, rfl, rfl, trivial⟩ (fun h => h)
      · refine jm_aload_n (i := 0) F dX9_taught_8 rfl rfl ?_
        refine jm_iload_n (i := 2) F dX9_taught_9 rfl rfl ?_
        refine jm_iload_n (i := 3) F dX9_taught_10 rfl rfl ?_
        refine jm_callV (As := [.int p2, .int p3]) (st := []) (rv := fun r => some (.int r)) (mm := fun _ => M) F dX9_taught_11 qX9_301 rfl lo_X9 rfl (fun r h => kM_areTwo E hE h) rfl (Nat.le_of_ble_eq_true rfl) ⟨Nat.le_of_ble_eq_true rfl, Nat.le_of_ble_eq_true rfl⟩ (fun r4 => ?_)
        refine jm_if_ne F dX9_taught_14 (fun c5 => ?_) (fun c5 => ?_)
        · refine jm_iconst F dX9_taught_17 kc_m1 ?_
          refine jm_goto F dX9_taught_18 ?_
          exact jm_weakD F (lv' := [some (.ref (jm_a E 0 0)), some (.int p1), some (.int p2), some (.int p3), some (.int p4), none, none, none, none, none]) ⟨rfl, rfl, rfl, rfl, rfl, trivial⟩ (fun h => h)
        · refine jm_iload F dX9_taught_21 rfl ?_
          refine jm_iconst F dX9_taught_23 kc_0 ?_
          refine jm_bipush F dX9_taught_24 kb_60 ?_
          refine jm_callS (As := [.int p4, .int 0, .int 60]) (st := []) (rv := fun r => some (.int r)) (mm := fun _ => M) F dX9_taught_26 qX9_166 rfl (fun r h => kM_bound E hE h) rfl (Nat.le_of_ble_eq_true rfl) ⟨Nat.le_of_ble_eq_true rfl, Nat.le_of_ble_eq_true rfl⟩ (fun r6 => ?_)
          exact jm_weakD F (lv' := [some (.ref (jm_a E 0 0)), some (.int p1), some (.int p2), some (.int p3), some (.int p4), none, none, none, none, none]) ⟨rfl, rfl, rfl, rfl, rfl, trivial⟩ (fun h => h)
    · refine jm_istore (i := 5) (lv' := [some (.ref (jm_a E 0 0)), some (.int p1), some (.int p2), some (.int p3), some (.int p4), some (.int e2), none, none, none, none]) F dX9_taught_29 (by decide) rfl rfl ?_
      refine jm_iload F dX9_taught_31 rfl ?_
      refine jm_if_eq F dX9_taught_33 (fun c7 => ?_) (fun c7 => ?_)
      · refine jm_bipush F dX9_taught_43 kb_m9 ?_
        refine jm_istore (i := 6) (lv' := [some (.ref (jm_a E 0 0)), some (.int p1), some (.int p2), some (.int p3), some (.int p4), some (.int e2), some (.int (-9)), none, none, none]) F dX9_taught_45 (by decide) rfl rfl ?_
        refine jm_aload_n (i := 0) F dX9_taught_47 rfl rfl ?_
        refine jm_callV (As := []) (st := []) (rv := fun _ => none) (mm := fun r => r) F dX9_taught_48 qX9_307 rfl lo_X9 rfl (fun r h => kM_minds E hE h) rfl (Nat.le_of_ble_eq_true rfl) ⟨Nat.le_of_ble_eq_true rfl, Nat.le_of_ble_eq_true rfl⟩ (fun r8 => ?_)
        refine jm_aload_n (i := 0) F dX9_taught_51 rfl rfl ?_
        refine jm_iload F dX9_taught_52 rfl ?_
        refine jm_callV (As := [.int p4]) (st := []) (rv := fun _ => none) (mm := fun r => r) F dX9_taught_54 qX9_229 rfl lo_X9 rfl (fun r h => kM_goes E hE h) rfl (Nat.le_of_ble_eq_true rfl) ⟨Nat.le_of_ble_eq_true rfl, Nat.le_of_ble_eq_true rfl⟩ (fun r9 => ?_)
        refine jm_aload_n (i := 0) F dX9_taught_57 rfl rfl ?_
        refine jm_iload_n (i := 2) F dX9_taught_58 rfl rfl ?_
        refine jm_iload_n (i := 3) F dX9_taught_59 rfl rfl ?_
        refine jm_callV (As := [.int p2, .int p3]) (st := []) (rv := fun r => some (.int r)) (mm := fun _ => r9) F dX9_taught_60 qX9_142 rfl lo_X9 rfl (fun r h => kM_overNow E hE h) rfl (Nat.le_of_ble_eq_true rfl) ⟨Nat.le_of_ble_eq_true rfl, Nat.le_of_ble_eq_true rfl⟩ (fun r10 => ?_)
        refine jm_istore (i := 7) (lv' := [some (.ref (jm_a E 0 0)), some (.int p1), some (.int p2), some (.int p3), some (.int p4), some (.int e2), some (.int (-9)), some (.int r10), none, none]) F dX9_taught_63 (by decide) rfl rfl ?_
        refine jm_aload_n (i := 0) F dX9_taught_65 rfl rfl ?_
        refine jm_callV (As := []) (st := []) (rv := fun _ => none) (mm := fun r => r) F dX9_taught_66 qX9_310 rfl lo_X9 rfl (fun r h => kM_forgets E hE h) rfl (Nat.le_of_ble_eq_true rfl) ⟨Nat.le_of_ble_eq_true rfl, Nat.le_of_ble_eq_true rfl⟩ (fun r11 => ?_)
        refine jm_iconst F dX9_taught_69 kc_0 ?_
        refine jm_istore (i := 8) (lv' := [some (.ref (jm_a E 0 0)), some (.int p1), some (.int p2), some (.int p3), some (.int p4), some (.int e2), some (.int (-9)), some (.int r10), some (.int 0), none]) F dX9_taught_70 (by decide) rfl rfl ?_
        refine jm_bind (pcJ := 140) (lvJ := fun e21 => [none, none, none, none, none, none, some (.int e21.1), none, none, none]) (stJ := fun _ => []) (MJ := fun e21 => e21.2) ?_ (fun e21 => ?_)
        · refine jm_weak F (lv' := [some (.ref (jm_a E 0 0)), some (.int p1), some (.int p2), some (.int p3), some (.int p4), none, some (.int (-9)), some (.int r10), some (.int 0), none]) ⟨rfl, rfl, rfl, rfl, rfl, rfl, rfl, rfl, trivial⟩ ?_
          refine jm_loopR (lvH := fun s12 => [some (.ref (jm_a E 0 0)), some (.int p1), some (.int p2), some (.int p3), some (.int p4), none, some (.int s12.1), some (.int s12.2.1), some (.int s12.2.2.1), none]) (MH := fun s12 => s12.2.2.2) (fun s12 => ?_) jm_N ((-9), r10, 0, r11)
          unfold sM_taught_L72
          refine jm_iload F dX9_taught_72 rfl ?_
          refine jm_aload_n (i := 0) F dX9_taught_74 rfl rfl ?_
          refine jm_getI F dX9_taught_75 fl_X9_106 lo_X9 rfl ?_
          refine jm_icmp_ge F dX9_taught_78 (fun c13 => ?_) (fun c13 => ?_)
          · exact jm_weakD F (lv' := [none, none, none, none, none, none, some (.int s12.1), none, none, none]) ⟨rfl, trivial⟩ (fun h => h)
          · refine jm_aload_n (i := 0) F dX9_taught_81 rfl rfl ?_
            refine jm_callV (As := []) (st := []) (rv := fun _ => none) (mm := fun r => r) F dX9_taught_82 qX9_307 rfl lo_X9 rfl (fun r h => kM_minds E hE h) rfl (Nat.le_of_ble_eq_true rfl) ⟨Nat.le_of_ble_eq_true rfl, Nat.le_of_ble_eq_true rfl⟩ (fun r14 => ?_)
            refine jm_aload_n (i := 0) F dX9_taught_85 rfl rfl ?_
            refine jm_getR F dX9_taught_86 fl_X9_34 lo_X9 rfl ?_
            refine jm_iload F dX9_taught_89 rfl ?_
            refine jm_dup2 F dX9_taught_91 rfl rfl ?_
            refine jm_iald F dX9_taught_92 la_X9_9 (fun v15 => ?_)
            refine jm_iconst F dX9_taught_93 kc_1 ?_
            refine jm_iload_n (i := 1) F dX9_taught_94 rfl rfl ?_
            refine jm_ishl F dX9_taught_95 ?_
            refine jm_ior F dX9_taught_96 ?_
            refine jm_iast F dX9_taught_97 la_X9_9 (fun M16 => ?_)
            refine jm_aload_n (i := 0) F dX9_taught_98 rfl rfl ?_
            refine jm_iload F dX9_taught_99 rfl ?_
            refine jm_callV (As := [.int p4]) (st := []) (rv := fun _ => none) (mm := fun r => r) F dX9_taught_101 qX9_229 rfl lo_X9 rfl (fun r h => kM_goes E hE h) rfl (Nat.le_of_ble_eq_true rfl) ⟨Nat.le_of_ble_eq_true rfl, Nat.le_of_ble_eq_true rfl⟩ (fun r17 => ?_)
            refine jm_aload_n (i := 0) F dX9_taught_104 rfl rfl ?_
            refine jm_iload_n (i := 2) F dX9_taught_105 rfl rfl ?_
            refine jm_iload_n (i := 3) F dX9_taught_106 rfl rfl ?_
            refine jm_callV (As := [.int p2, .int p3]) (st := []) (rv := fun r => some (.int r)) (mm := fun _ => r17) F dX9_taught_107 qX9_142 rfl lo_X9 rfl (fun r h => kM_overNow E hE h) rfl (Nat.le_of_ble_eq_true rfl) ⟨Nat.le_of_ble_eq_true rfl, Nat.le_of_ble_eq_true rfl⟩ (fun r18 => ?_)
            refine jm_istore (i := 9) (lv' := [some (.ref (jm_a E 0 0)), some (.int p1), some (.int p2), some (.int p3), some (.int p4), none, some (.int s12.1), some (.int s12.2.1), some (.int s12.2.2.1), some (.int r18)]) F dX9_taught_110 (by decide) rfl rfl ?_
            refine jm_aload_n (i := 0) F dX9_taught_112 rfl rfl ?_
            refine jm_callV (As := []) (st := []) (rv := fun _ => none) (mm := fun r => r) F dX9_taught_113 qX9_310 rfl lo_X9 rfl (fun r h => kM_forgets E hE h) rfl (Nat.le_of_ble_eq_true rfl) ⟨Nat.le_of_ble_eq_true rfl, Nat.le_of_ble_eq_true rfl⟩ (fun r19 => ?_)
            refine jm_iload F dX9_taught_116 rfl ?_
            refine jm_iload F dX9_taught_118 rfl ?_
            refine jm_icmp_gt F dX9_taught_120 (fun c20 => ?_) (fun c20 => ?_)
            · refine jm_iload F dX9_taught_126 rfl ?_
              refine jm_istore (i := 6) (lv' := [some (.ref (jm_a E 0 0)), some (.int p1), some (.int p2), some (.int p3), some (.int p4), none, some (.int s12.2.2.1), some (.int s12.2.1), some (.int s12.2.2.1), some (.int r18)]) F dX9_taught_128 (by decide) rfl rfl ?_
              refine jm_iload F dX9_taught_130 rfl ?_
              refine jm_istore (i := 7) (lv' := [some (.ref (jm_a E 0 0)), some (.int p1), some (.int p2), some (.int p3), some (.int p4), none, some (.int s12.2.2.1), some (.int r18), some (.int s12.2.2.1), some (.int r18)]) F dX9_taught_132 (by decide) rfl rfl ?_
              refine jm_iinc (i := 8) (lv' := [some (.ref (jm_a E 0 0)), some (.int p1), some (.int p2), some (.int p3), some (.int p4), none, some (.int s12.2.2.1), some (.int r18), some (.int (s12.2.2.1 + 1)), some (.int r18)]) F dX9_taught_134 kc_1 rfl (by decide) rfl rfl ?_
              refine jm_goto F dX9_taught_137 ?_
              exact jm_weakD F (lv' := [some (.ref (jm_a E 0 0)), some (.int p1), some (.int p2), some (.int p3), some (.int p4), none, some (.int s12.2.2.1), some (.int r18), some (.int (s12.2.2.1 + 1)), none]) ⟨rfl, rfl, rfl, rfl, rfl, rfl, rfl, rfl, trivial⟩ (fun h => h)
            · refine jm_goto F dX9_taught_123 ?_
              refine jm_iinc (i := 8) (lv' := [some (.ref (jm_a E 0 0)), some (.int p1), some (.int p2), some (.int p3), some (.int p4), none, some (.int s12.1), some (.int s12.2.1), some (.int (s12.2.2.1 + 1)), some (.int r18)]) F dX9_taught_134 kc_1 rfl (by decide) rfl rfl ?_
              refine jm_goto F dX9_taught_137 ?_
              exact jm_weakD F (lv' := [some (.ref (jm_a E 0 0)), some (.int p1), some (.int p2), some (.int p3), some (.int p4), none, some (.int s12.1), some (.int s12.2.1), some (.int (s12.2.2.1 + 1)), none]) ⟨rfl, rfl, rfl, rfl, rfl, rfl, rfl, rfl, trivial⟩ (fun h => h)
        · refine jm_iload F dX9_taught_140 rfl ?_
          exact jm_iret F dX9_taught_142 (fun h => h)
      · refine jm_aload_n (i := 0) F dX9_taught_36 rfl rfl ?_
        refine jm_iload F dX9_taught_37 rfl ?_
        refine jm_callV (As := [.int e2]) (st := []) (rv := fun r => some (.int r.1)) (mm := fun r => r.2) F dX9_taught_39 qX9_172 rfl lo_X9 rfl (fun r h => kM_no E hE h) rfl (Nat.le_of_ble_eq_true rfl) ⟨Nat.le_of_ble_eq_true rfl, Nat.le_of_ble_eq_true rfl⟩ (fun r22 => ?_)
        exact jm_iret F dX9_taught_42 (fun h => h)
  exact G r h hz
theorem dX9_leastIn_0 : jm_d cX9_leastIn 0 (.iconst 0) 1 1 := ⟨by decide +kernel, rfl⟩
theorem dX9_leastIn_1 : jm_d cX9_leastIn 1 (.istore_n 1) 1 2 := ⟨by decide +kernel, rfl⟩
theorem dX9_leastIn_2 : jm_d cX9_leastIn 2 (.iload_n 0) 1 3 := ⟨by decide +kernel, rfl⟩
theorem dX9_leastIn_3 : jm_d cX9_leastIn 3 (.iload_n 1) 1 4 := ⟨by decide +kernel, rfl⟩
theorem dX9_leastIn_4 : jm_d cX9_leastIn 4 (.invokestatic 132) 3 7 := ⟨by decide +kernel, rfl⟩
theorem dX9_leastIn_7 : jm_b cX9_leastIn 7 (.ifCond .ne) 10 16 := ⟨9, by decide +kernel, rfl, by decide⟩
theorem dX9_leastIn_10 : jm_d cX9_leastIn 10 (.iinc 1 1) 3 13 := ⟨by decide +kernel, rfl⟩
theorem dX9_leastIn_13 : jm_b cX9_leastIn 13 .goto 16 2 := ⟨(-11), by decide +kernel, rfl, by decide⟩
theorem dX9_leastIn_16 : jm_d cX9_leastIn 16 (.iload_n 1) 1 17 := ⟨by decide +kernel, rfl⟩
theorem dX9_leastIn_17 : jm_d cX9_leastIn 17 (.ireturn) 1 18 := ⟨by decide +kernel, rfl⟩
set_option maxHeartbeats 4000000 in
set_option maxRecDepth 100000 in
theorem kM_leastIn (E : jm_Ev) (hE : jm_dj E jm_LM) {p1 : Int32} {M : jm_M}  {r : Int32} (h : sM_leastIn p1 = some r) : jm_Ct E jm_LM yX9_leastIn cX9_leastIn 2 (some .int) 1 21 [.int p1] M (some (.int r)) M := by
  refine jm_enter (lv := [some (.int p1), none]) hE (by decide) (Nat.le_of_ble_eq_true rfl) rfl ?_
  intro z w F hz
  have G : jm_G w 0 [some (.int p1), none] [] M (sM_leastIn p1) (fun e => z (some (.int e)) M) := by
    unfold sM_leastIn
    refine jm_iconst F dX9_leastIn_0 kc_0 ?_
    refine jm_istore_n (i := 1) (lv' := [some (.int p1), some (.int 0)]) F dX9_leastIn_1 rfl (by decide) rfl rfl ?_
    refine jm_bind (pcJ := 16) (lvJ := fun e4 => [none, some (.int e4)]) (stJ := fun _ => []) (MJ := fun e4 => M) ?_ (fun e4 => ?_)
    · refine jm_weak F (lv' := [some (.int p1), some (.int 0)]) ⟨rfl, rfl, trivial⟩ ?_
      refine jm_loopR (lvH := fun s1 => [some (.int p1), some (.int s1)]) (MH := fun s1 => M) (fun s1 => ?_) jm_N 0
      unfold sM_leastIn_L2
      refine jm_iload_n (i := 0) F dX9_leastIn_2 rfl rfl ?_
      refine jm_iload_n (i := 1) F dX9_leastIn_3 rfl rfl ?_
      refine jm_callS (As := [.int p1, .int s1]) (st := []) (rv := fun r => some (.int r)) (mm := fun _ => M) F dX9_leastIn_4 qX9_132 rfl (fun r h => kM_has E hE h) rfl (Nat.le_of_ble_eq_true rfl) ⟨Nat.le_of_ble_eq_true rfl, Nat.le_of_ble_eq_true rfl⟩ (fun r2 => ?_)
      refine jm_if_ne F dX9_leastIn_7 (fun c3 => ?_) (fun c3 => ?_)
      · refine jm_iinc (i := 1) (lv' := [some (.int p1), some (.int (s1 + 1))]) F dX9_leastIn_10 kc_1 rfl (by decide) rfl rfl ?_
        refine jm_goto F dX9_leastIn_13 ?_
        exact jm_weakD F (lv' := [some (.int p1), some (.int (s1 + 1))]) ⟨rfl, rfl, trivial⟩ (fun h => h)
      · exact jm_weakD F (lv' := [none, some (.int s1)]) ⟨rfl, trivial⟩ (fun h => h)
    · refine jm_iload_n (i := 1) F dX9_leastIn_16 rfl rfl ?_
      exact jm_iret F dX9_leastIn_17 (fun h => h)
  exact G r h hz
theorem dX9_findMost_0 : jm_d cX9_findMost 0 (.aload_n 0) 1 1 := ⟨by decide +kernel, rfl⟩
theorem dX9_findMost_1 : jm_d cX9_findMost 1 (.invokevirtual 319) 3 4 := ⟨by decide +kernel, rfl⟩
theorem dX9_findMost_4 : jm_d cX9_findMost 4 (.aload_n 0) 1 5 := ⟨by decide +kernel, rfl⟩
theorem dX9_findMost_5 : jm_d cX9_findMost 5 (.getfield 79) 3 8 := ⟨by decide +kernel, rfl⟩
theorem dX9_findMost_8 : jm_d cX9_findMost 8 (.iconst 0) 1 9 := ⟨by decide +kernel, rfl⟩
theorem dX9_findMost_9 : jm_d cX9_findMost 9 (.iconst 0) 1 10 := ⟨by decide +kernel, rfl⟩
theorem dX9_findMost_10 : jm_d cX9_findMost 10 (.iastore) 1 11 := ⟨by decide +kernel, rfl⟩
theorem dX9_findMost_11 : jm_d cX9_findMost 11 (.iconst 1) 1 12 := ⟨by decide +kernel, rfl⟩
theorem dX9_findMost_12 : jm_d cX9_findMost 12 (.istore_n 1) 1 13 := ⟨by decide +kernel, rfl⟩
theorem dX9_findMost_13 : jm_d cX9_findMost 13 (.iload_n 1) 1 14 := ⟨by decide +kernel, rfl⟩
theorem dX9_findMost_14 : jm_d cX9_findMost 14 (.iconst 1) 1 15 := ⟨by decide +kernel, rfl⟩
theorem dX9_findMost_15 : jm_d cX9_findMost 15 (.aload_n 0) 1 16 := ⟨by decide +kernel, rfl⟩
theorem dX9_findMost_16 : jm_d cX9_findMost 16 (.getfield 91) 3 19 := ⟨by decide +kernel, rfl⟩
theorem dX9_findMost_19 : jm_d cX9_findMost 19 (.ishl) 1 20 := ⟨by decide +kernel, rfl⟩
theorem dX9_findMost_20 : jm_b cX9_findMost 20 (.if_icmp .ge) 23 144 := ⟨124, by decide +kernel, rfl, by decide⟩
theorem dX9_findMost_23 : jm_d cX9_findMost 23 (.iload_n 1) 1 24 := ⟨by decide +kernel, rfl⟩
theorem dX9_findMost_24 : jm_d cX9_findMost 24 (.invokestatic 334) 3 27 := ⟨by decide +kernel, rfl⟩
theorem dX9_findMost_27 : jm_d cX9_findMost 27 (.istore_n 2) 1 28 := ⟨by decide +kernel, rfl⟩
theorem dX9_findMost_28 : jm_d cX9_findMost 28 (.iload_n 1) 1 29 := ⟨by decide +kernel, rfl⟩
theorem dX9_findMost_29 : jm_d cX9_findMost 29 (.iconst 1) 1 30 := ⟨by decide +kernel, rfl⟩
theorem dX9_findMost_30 : jm_d cX9_findMost 30 (.iload_n 2) 1 31 := ⟨by decide +kernel, rfl⟩
theorem dX9_findMost_31 : jm_d cX9_findMost 31 (.ishl) 1 32 := ⟨by decide +kernel, rfl⟩
theorem dX9_findMost_32 : jm_d cX9_findMost 32 (.iconst (-1)) 1 33 := ⟨by decide +kernel, rfl⟩
theorem dX9_findMost_33 : jm_d cX9_findMost 33 (.ixor) 1 34 := ⟨by decide +kernel, rfl⟩
theorem dX9_findMost_34 : jm_d cX9_findMost 34 (.iand) 1 35 := ⟨by decide +kernel, rfl⟩
theorem dX9_findMost_35 : jm_d cX9_findMost 35 (.istore_n 3) 1 36 := ⟨by decide +kernel, rfl⟩
theorem dX9_findMost_36 : jm_d cX9_findMost 36 (.aload_n 0) 1 37 := ⟨by decide +kernel, rfl⟩
theorem dX9_findMost_37 : jm_d cX9_findMost 37 (.getfield 79) 3 40 := ⟨by decide +kernel, rfl⟩
theorem dX9_findMost_40 : jm_d cX9_findMost 40 (.iload_n 1) 1 41 := ⟨by decide +kernel, rfl⟩
theorem dX9_findMost_41 : jm_d cX9_findMost 41 (.aload_n 0) 1 42 := ⟨by decide +kernel, rfl⟩
theorem dX9_findMost_42 : jm_d cX9_findMost 42 (.getfield 79) 3 45 := ⟨by decide +kernel, rfl⟩
theorem dX9_findMost_45 : jm_d cX9_findMost 45 (.iload_n 3) 1 46 := ⟨by decide +kernel, rfl⟩
theorem dX9_findMost_46 : jm_d cX9_findMost 46 (.iaload) 1 47 := ⟨by decide +kernel, rfl⟩
theorem dX9_findMost_47 : jm_d cX9_findMost 47 (.iastore) 1 48 := ⟨by decide +kernel, rfl⟩
theorem dX9_findMost_48 : jm_d cX9_findMost 48 (.iload_n 2) 1 49 := ⟨by decide +kernel, rfl⟩
theorem dX9_findMost_49 : jm_d cX9_findMost 49 (.iconst 1) 1 50 := ⟨by decide +kernel, rfl⟩
theorem dX9_findMost_50 : jm_d cX9_findMost 50 (.iadd) 1 51 := ⟨by decide +kernel, rfl⟩
theorem dX9_findMost_51 : jm_d cX9_findMost 51 (.istore 4) 2 53 := ⟨by decide +kernel, rfl⟩
theorem dX9_findMost_53 : jm_d cX9_findMost 53 (.iload 4) 2 55 := ⟨by decide +kernel, rfl⟩
theorem dX9_findMost_55 : jm_d cX9_findMost 55 (.aload_n 0) 1 56 := ⟨by decide +kernel, rfl⟩
theorem dX9_findMost_56 : jm_d cX9_findMost 56 (.getfield 91) 3 59 := ⟨by decide +kernel, rfl⟩
theorem dX9_findMost_59 : jm_b cX9_findMost 59 (.if_icmp .ge) 62 138 := ⟨79, by decide +kernel, rfl, by decide⟩
theorem dX9_findMost_62 : jm_d cX9_findMost 62 (.iload_n 3) 1 63 := ⟨by decide +kernel, rfl⟩
theorem dX9_findMost_63 : jm_d cX9_findMost 63 (.iload 4) 2 65 := ⟨by decide +kernel, rfl⟩
theorem dX9_findMost_65 : jm_d cX9_findMost 65 (.invokestatic 132) 3 68 := ⟨by decide +kernel, rfl⟩
theorem dX9_findMost_68 : jm_b cX9_findMost 68 (.ifCond .eq) 71 132 := ⟨64, by decide +kernel, rfl, by decide⟩
theorem dX9_findMost_132 : jm_d cX9_findMost 132 (.iinc 4 1) 3 135 := ⟨by decide +kernel, rfl⟩
theorem dX9_findMost_135 : jm_b cX9_findMost 135 .goto 138 53 := ⟨(-82), by decide +kernel, rfl, by decide⟩
theorem dX9_findMost_71 : jm_d cX9_findMost 71 (.aload_n 0) 1 72 := ⟨by decide +kernel, rfl⟩
theorem dX9_findMost_72 : jm_d cX9_findMost 72 (.getfield 76) 3 75 := ⟨by decide +kernel, rfl⟩
theorem dX9_findMost_75 : jm_d cX9_findMost 75 (.bipush 6) 2 77 := ⟨by decide +kernel, rfl⟩
theorem dX9_findMost_77 : jm_d cX9_findMost 77 (.iload_n 2) 1 78 := ⟨by decide +kernel, rfl⟩
theorem dX9_findMost_78 : jm_d cX9_findMost 78 (.imul) 1 79 := ⟨by decide +kernel, rfl⟩
theorem dX9_findMost_79 : jm_d cX9_findMost 79 (.iload 4) 2 81 := ⟨by decide +kernel, rfl⟩
theorem dX9_findMost_81 : jm_d cX9_findMost 81 (.iadd) 1 82 := ⟨by decide +kernel, rfl⟩
theorem dX9_findMost_82 : jm_d cX9_findMost 82 (.iaload) 1 83 := ⟨by decide +kernel, rfl⟩
theorem dX9_findMost_83 : jm_d cX9_findMost 83 (.iconst 1) 1 84 := ⟨by decide +kernel, rfl⟩
theorem dX9_findMost_84 : jm_b cX9_findMost 84 (.if_icmp .ne) 87 132 := ⟨48, by decide +kernel, rfl, by decide⟩
theorem dX9_findMost_87 : jm_d cX9_findMost 87 (.aload_n 0) 1 88 := ⟨by decide +kernel, rfl⟩
theorem dX9_findMost_88 : jm_d cX9_findMost 88 (.getfield 79) 3 91 := ⟨by decide +kernel, rfl⟩
theorem dX9_findMost_91 : jm_d cX9_findMost 91 (.iload_n 3) 1 92 := ⟨by decide +kernel, rfl⟩
theorem dX9_findMost_92 : jm_d cX9_findMost 92 (.iconst 1) 1 93 := ⟨by decide +kernel, rfl⟩
theorem dX9_findMost_93 : jm_d cX9_findMost 93 (.iload 4) 2 95 := ⟨by decide +kernel, rfl⟩
theorem dX9_findMost_95 : jm_d cX9_findMost 95 (.ishl) 1 96 := ⟨by decide +kernel, rfl⟩
theorem dX9_findMost_96 : jm_d cX9_findMost 96 (.iconst (-1)) 1 97 := ⟨by decide +kernel, rfl⟩
theorem dX9_findMost_97 : jm_d cX9_findMost 97 (.ixor) 1 98 := ⟨by decide +kernel, rfl⟩
theorem dX9_findMost_98 : jm_d cX9_findMost 98 (.iand) 1 99 := ⟨by decide +kernel, rfl⟩
theorem dX9_findMost_99 : jm_d cX9_findMost 99 (.iaload) 1 100 := ⟨by decide +kernel, rfl⟩
theorem dX9_findMost_100 : jm_d cX9_findMost 100 (.iconst 1) 1 101 := ⟨by decide +kernel, rfl⟩
theorem dX9_findMost_101 : jm_d cX9_findMost 101 (.iadd) 1 102 := ⟨by decide +kernel, rfl⟩
theorem dX9_findMost_102 : jm_d cX9_findMost 102 (.aload_n 0) 1 103 := ⟨by decide +kernel, rfl⟩
theorem dX9_findMost_103 : jm_d cX9_findMost 103 (.getfield 79) 3 106 := ⟨by decide +kernel, rfl⟩
theorem dX9_findMost_106 : jm_d cX9_findMost 106 (.iload_n 1) 1 107 := ⟨by decide +kernel, rfl⟩
theorem dX9_findMost_107 : jm_d cX9_findMost 107 (.iaload) 1 108 := ⟨by decide +kernel, rfl⟩
theorem dX9_findMost_108 : jm_b cX9_findMost 108 (.if_icmp .le) 111 132 := ⟨24, by decide +kernel, rfl, by decide⟩
theorem dX9_findMost_111 : jm_d cX9_findMost 111 (.aload_n 0) 1 112 := ⟨by decide +kernel, rfl⟩
theorem dX9_findMost_112 : jm_d cX9_findMost 112 (.getfield 79) 3 115 := ⟨by decide +kernel, rfl⟩
theorem dX9_findMost_115 : jm_d cX9_findMost 115 (.iload_n 1) 1 116 := ⟨by decide +kernel, rfl⟩
theorem dX9_findMost_116 : jm_d cX9_findMost 116 (.aload_n 0) 1 117 := ⟨by decide +kernel, rfl⟩
theorem dX9_findMost_117 : jm_d cX9_findMost 117 (.getfield 79) 3 120 := ⟨by decide +kernel, rfl⟩
theorem dX9_findMost_120 : jm_d cX9_findMost 120 (.iload_n 3) 1 121 := ⟨by decide +kernel, rfl⟩
theorem dX9_findMost_121 : jm_d cX9_findMost 121 (.iconst 1) 1 122 := ⟨by decide +kernel, rfl⟩
theorem dX9_findMost_122 : jm_d cX9_findMost 122 (.iload 4) 2 124 := ⟨by decide +kernel, rfl⟩
theorem dX9_findMost_124 : jm_d cX9_findMost 124 (.ishl) 1 125 := ⟨by decide +kernel, rfl⟩
theorem dX9_findMost_125 : jm_d cX9_findMost 125 (.iconst (-1)) 1 126 := ⟨by decide +kernel, rfl⟩
theorem dX9_findMost_126 : jm_d cX9_findMost 126 (.ixor) 1 127 := ⟨by decide +kernel, rfl⟩
theorem dX9_findMost_127 : jm_d cX9_findMost 127 (.iand) 1 128 := ⟨by decide +kernel, rfl⟩
theorem dX9_findMost_128 : jm_d cX9_findMost 128 (.iaload) 1 129 := ⟨by decide +kernel, rfl⟩
theorem dX9_findMost_129 : jm_d cX9_findMost 129 (.iconst 1) 1 130 := ⟨by decide +kernel, rfl⟩
theorem dX9_findMost_130 : jm_d cX9_findMost 130 (.iadd) 1 131 := ⟨by decide +kernel, rfl⟩
theorem dX9_findMost_131 : jm_d cX9_findMost 131 (.iastore) 1 132 := ⟨by decide +kernel, rfl⟩
theorem dX9_findMost_138 : jm_d cX9_findMost 138 (.iinc 1 1) 3 141 := ⟨by decide +kernel, rfl⟩
theorem dX9_findMost_141 : jm_b cX9_findMost 141 .goto 144 13 := ⟨(-128), by decide +kernel, rfl, by decide⟩
theorem dX9_findMost_144 : jm_d cX9_findMost 144 (.return_) 1 145 := ⟨by decide +kernel, rfl⟩
set_option maxHeartbeats 4000000 in
set_option maxRecDepth 100000 in
theorem kM_findMost (E : jm_Ev) (hE : jm_dj E jm_LM) {M : jm_M}  {r : jm_M} (h : sM_findMost M = some r) : jm_Ct E jm_LM yX9_findMost cX9_findMost 5 none 8 184 [.ref (jm_a E 0 0)] M none r := by
  refine jm_enter (lv := [some (.ref (jm_a E 0 0)), none, none, none, none]) hE (by decide) (Nat.le_of_ble_eq_true rfl) rfl ?_
  intro z w F hz
  have G : jm_G w 0 [some (.ref (jm_a E 0 0)), none, none, none, none] [] M (sM_findMost M) (fun e => z none e) := by
    unfold sM_findMost
    refine jm_aload_n (i := 0) F dX9_findMost_0 rfl rfl ?_
    refine jm_callV (As := []) (st := []) (rv := fun _ => none) (mm := fun r => r) F dX9_findMost_1 qX9_319 rfl lo_X9 rfl (fun r h => kM_marksDown E hE h) rfl (Nat.le_of_ble_eq_true rfl) ⟨Nat.le_of_ble_eq_true rfl, Nat.le_of_ble_eq_true rfl⟩ (fun r1 => ?_)
    refine jm_aload_n (i := 0) F dX9_findMost_4 rfl rfl ?_
    refine jm_getR F dX9_findMost_5 fl_X9_79 lo_X9 rfl ?_
    refine jm_iconst F dX9_findMost_8 kc_0 ?_
    refine jm_iconst F dX9_findMost_9 kc_0 ?_
    refine jm_iast F dX9_findMost_10 la_X9_39 (fun M2 => ?_)
    refine jm_iconst F dX9_findMost_11 kc_1 ?_
    refine jm_istore_n (i := 1) (lv' := [some (.ref (jm_a E 0 0)), some (.int 1), none, none, none]) F dX9_findMost_12 rfl (by decide) rfl rfl ?_
    refine jm_bind (pcJ := 144) (lvJ := fun e22 => [none, none, none, none, none]) (stJ := fun _ => []) (MJ := fun e22 => e22) ?_ (fun e22 => ?_)
    · refine jm_weak F (lv' := [some (.ref (jm_a E 0 0)), some (.int 1), none, none, none]) ⟨rfl, rfl, trivial⟩ ?_
      refine jm_loopR (lvH := fun s3 => [some (.ref (jm_a E 0 0)), some (.int s3.1), none, none, none]) (MH := fun s3 => s3.2) (fun s3 => ?_) jm_N (1, M2)
      unfold sM_findMost_L13
      refine jm_iload_n (i := 1) F dX9_findMost_13 rfl rfl ?_
      refine jm_iconst F dX9_findMost_14 kc_1 ?_
      refine jm_aload_n (i := 0) F dX9_findMost_15 rfl rfl ?_
      refine jm_getI F dX9_findMost_16 fl_X9_91 lo_X9 rfl ?_
      refine jm_ishl F dX9_findMost_19 ?_
      refine jm_icmp_ge F dX9_findMost_20 (fun c4 => ?_) (fun c4 => ?_)
      · exact jm_weakD F (lv' := [none, none, none, none, none]) trivial (fun h => h)
      · refine jm_iload_n (i := 1) F dX9_findMost_23 rfl rfl ?_
        refine jm_callS (As := [.int s3.1]) (st := []) (rv := fun r => some (.int r)) (mm := fun _ => s3.2) F dX9_findMost_24 qX9_334 rfl (fun r h => kM_leastIn E hE h) rfl (Nat.le_of_ble_eq_true rfl) ⟨Nat.le_of_ble_eq_true rfl, Nat.le_of_ble_eq_true rfl⟩ (fun r5 => ?_)
        refine jm_istore_n (i := 2) (lv' := [some (.ref (jm_a E 0 0)), some (.int s3.1), some (.int r5), none, none]) F dX9_findMost_27 rfl (by decide) rfl rfl ?_
        refine jm_iload_n (i := 1) F dX9_findMost_28 rfl rfl ?_
        refine jm_iconst F dX9_findMost_29 kc_1 ?_
        refine jm_iload_n (i := 2) F dX9_findMost_30 rfl rfl ?_
        refine jm_ishl F dX9_findMost_31 ?_
        refine jm_iconst F dX9_findMost_32 kc_m1 ?_
        refine jm_ixor F dX9_findMost_33 ?_
        refine jm_iand F dX9_findMost_34 ?_
        refine jm_nameI (f := fun x6 => [.int x6]) (fun x6 => ?_) rfl
        refine jm_istore_n (i := 3) (lv' := [some (.ref (jm_a E 0 0)), some (.int s3.1), some (.int r5), some (.int x6), none]) F dX9_findMost_35 rfl (by decide) rfl rfl ?_
        refine jm_aload_n (i := 0) F dX9_findMost_36 rfl rfl ?_
        refine jm_getR F dX9_findMost_37 fl_X9_79 lo_X9 rfl ?_
        refine jm_iload_n (i := 1) F dX9_findMost_40 rfl rfl ?_
        refine jm_aload_n (i := 0) F dX9_findMost_41 rfl rfl ?_
        refine jm_getR F dX9_findMost_42 fl_X9_79 lo_X9 rfl ?_
        refine jm_iload_n (i := 3) F dX9_findMost_45 rfl rfl ?_
        refine jm_iald F dX9_findMost_46 la_X9_39 (fun v7 => ?_)
        refine jm_iast F dX9_findMost_47 la_X9_39 (fun M8 => ?_)
        refine jm_iload_n (i := 2) F dX9_findMost_48 rfl rfl ?_
        refine jm_iconst F dX9_findMost_49 kc_1 ?_
        refine jm_iadd F dX9_findMost_50 ?_
        refine jm_nameI (f := fun x9 => [.int x9]) (fun x9 => ?_) rfl
        refine jm_istore (i := 4) (lv' := [some (.ref (jm_a E 0 0)), some (.int s3.1), some (.int r5), some (.int x6), some (.int x9)]) F dX9_findMost_51 (by decide) rfl rfl ?_
        refine jm_bind (pcJ := 138) (lvJ := fun e21 => [some (.ref (jm_a E 0 0)), some (.int s3.1), none, none, none]) (stJ := fun _ => []) (MJ := fun e21 => e21) ?_ (fun e21 => ?_)
        · refine jm_weak F (lv' := [some (.ref (jm_a E 0 0)), some (.int s3.1), some (.int r5), some (.int x6), some (.int x9)]) ⟨rfl, rfl, rfl, rfl, rfl, trivial⟩ ?_
          refine jm_loopR (lvH := fun s10 => [some (.ref (jm_a E 0 0)), some (.int s3.1), some (.int r5), some (.int x6), some (.int s10.1)]) (MH := fun s10 => s10.2) (fun s10 => ?_) jm_N (x9, M8)
          unfold sM_findMost_L53
          refine jm_iload F dX9_findMost_53 rfl ?_
          refine jm_aload_n (i := 0) F dX9_findMost_55 rfl rfl ?_
          refine jm_getI F dX9_findMost_56 fl_X9_91 lo_X9 rfl ?_
          refine jm_icmp_ge F dX9_findMost_59 (fun c11 => ?_) (fun c11 => ?_)
          · exact jm_weakD F (lv' := [some (.ref (jm_a E 0 0)), some (.int s3.1), none, none, none]) ⟨rfl, rfl, trivial⟩ (fun h => h)
          · refine jm_iload_n (i := 3) F dX9_findMost_62 rfl rfl ?_
            refine jm_iload F dX9_findMost_63 rfl ?_
            refine jm_callS (As := [.int x6, .int s10.1]) (st := []) (rv := fun r => some (.int r)) (mm := fun _ => s10.2) F dX9_findMost_65 qX9_132 rfl (fun r h => kM_has E hE h) rfl (Nat.le_of_ble_eq_true rfl) ⟨Nat.le_of_ble_eq_true rfl, Nat.le_of_ble_eq_true rfl⟩ (fun r12 => ?_)
            refine jm_if_eq F dX9_findMost_68 (fun c13 => ?_) (fun c13 => ?_)
            · refine jm_iinc (i := 4) (lv' := [some (.ref (jm_a E 0 0)), some (.int s3.1), some (.int r5), some (.int x6), some (.int (s10.1 + 1))]) F dX9_findMost_132 kc_1 rfl (by decide) rfl rfl ?_
              refine jm_goto F dX9_findMost_135 ?_
              exact jm_weakD F (lv' := [some (.ref (jm_a E 0 0)), some (.int s3.1), some (.int r5), some (.int x6), some (.int (s10.1 + 1))]) ⟨rfl, rfl, rfl, rfl, rfl, trivial⟩ (fun h => h)
            · refine jm_aload_n (i := 0) F dX9_findMost_71 rfl rfl ?_
              refine jm_getR F dX9_findMost_72 fl_X9_76 lo_X9 rfl ?_
              refine jm_bipush F dX9_findMost_75 kb_6 ?_
              refine jm_iload_n (i := 2) F dX9_findMost_77 rfl rfl ?_
              refine jm_imul F dX9_findMost_78 ?_
              refine jm_iload F dX9_findMost_79 rfl ?_
              refine jm_iadd F dX9_findMost_81 ?_
              refine jm_iald F dX9_findMost_82 la_X9_38 (fun v14 => ?_)
              refine jm_iconst F dX9_findMost_83 kc_1 ?_
              refine jm_icmp_ne F dX9_findMost_84 (fun c15 => ?_) (fun c15 => ?_)
              · refine jm_aload_n (i := 0) F dX9_findMost_87 rfl rfl ?_
                refine jm_getR F dX9_findMost_88 fl_X9_79 lo_X9 rfl ?_
                refine jm_iload_n (i := 3) F dX9_findMost_91 rfl rfl ?_
                refine jm_iconst F dX9_findMost_92 kc_1 ?_
                refine jm_iload F dX9_findMost_93 rfl ?_
                refine jm_ishl F dX9_findMost_95 ?_
                refine jm_iconst F dX9_findMost_96 kc_m1 ?_
                refine jm_ixor F dX9_findMost_97 ?_
                refine jm_iand F dX9_findMost_98 ?_
                refine jm_iald F dX9_findMost_99 la_X9_39 (fun v16 => ?_)
                refine jm_iconst F dX9_findMost_100 kc_1 ?_
                refine jm_iadd F dX9_findMost_101 ?_
                refine jm_aload_n (i := 0) F dX9_findMost_102 rfl rfl ?_
                refine jm_getR F dX9_findMost_103 fl_X9_79 lo_X9 rfl ?_
                refine jm_iload_n (i := 1) F dX9_findMost_106 rfl rfl ?_
                refine jm_iald F dX9_findMost_107 la_X9_39 (fun v17 => ?_)
                refine jm_icmp_le F dX9_findMost_108 (fun c18 => ?_) (fun c18 => ?_)
                · refine jm_iinc (i := 4) (lv' := [some (.ref (jm_a E 0 0)), some (.int s3.1), some (.int r5), some (.int x6), some (.int (s10.1 + 1))]) F dX9_findMost_132 kc_1 rfl (by decide) rfl rfl ?_
                  refine jm_goto F dX9_findMost_135 ?_
                  exact jm_weakD F (lv' := [some (.ref (jm_a E 0 0)), some (.int s3.1), some (.int r5), some (.int x6), some (.int (s10.1 + 1))]) ⟨rfl, rfl, rfl, rfl, rfl, trivial⟩ (fun h => h)
                · refine jm_aload_n (i := 0) F dX9_findMost_111 rfl rfl ?_
                  refine jm_getR F dX9_findMost_112 fl_X9_79 lo_X9 rfl ?_
                  refine jm_iload_n (i := 1) F dX9_findMost_115 rfl rfl ?_
                  refine jm_aload_n (i := 0) F dX9_findMost_116 rfl rfl ?_
                  refine jm_getR F dX9_findMost_117 fl_X9_79 lo_X9 rfl ?_
                  refine jm_iload_n (i := 3) F dX9_findMost_120 rfl rfl ?_
                  refine jm_iconst F dX9_findMost_121 kc_1 ?_
                  refine jm_iload F dX9_findMost_122 rfl ?_
                  refine jm_ishl F dX9_findMost_124 ?_
                  refine jm_iconst F dX9_findMost_125 kc_m1 ?_
                  refine jm_ixor F dX9_findMost_126 ?_
                  refine jm_iand F dX9_findMost_127 ?_
                  refine jm_iald F dX9_findMost_128 la_X9_39 (fun v19 => ?_)
                  refine jm_iconst F dX9_findMost_129 kc_1 ?_
                  refine jm_iadd F dX9_findMost_130 ?_
                  refine jm_iast F dX9_findMost_131 la_X9_39 (fun M20 => ?_)
                  refine jm_iinc (i := 4) (lv' := [some (.ref (jm_a E 0 0)), some (.int s3.1), some (.int r5), some (.int x6), some (.int (s10.1 + 1))]) F dX9_findMost_132 kc_1 rfl (by decide) rfl rfl ?_
                  refine jm_goto F dX9_findMost_135 ?_
                  exact jm_weakD F (lv' := [some (.ref (jm_a E 0 0)), some (.int s3.1), some (.int r5), some (.int x6), some (.int (s10.1 + 1))]) ⟨rfl, rfl, rfl, rfl, rfl, trivial⟩ (fun h => h)
              · refine jm_iinc (i := 4) (lv' := [some (.ref (jm_a E 0 0)), some (.int s3.1), some (.int r5), some (.int x6), some (.int (s10.1 + 1))]) F dX9_findMost_132 kc_1 rfl (by decide) rfl rfl ?_
                refine jm_goto F dX9_findMost_135 ?_
                exact jm_weakD F (lv' := [some (.ref (jm_a E 0 0)), some (.int s3.1), some (.int r5), some (.int x6), some (.int (s10.1 + 1))]) ⟨rfl, rfl, rfl, rfl, rfl, trivial⟩ (fun h => h)
        · refine jm_iinc (i := 1) (lv' := [some (.ref (jm_a E 0 0)), some (.int (s3.1 + 1)), none, none, none]) F dX9_findMost_138 kc_1 rfl (by decide) rfl rfl ?_
          refine jm_goto F dX9_findMost_141 ?_
          exact jm_weakD F (lv' := [some (.ref (jm_a E 0 0)), some (.int (s3.1 + 1)), none, none, none]) ⟨rfl, rfl, trivial⟩ (fun h => h)
    · exact jm_vret F dX9_findMost_144 (fun h => h)
  exact G r h hz
theorem dX9_partnerFor_0 : jm_d cX9_partnerFor 0 (.iload_n 1) 1 1 := ⟨by decide +kernel, rfl⟩
theorem dX9_partnerFor_1 : jm_d cX9_partnerFor 1 (.iconst 1) 1 2 := ⟨by decide +kernel, rfl⟩
theorem dX9_partnerFor_2 : jm_d cX9_partnerFor 2 (.iadd) 1 3 := ⟨by decide +kernel, rfl⟩
theorem dX9_partnerFor_3 : jm_d cX9_partnerFor 3 (.istore 4) 2 5 := ⟨by decide +kernel, rfl⟩
theorem dX9_partnerFor_5 : jm_d cX9_partnerFor 5 (.iload 4) 2 7 := ⟨by decide +kernel, rfl⟩
theorem dX9_partnerFor_7 : jm_d cX9_partnerFor 7 (.aload_n 0) 1 8 := ⟨by decide +kernel, rfl⟩
theorem dX9_partnerFor_8 : jm_d cX9_partnerFor 8 (.getfield 91) 3 11 := ⟨by decide +kernel, rfl⟩
theorem dX9_partnerFor_11 : jm_b cX9_partnerFor 11 (.if_icmp .ge) 14 67 := ⟨56, by decide +kernel, rfl, by decide⟩
theorem dX9_partnerFor_14 : jm_d cX9_partnerFor 14 (.iload_n 2) 1 15 := ⟨by decide +kernel, rfl⟩
theorem dX9_partnerFor_15 : jm_d cX9_partnerFor 15 (.iload 4) 2 17 := ⟨by decide +kernel, rfl⟩
theorem dX9_partnerFor_17 : jm_d cX9_partnerFor 17 (.invokestatic 132) 3 20 := ⟨by decide +kernel, rfl⟩
theorem dX9_partnerFor_20 : jm_b cX9_partnerFor 20 (.ifCond .eq) 23 61 := ⟨41, by decide +kernel, rfl, by decide⟩
theorem dX9_partnerFor_61 : jm_d cX9_partnerFor 61 (.iinc 4 1) 3 64 := ⟨by decide +kernel, rfl⟩
theorem dX9_partnerFor_64 : jm_b cX9_partnerFor 64 .goto 67 5 := ⟨(-59), by decide +kernel, rfl, by decide⟩
theorem dX9_partnerFor_23 : jm_d cX9_partnerFor 23 (.aload_n 0) 1 24 := ⟨by decide +kernel, rfl⟩
theorem dX9_partnerFor_24 : jm_d cX9_partnerFor 24 (.getfield 76) 3 27 := ⟨by decide +kernel, rfl⟩
theorem dX9_partnerFor_27 : jm_d cX9_partnerFor 27 (.bipush 6) 2 29 := ⟨by decide +kernel, rfl⟩
theorem dX9_partnerFor_29 : jm_d cX9_partnerFor 29 (.iload_n 1) 1 30 := ⟨by decide +kernel, rfl⟩
theorem dX9_partnerFor_30 : jm_d cX9_partnerFor 30 (.imul) 1 31 := ⟨by decide +kernel, rfl⟩
theorem dX9_partnerFor_31 : jm_d cX9_partnerFor 31 (.iload 4) 2 33 := ⟨by decide +kernel, rfl⟩
theorem dX9_partnerFor_33 : jm_d cX9_partnerFor 33 (.iadd) 1 34 := ⟨by decide +kernel, rfl⟩
theorem dX9_partnerFor_34 : jm_d cX9_partnerFor 34 (.iaload) 1 35 := ⟨by decide +kernel, rfl⟩
theorem dX9_partnerFor_35 : jm_d cX9_partnerFor 35 (.iconst 1) 1 36 := ⟨by decide +kernel, rfl⟩
theorem dX9_partnerFor_36 : jm_b cX9_partnerFor 36 (.if_icmp .ne) 39 61 := ⟨25, by decide +kernel, rfl, by decide⟩
theorem dX9_partnerFor_39 : jm_d cX9_partnerFor 39 (.aload_n 0) 1 40 := ⟨by decide +kernel, rfl⟩
theorem dX9_partnerFor_40 : jm_d cX9_partnerFor 40 (.getfield 79) 3 43 := ⟨by decide +kernel, rfl⟩
theorem dX9_partnerFor_43 : jm_d cX9_partnerFor 43 (.iload_n 2) 1 44 := ⟨by decide +kernel, rfl⟩
theorem dX9_partnerFor_44 : jm_d cX9_partnerFor 44 (.iconst 1) 1 45 := ⟨by decide +kernel, rfl⟩
theorem dX9_partnerFor_45 : jm_d cX9_partnerFor 45 (.iload 4) 2 47 := ⟨by decide +kernel, rfl⟩
theorem dX9_partnerFor_47 : jm_d cX9_partnerFor 47 (.ishl) 1 48 := ⟨by decide +kernel, rfl⟩
theorem dX9_partnerFor_48 : jm_d cX9_partnerFor 48 (.iconst (-1)) 1 49 := ⟨by decide +kernel, rfl⟩
theorem dX9_partnerFor_49 : jm_d cX9_partnerFor 49 (.ixor) 1 50 := ⟨by decide +kernel, rfl⟩
theorem dX9_partnerFor_50 : jm_d cX9_partnerFor 50 (.iand) 1 51 := ⟨by decide +kernel, rfl⟩
theorem dX9_partnerFor_51 : jm_d cX9_partnerFor 51 (.iaload) 1 52 := ⟨by decide +kernel, rfl⟩
theorem dX9_partnerFor_52 : jm_d cX9_partnerFor 52 (.iconst 1) 1 53 := ⟨by decide +kernel, rfl⟩
theorem dX9_partnerFor_53 : jm_d cX9_partnerFor 53 (.iadd) 1 54 := ⟨by decide +kernel, rfl⟩
theorem dX9_partnerFor_54 : jm_d cX9_partnerFor 54 (.iload_n 3) 1 55 := ⟨by decide +kernel, rfl⟩
theorem dX9_partnerFor_55 : jm_b cX9_partnerFor 55 (.if_icmp .ne) 58 61 := ⟨6, by decide +kernel, rfl, by decide⟩
theorem dX9_partnerFor_58 : jm_d cX9_partnerFor 58 (.iload 4) 2 60 := ⟨by decide +kernel, rfl⟩
theorem dX9_partnerFor_60 : jm_d cX9_partnerFor 60 (.ireturn) 1 61 := ⟨by decide +kernel, rfl⟩
theorem dX9_partnerFor_67 : jm_d cX9_partnerFor 67 (.bipush (-9)) 2 69 := ⟨by decide +kernel, rfl⟩
theorem dX9_partnerFor_69 : jm_d cX9_partnerFor 69 (.ireturn) 1 70 := ⟨by decide +kernel, rfl⟩
set_option maxHeartbeats 4000000 in
set_option maxRecDepth 100000 in
theorem kM_partnerFor (E : jm_Ev) (hE : jm_dj E jm_LM) {M : jm_M} {p1 : Int32} {p2 : Int32} {p3 : Int32}  {r : Int32} (h : sM_partnerFor M p1 p2 p3 = some r) : jm_Ct E jm_LM yX9_partnerFor cX9_partnerFor 5 (some .int) 1 21 [.ref (jm_a E 0 0), .int p1, .int p2, .int p3] M (some (.int r)) M := by
  refine jm_enter (lv := [some (.ref (jm_a E 0 0)), some (.int p1), some (.int p2), some (.int p3), none]) hE (by decide) (Nat.le_of_ble_eq_true rfl) rfl ?_
  intro z w F hz
  have G : jm_G w 0 [some (.ref (jm_a E 0 0)), some (.int p1), some (.int p2), some (.int p3), none] [] M (sM_partnerFor M p1 p2 p3) (fun e => z (some (.int e)) M) := by
    unfold sM_partnerFor
    refine jm_iload_n (i := 1) F dX9_partnerFor_0 rfl rfl ?_
    refine jm_iconst F dX9_partnerFor_1 kc_1 ?_
    refine jm_iadd F dX9_partnerFor_2 ?_
    refine jm_nameI (f := fun x1 => [.int x1]) (fun x1 => ?_) rfl
    refine jm_istore (i := 4) (lv' := [some (.ref (jm_a E 0 0)), some (.int p1), some (.int p2), some (.int p3), some (.int x1)]) F dX9_partnerFor_3 (by decide) rfl rfl ?_
    refine jm_bindS (pcJ := 67) (lvJ := fun e10 => [none, none, none, none, none]) (stJ := fun _ => []) (MJ := fun e10 => M) ?_ (fun e10 => ?_)
    · refine jm_weak F (lv' := [some (.ref (jm_a E 0 0)), some (.int p1), some (.int p2), some (.int p3), some (.int x1)]) ⟨rfl, rfl, rfl, rfl, rfl, trivial⟩ ?_
      refine jm_loopR (lvH := fun s2 => [some (.ref (jm_a E 0 0)), some (.int p1), some (.int p2), some (.int p3), some (.int s2)]) (MH := fun s2 => M) (fun s2 => ?_) jm_N x1
      unfold sM_partnerFor_L5
      refine jm_iload F dX9_partnerFor_5 rfl ?_
      refine jm_aload_n (i := 0) F dX9_partnerFor_7 rfl rfl ?_
      refine jm_getI F dX9_partnerFor_8 fl_X9_91 lo_X9 rfl ?_
      refine jm_icmp_ge F dX9_partnerFor_11 (fun c3 => ?_) (fun c3 => ?_)
      · exact jm_weakD F (lv' := [none, none, none, none, none]) trivial (fun h => h)
      · refine jm_iload_n (i := 2) F dX9_partnerFor_14 rfl rfl ?_
        refine jm_iload F dX9_partnerFor_15 rfl ?_
        refine jm_callS (As := [.int p2, .int s2]) (st := []) (rv := fun r => some (.int r)) (mm := fun _ => M) F dX9_partnerFor_17 qX9_132 rfl (fun r h => kM_has E hE h) rfl (Nat.le_of_ble_eq_true rfl) ⟨Nat.le_of_ble_eq_true rfl, Nat.le_of_ble_eq_true rfl⟩ (fun r4 => ?_)
        refine jm_if_eq F dX9_partnerFor_20 (fun c5 => ?_) (fun c5 => ?_)
        · refine jm_iinc (i := 4) (lv' := [some (.ref (jm_a E 0 0)), some (.int p1), some (.int p2), some (.int p3), some (.int (s2 + 1))]) F dX9_partnerFor_61 kc_1 rfl (by decide) rfl rfl ?_
          refine jm_goto F dX9_partnerFor_64 ?_
          exact jm_weakD F (lv' := [some (.ref (jm_a E 0 0)), some (.int p1), some (.int p2), some (.int p3), some (.int (s2 + 1))]) ⟨rfl, rfl, rfl, rfl, rfl, trivial⟩ (fun h => h)
        · refine jm_aload_n (i := 0) F dX9_partnerFor_23 rfl rfl ?_
          refine jm_getR F dX9_partnerFor_24 fl_X9_76 lo_X9 rfl ?_
          refine jm_bipush F dX9_partnerFor_27 kb_6 ?_
          refine jm_iload_n (i := 1) F dX9_partnerFor_29 rfl rfl ?_
          refine jm_imul F dX9_partnerFor_30 ?_
          refine jm_iload F dX9_partnerFor_31 rfl ?_
          refine jm_iadd F dX9_partnerFor_33 ?_
          refine jm_iald F dX9_partnerFor_34 la_X9_38 (fun v6 => ?_)
          refine jm_iconst F dX9_partnerFor_35 kc_1 ?_
          refine jm_icmp_ne F dX9_partnerFor_36 (fun c7 => ?_) (fun c7 => ?_)
          · refine jm_aload_n (i := 0) F dX9_partnerFor_39 rfl rfl ?_
            refine jm_getR F dX9_partnerFor_40 fl_X9_79 lo_X9 rfl ?_
            refine jm_iload_n (i := 2) F dX9_partnerFor_43 rfl rfl ?_
            refine jm_iconst F dX9_partnerFor_44 kc_1 ?_
            refine jm_iload F dX9_partnerFor_45 rfl ?_
            refine jm_ishl F dX9_partnerFor_47 ?_
            refine jm_iconst F dX9_partnerFor_48 kc_m1 ?_
            refine jm_ixor F dX9_partnerFor_49 ?_
            refine jm_iand F dX9_partnerFor_50 ?_
            refine jm_iald F dX9_partnerFor_51 la_X9_39 (fun v8 => ?_)
            refine jm_iconst F dX9_partnerFor_52 kc_1 ?_
            refine jm_iadd F dX9_partnerFor_53 ?_
            refine jm_iload_n (i := 3) F dX9_partnerFor_54 rfl rfl ?_
            refine jm_icmp_ne F dX9_partnerFor_55 (fun c9 => ?_) (fun c9 => ?_)
            · refine jm_iload F dX9_partnerFor_58 rfl ?_
              exact jm_iret F dX9_partnerFor_60 (fun h => h)
            · refine jm_iinc (i := 4) (lv' := [some (.ref (jm_a E 0 0)), some (.int p1), some (.int p2), some (.int p3), some (.int (s2 + 1))]) F dX9_partnerFor_61 kc_1 rfl (by decide) rfl rfl ?_
              refine jm_goto F dX9_partnerFor_64 ?_
              exact jm_weakD F (lv' := [some (.ref (jm_a E 0 0)), some (.int p1), some (.int p2), some (.int p3), some (.int (s2 + 1))]) ⟨rfl, rfl, rfl, rfl, rfl, trivial⟩ (fun h => h)
          · refine jm_iinc (i := 4) (lv' := [some (.ref (jm_a E 0 0)), some (.int p1), some (.int p2), some (.int p3), some (.int (s2 + 1))]) F dX9_partnerFor_61 kc_1 rfl (by decide) rfl rfl ?_
            refine jm_goto F dX9_partnerFor_64 ?_
            exact jm_weakD F (lv' := [some (.ref (jm_a E 0 0)), some (.int p1), some (.int p2), some (.int p3), some (.int (s2 + 1))]) ⟨rfl, rfl, rfl, rfl, rfl, trivial⟩ (fun h => h)
    · refine jm_bipush F dX9_partnerFor_67 kb_m9 ?_
      exact jm_iret F dX9_partnerFor_69 (fun h => h)
  exact G r h hz
theorem dX9_findPartners_0 : jm_d cX9_findPartners 0 (.iconst 1) 1 1 := ⟨by decide +kernel, rfl⟩
theorem dX9_findPartners_1 : jm_d cX9_findPartners 1 (.aload_n 0) 1 2 := ⟨by decide +kernel, rfl⟩
theorem dX9_findPartners_2 : jm_d cX9_findPartners 2 (.getfield 91) 3 5 := ⟨by decide +kernel, rfl⟩
theorem dX9_findPartners_5 : jm_d cX9_findPartners 5 (.ishl) 1 6 := ⟨by decide +kernel, rfl⟩
theorem dX9_findPartners_6 : jm_d cX9_findPartners 6 (.iconst 1) 1 7 := ⟨by decide +kernel, rfl⟩
theorem dX9_findPartners_7 : jm_d cX9_findPartners 7 (.isub) 1 8 := ⟨by decide +kernel, rfl⟩
theorem dX9_findPartners_8 : jm_d cX9_findPartners 8 (.istore_n 1) 1 9 := ⟨by decide +kernel, rfl⟩
theorem dX9_findPartners_9 : jm_d cX9_findPartners 9 (.iload_n 1) 1 10 := ⟨by decide +kernel, rfl⟩
theorem dX9_findPartners_10 : jm_b cX9_findPartners 10 (.ifCond .eq) 13 77 := ⟨67, by decide +kernel, rfl, by decide⟩
theorem dX9_findPartners_13 : jm_d cX9_findPartners 13 (.iload_n 1) 1 14 := ⟨by decide +kernel, rfl⟩
theorem dX9_findPartners_14 : jm_d cX9_findPartners 14 (.invokestatic 334) 3 17 := ⟨by decide +kernel, rfl⟩
theorem dX9_findPartners_17 : jm_d cX9_findPartners 17 (.istore_n 2) 1 18 := ⟨by decide +kernel, rfl⟩
theorem dX9_findPartners_18 : jm_d cX9_findPartners 18 (.aload_n 0) 1 19 := ⟨by decide +kernel, rfl⟩
theorem dX9_findPartners_19 : jm_d cX9_findPartners 19 (.iload_n 2) 1 20 := ⟨by decide +kernel, rfl⟩
theorem dX9_findPartners_20 : jm_d cX9_findPartners 20 (.iload_n 1) 1 21 := ⟨by decide +kernel, rfl⟩
theorem dX9_findPartners_21 : jm_d cX9_findPartners 21 (.iconst 1) 1 22 := ⟨by decide +kernel, rfl⟩
theorem dX9_findPartners_22 : jm_d cX9_findPartners 22 (.iload_n 2) 1 23 := ⟨by decide +kernel, rfl⟩
theorem dX9_findPartners_23 : jm_d cX9_findPartners 23 (.ishl) 1 24 := ⟨by decide +kernel, rfl⟩
theorem dX9_findPartners_24 : jm_d cX9_findPartners 24 (.iconst (-1)) 1 25 := ⟨by decide +kernel, rfl⟩
theorem dX9_findPartners_25 : jm_d cX9_findPartners 25 (.ixor) 1 26 := ⟨by decide +kernel, rfl⟩
theorem dX9_findPartners_26 : jm_d cX9_findPartners 26 (.iand) 1 27 := ⟨by decide +kernel, rfl⟩
theorem dX9_findPartners_27 : jm_d cX9_findPartners 27 (.aload_n 0) 1 28 := ⟨by decide +kernel, rfl⟩
theorem dX9_findPartners_28 : jm_d cX9_findPartners 28 (.getfield 79) 3 31 := ⟨by decide +kernel, rfl⟩
theorem dX9_findPartners_31 : jm_d cX9_findPartners 31 (.iload_n 1) 1 32 := ⟨by decide +kernel, rfl⟩
theorem dX9_findPartners_32 : jm_d cX9_findPartners 32 (.iaload) 1 33 := ⟨by decide +kernel, rfl⟩
theorem dX9_findPartners_33 : jm_d cX9_findPartners 33 (.invokevirtual 337) 3 36 := ⟨by decide +kernel, rfl⟩
theorem dX9_findPartners_36 : jm_d cX9_findPartners 36 (.istore_n 3) 1 37 := ⟨by decide +kernel, rfl⟩
theorem dX9_findPartners_37 : jm_d cX9_findPartners 37 (.aload_n 0) 1 38 := ⟨by decide +kernel, rfl⟩
theorem dX9_findPartners_38 : jm_d cX9_findPartners 38 (.getfield 82) 3 41 := ⟨by decide +kernel, rfl⟩
theorem dX9_findPartners_41 : jm_d cX9_findPartners 41 (.iload_n 2) 1 42 := ⟨by decide +kernel, rfl⟩
theorem dX9_findPartners_42 : jm_d cX9_findPartners 42 (.iload_n 3) 1 43 := ⟨by decide +kernel, rfl⟩
theorem dX9_findPartners_43 : jm_d cX9_findPartners 43 (.iastore) 1 44 := ⟨by decide +kernel, rfl⟩
theorem dX9_findPartners_44 : jm_d cX9_findPartners 44 (.iload_n 1) 1 45 := ⟨by decide +kernel, rfl⟩
theorem dX9_findPartners_45 : jm_d cX9_findPartners 45 (.iconst 1) 1 46 := ⟨by decide +kernel, rfl⟩
theorem dX9_findPartners_46 : jm_d cX9_findPartners 46 (.iload_n 2) 1 47 := ⟨by decide +kernel, rfl⟩
theorem dX9_findPartners_47 : jm_d cX9_findPartners 47 (.ishl) 1 48 := ⟨by decide +kernel, rfl⟩
theorem dX9_findPartners_48 : jm_d cX9_findPartners 48 (.iconst (-1)) 1 49 := ⟨by decide +kernel, rfl⟩
theorem dX9_findPartners_49 : jm_d cX9_findPartners 49 (.ixor) 1 50 := ⟨by decide +kernel, rfl⟩
theorem dX9_findPartners_50 : jm_d cX9_findPartners 50 (.iand) 1 51 := ⟨by decide +kernel, rfl⟩
theorem dX9_findPartners_51 : jm_d cX9_findPartners 51 (.istore_n 1) 1 52 := ⟨by decide +kernel, rfl⟩
theorem dX9_findPartners_52 : jm_d cX9_findPartners 52 (.iload_n 3) 1 53 := ⟨by decide +kernel, rfl⟩
theorem dX9_findPartners_53 : jm_b cX9_findPartners 53 (.ifCond .ge) 56 59 := ⟨6, by decide +kernel, rfl, by decide⟩
theorem dX9_findPartners_59 : jm_d cX9_findPartners 59 (.aload_n 0) 1 60 := ⟨by decide +kernel, rfl⟩
theorem dX9_findPartners_60 : jm_d cX9_findPartners 60 (.getfield 82) 3 63 := ⟨by decide +kernel, rfl⟩
theorem dX9_findPartners_63 : jm_d cX9_findPartners 63 (.iload_n 3) 1 64 := ⟨by decide +kernel, rfl⟩
theorem dX9_findPartners_64 : jm_d cX9_findPartners 64 (.iload_n 2) 1 65 := ⟨by decide +kernel, rfl⟩
theorem dX9_findPartners_65 : jm_d cX9_findPartners 65 (.iastore) 1 66 := ⟨by decide +kernel, rfl⟩
theorem dX9_findPartners_66 : jm_d cX9_findPartners 66 (.iload_n 1) 1 67 := ⟨by decide +kernel, rfl⟩
theorem dX9_findPartners_67 : jm_d cX9_findPartners 67 (.iconst 1) 1 68 := ⟨by decide +kernel, rfl⟩
theorem dX9_findPartners_68 : jm_d cX9_findPartners 68 (.iload_n 3) 1 69 := ⟨by decide +kernel, rfl⟩
theorem dX9_findPartners_69 : jm_d cX9_findPartners 69 (.ishl) 1 70 := ⟨by decide +kernel, rfl⟩
theorem dX9_findPartners_70 : jm_d cX9_findPartners 70 (.iconst (-1)) 1 71 := ⟨by decide +kernel, rfl⟩
theorem dX9_findPartners_71 : jm_d cX9_findPartners 71 (.ixor) 1 72 := ⟨by decide +kernel, rfl⟩
theorem dX9_findPartners_72 : jm_d cX9_findPartners 72 (.iand) 1 73 := ⟨by decide +kernel, rfl⟩
theorem dX9_findPartners_73 : jm_d cX9_findPartners 73 (.istore_n 1) 1 74 := ⟨by decide +kernel, rfl⟩
theorem dX9_findPartners_74 : jm_b cX9_findPartners 74 .goto 77 9 := ⟨(-65), by decide +kernel, rfl, by decide⟩
theorem dX9_findPartners_56 : jm_b cX9_findPartners 56 .goto 59 9 := ⟨(-47), by decide +kernel, rfl, by decide⟩
theorem dX9_findPartners_77 : jm_d cX9_findPartners 77 (.return_) 1 78 := ⟨by decide +kernel, rfl⟩
set_option maxHeartbeats 4000000 in
set_option maxRecDepth 100000 in
theorem kM_findPartners (E : jm_Ev) (hE : jm_dj E jm_LM) {M : jm_M}  {r : jm_M} (h : sM_findPartners M = some r) : jm_Ct E jm_LM yX9_findPartners cX9_findPartners 4 none 2 45 [.ref (jm_a E 0 0)] M none r := by
  refine jm_enter (lv := [some (.ref (jm_a E 0 0)), none, none, none]) hE (by decide) (Nat.le_of_ble_eq_true rfl) rfl ?_
  intro z w F hz
  have G : jm_G w 0 [some (.ref (jm_a E 0 0)), none, none, none] [] M (sM_findPartners M) (fun e => z none e) := by
    unfold sM_findPartners
    refine jm_iconst F dX9_findPartners_0 kc_1 ?_
    refine jm_aload_n (i := 0) F dX9_findPartners_1 rfl rfl ?_
    refine jm_getI F dX9_findPartners_2 fl_X9_91 lo_X9 rfl ?_
    refine jm_ishl F dX9_findPartners_5 ?_
    refine jm_iconst F dX9_findPartners_6 kc_1 ?_
    refine jm_isub F dX9_findPartners_7 ?_
    refine jm_nameI (f := fun x1 => [.int x1]) (fun x1 => ?_) rfl
    refine jm_istore_n (i := 1) (lv' := [some (.ref (jm_a E 0 0)), some (.int x1), none, none]) F dX9_findPartners_8 rfl (by decide) rfl rfl ?_
    refine jm_bind (pcJ := 77) (lvJ := fun e12 => [none, none, none, none]) (stJ := fun _ => []) (MJ := fun e12 => e12) ?_ (fun e12 => ?_)
    · refine jm_weak F (lv' := [some (.ref (jm_a E 0 0)), some (.int x1), none, none]) ⟨rfl, rfl, trivial⟩ ?_
      refine jm_loopR (lvH := fun s2 => [some (.ref (jm_a E 0 0)), some (.int s2.1), none, none]) (MH := fun s2 => s2.2) (fun s2 => ?_) jm_N (x1, M)
      unfold sM_findPartners_L9
      refine jm_iload_n (i := 1) F dX9_findPartners_9 rfl rfl ?_
      refine jm_if_eq F dX9_findPartners_10 (fun c3 => ?_) (fun c3 => ?_)
      · exact jm_weakD F (lv' := [none, none, none, none]) trivial (fun h => h)
      · refine jm_iload_n (i := 1) F dX9_findPartners_13 rfl rfl ?_
        refine jm_callS (As := [.int s2.1]) (st := []) (rv := fun r => some (.int r)) (mm := fun _ => s2.2) F dX9_findPartners_14 qX9_334 rfl (fun r h => kM_leastIn E hE h) rfl (Nat.le_of_ble_eq_true rfl) ⟨Nat.le_of_ble_eq_true rfl, Nat.le_of_ble_eq_true rfl⟩ (fun r4 => ?_)
        refine jm_istore_n (i := 2) (lv' := [some (.ref (jm_a E 0 0)), some (.int s2.1), some (.int r4), none]) F dX9_findPartners_17 rfl (by decide) rfl rfl ?_
        refine jm_aload_n (i := 0) F dX9_findPartners_18 rfl rfl ?_
        refine jm_iload_n (i := 2) F dX9_findPartners_19 rfl rfl ?_
        refine jm_iload_n (i := 1) F dX9_findPartners_20 rfl rfl ?_
        refine jm_iconst F dX9_findPartners_21 kc_1 ?_
        refine jm_iload_n (i := 2) F dX9_findPartners_22 rfl rfl ?_
        refine jm_ishl F dX9_findPartners_23 ?_
        refine jm_iconst F dX9_findPartners_24 kc_m1 ?_
        refine jm_ixor F dX9_findPartners_25 ?_
        refine jm_iand F dX9_findPartners_26 ?_
        refine jm_aload_n (i := 0) F dX9_findPartners_27 rfl rfl ?_
        refine jm_getR F dX9_findPartners_28 fl_X9_79 lo_X9 rfl ?_
        refine jm_iload_n (i := 1) F dX9_findPartners_31 rfl rfl ?_
        refine jm_iald F dX9_findPartners_32 la_X9_39 (fun v5 => ?_)
        refine jm_callV (As := [.int r4, .int (s2.1 &&& (((1 : Int32) <<< ((r4 : Int32) &&& 31)) ^^^ (-1))), .int v5]) (st := []) (rv := fun r => some (.int r)) (mm := fun _ => s2.2) F dX9_findPartners_33 qX9_337 rfl lo_X9 rfl (fun r h => kM_partnerFor E hE h) rfl (Nat.le_of_ble_eq_true rfl) ⟨Nat.le_of_ble_eq_true rfl, Nat.le_of_ble_eq_true rfl⟩ (fun r6 => ?_)
        refine jm_istore_n (i := 3) (lv' := [some (.ref (jm_a E 0 0)), some (.int s2.1), some (.int r4), some (.int r6)]) F dX9_findPartners_36 rfl (by decide) rfl rfl ?_
        refine jm_aload_n (i := 0) F dX9_findPartners_37 rfl rfl ?_
        refine jm_getR F dX9_findPartners_38 fl_X9_82 lo_X9 rfl ?_
        refine jm_iload_n (i := 2) F dX9_findPartners_41 rfl rfl ?_
        refine jm_iload_n (i := 3) F dX9_findPartners_42 rfl rfl ?_
        refine jm_iast F dX9_findPartners_43 la_X9_40 (fun M7 => ?_)
        refine jm_iload_n (i := 1) F dX9_findPartners_44 rfl rfl ?_
        refine jm_iconst F dX9_findPartners_45 kc_1 ?_
        refine jm_iload_n (i := 2) F dX9_findPartners_46 rfl rfl ?_
        refine jm_ishl F dX9_findPartners_47 ?_
        refine jm_iconst F dX9_findPartners_48 kc_m1 ?_
        refine jm_ixor F dX9_findPartners_49 ?_
        refine jm_iand F dX9_findPartners_50 ?_
        refine jm_nameI (f := fun x8 => [.int x8]) (fun x8 => ?_) rfl
        refine jm_istore_n (i := 1) (lv' := [some (.ref (jm_a E 0 0)), some (.int x8), some (.int r4), some (.int r6)]) F dX9_findPartners_51 rfl (by decide) rfl rfl ?_
        refine jm_iload_n (i := 3) F dX9_findPartners_52 rfl rfl ?_
        refine jm_if_ge F dX9_findPartners_53 (fun c9 => ?_) (fun c9 => ?_)
        · refine jm_aload_n (i := 0) F dX9_findPartners_59 rfl rfl ?_
          refine jm_getR F dX9_findPartners_60 fl_X9_82 lo_X9 rfl ?_
          refine jm_iload_n (i := 3) F dX9_findPartners_63 rfl rfl ?_
          refine jm_iload_n (i := 2) F dX9_findPartners_64 rfl rfl ?_
          refine jm_iast F dX9_findPartners_65 la_X9_40 (fun M10 => ?_)
          refine jm_iload_n (i := 1) F dX9_findPartners_66 rfl rfl ?_
          refine jm_iconst F dX9_findPartners_67 kc_1 ?_
          refine jm_iload_n (i := 3) F dX9_findPartners_68 rfl rfl ?_
          refine jm_ishl F dX9_findPartners_69 ?_
          refine jm_iconst F dX9_findPartners_70 kc_m1 ?_
          refine jm_ixor F dX9_findPartners_71 ?_
          refine jm_iand F dX9_findPartners_72 ?_
          refine jm_nameI (f := fun x11 => [.int x11]) (fun x11 => ?_) rfl
          refine jm_istore_n (i := 1) (lv' := [some (.ref (jm_a E 0 0)), some (.int x11), some (.int r4), some (.int r6)]) F dX9_findPartners_73 rfl (by decide) rfl rfl ?_
          refine jm_goto F dX9_findPartners_74 ?_
          exact jm_weakD F (lv' := [some (.ref (jm_a E 0 0)), some (.int x11), none, none]) ⟨rfl, rfl, trivial⟩ (fun h => h)
        · refine jm_goto F dX9_findPartners_56 ?_
          exact jm_weakD F (lv' := [some (.ref (jm_a E 0 0)), some (.int x8), none, none]) ⟨rfl, rfl, trivial⟩ (fun h => h)
    · exact jm_vret F dX9_findPartners_77 (fun h => h)
  exact G r h hz
theorem dX9_couples_0 : jm_d cX9_couples 0 (.iload_n 1) 1 1 := ⟨by decide +kernel, rfl⟩
theorem dX9_couples_1 : jm_d cX9_couples 1 (.iconst (-1)) 1 2 := ⟨by decide +kernel, rfl⟩
theorem dX9_couples_2 : jm_d cX9_couples 2 (.aload_n 0) 1 3 := ⟨by decide +kernel, rfl⟩
theorem dX9_couples_3 : jm_d cX9_couples 3 (.getfield 91) 3 6 := ⟨by decide +kernel, rfl⟩
theorem dX9_couples_6 : jm_d cX9_couples 6 (.iconst 1) 1 7 := ⟨by decide +kernel, rfl⟩
theorem dX9_couples_7 : jm_d cX9_couples 7 (.isub) 1 8 := ⟨by decide +kernel, rfl⟩
theorem dX9_couples_8 : jm_d cX9_couples 8 (.invokestatic 98) 3 11 := ⟨by decide +kernel, rfl⟩
theorem dX9_couples_11 : jm_b cX9_couples 11 (.ifCond .ne) 14 20 := ⟨9, by decide +kernel, rfl, by decide⟩
theorem dX9_couples_14 : jm_d cX9_couples 14 (.aload_n 0) 1 15 := ⟨by decide +kernel, rfl⟩
theorem dX9_couples_15 : jm_d cX9_couples 15 (.iconst (-1)) 1 16 := ⟨by decide +kernel, rfl⟩
theorem dX9_couples_16 : jm_d cX9_couples 16 (.invokevirtual 172) 3 19 := ⟨by decide +kernel, rfl⟩
theorem dX9_couples_19 : jm_d cX9_couples 19 (.ireturn) 1 20 := ⟨by decide +kernel, rfl⟩
theorem dX9_couples_20 : jm_d cX9_couples 20 (.aload_n 0) 1 21 := ⟨by decide +kernel, rfl⟩
theorem dX9_couples_21 : jm_d cX9_couples 21 (.invokevirtual 340) 3 24 := ⟨by decide +kernel, rfl⟩
theorem dX9_couples_24 : jm_d cX9_couples 24 (.iload_n 1) 1 25 := ⟨by decide +kernel, rfl⟩
theorem dX9_couples_25 : jm_b cX9_couples 25 (.ifCond .ge) 28 42 := ⟨17, by decide +kernel, rfl, by decide⟩
theorem dX9_couples_42 : jm_d cX9_couples 42 (.aload_n 0) 1 43 := ⟨by decide +kernel, rfl⟩
theorem dX9_couples_43 : jm_d cX9_couples 43 (.invokevirtual 343) 3 46 := ⟨by decide +kernel, rfl⟩
theorem dX9_couples_46 : jm_d cX9_couples 46 (.aload_n 0) 1 47 := ⟨by decide +kernel, rfl⟩
theorem dX9_couples_47 : jm_d cX9_couples 47 (.getfield 82) 3 50 := ⟨by decide +kernel, rfl⟩
theorem dX9_couples_50 : jm_d cX9_couples 50 (.iload_n 1) 1 51 := ⟨by decide +kernel, rfl⟩
theorem dX9_couples_51 : jm_d cX9_couples 51 (.iaload) 1 52 := ⟨by decide +kernel, rfl⟩
theorem dX9_couples_52 : jm_d cX9_couples 52 (.ireturn) 1 53 := ⟨by decide +kernel, rfl⟩
theorem dX9_couples_28 : jm_d cX9_couples 28 (.aload_n 0) 1 29 := ⟨by decide +kernel, rfl⟩
theorem dX9_couples_29 : jm_d cX9_couples 29 (.getfield 79) 3 32 := ⟨by decide +kernel, rfl⟩
theorem dX9_couples_32 : jm_d cX9_couples 32 (.iconst 1) 1 33 := ⟨by decide +kernel, rfl⟩
theorem dX9_couples_33 : jm_d cX9_couples 33 (.aload_n 0) 1 34 := ⟨by decide +kernel, rfl⟩
theorem dX9_couples_34 : jm_d cX9_couples 34 (.getfield 91) 3 37 := ⟨by decide +kernel, rfl⟩
theorem dX9_couples_37 : jm_d cX9_couples 37 (.ishl) 1 38 := ⟨by decide +kernel, rfl⟩
theorem dX9_couples_38 : jm_d cX9_couples 38 (.iconst 1) 1 39 := ⟨by decide +kernel, rfl⟩
theorem dX9_couples_39 : jm_d cX9_couples 39 (.isub) 1 40 := ⟨by decide +kernel, rfl⟩
theorem dX9_couples_40 : jm_d cX9_couples 40 (.iaload) 1 41 := ⟨by decide +kernel, rfl⟩
theorem dX9_couples_41 : jm_d cX9_couples 41 (.ireturn) 1 42 := ⟨by decide +kernel, rfl⟩
set_option maxHeartbeats 4000000 in
set_option maxRecDepth 100000 in
theorem kM_couples (E : jm_Ev) (hE : jm_dj E jm_LM) {M : jm_M} {p1 : Int32}  {r : Int32 × jm_M} (h : sM_couples M p1 = some r) : jm_Ct E jm_LM yX9_couples cX9_couples 2 (some .int) 9 208 [.ref (jm_a E 0 0), .int p1] M (some (.int r.1)) r.2 := by
  refine jm_enter (lv := [some (.ref (jm_a E 0 0)), some (.int p1)]) hE (by decide) (Nat.le_of_ble_eq_true rfl) rfl ?_
  intro z w F hz
  have G : jm_G w 0 [some (.ref (jm_a E 0 0)), some (.int p1)] [] M (sM_couples M p1) (fun e => z (some (.int e.1)) e.2) := by
    unfold sM_couples
    refine jm_iload_n (i := 1) F dX9_couples_0 rfl rfl ?_
    refine jm_iconst F dX9_couples_1 kc_m1 ?_
    refine jm_aload_n (i := 0) F dX9_couples_2 rfl rfl ?_
    refine jm_getI F dX9_couples_3 fl_X9_91 lo_X9 rfl ?_
    refine jm_iconst F dX9_couples_6 kc_1 ?_
    refine jm_isub F dX9_couples_7 ?_
    refine jm_callS (As := [.int p1, .int (-1), .int ((M 0 0 13) - 1)]) (st := []) (rv := fun r => some (.int r)) (mm := fun _ => M) F dX9_couples_8 qX9_98 rfl (fun r h => kM_isIn E hE h) rfl (Nat.le_of_ble_eq_true rfl) ⟨Nat.le_of_ble_eq_true rfl, Nat.le_of_ble_eq_true rfl⟩ (fun r1 => ?_)
    refine jm_if_ne F dX9_couples_11 (fun c2 => ?_) (fun c2 => ?_)
    · refine jm_aload_n (i := 0) F dX9_couples_14 rfl rfl ?_
      refine jm_iconst F dX9_couples_15 kc_m1 ?_
      refine jm_callV (As := [.int (-1)]) (st := []) (rv := fun r => some (.int r.1)) (mm := fun r => r.2) F dX9_couples_16 qX9_172 rfl lo_X9 rfl (fun r h => kM_no E hE h) rfl (Nat.le_of_ble_eq_true rfl) ⟨Nat.le_of_ble_eq_true rfl, Nat.le_of_ble_eq_true rfl⟩ (fun r3 => ?_)
      exact jm_iret F dX9_couples_19 (fun h => h)
    · refine jm_aload_n (i := 0) F dX9_couples_20 rfl rfl ?_
      refine jm_callV (As := []) (st := []) (rv := fun _ => none) (mm := fun r => r) F dX9_couples_21 qX9_340 rfl lo_X9 rfl (fun r h => kM_findMost E hE h) rfl (Nat.le_of_ble_eq_true rfl) ⟨Nat.le_of_ble_eq_true rfl, Nat.le_of_ble_eq_true rfl⟩ (fun r4 => ?_)
      refine jm_iload_n (i := 1) F dX9_couples_24 rfl rfl ?_
      refine jm_if_ge F dX9_couples_25 (fun c5 => ?_) (fun c5 => ?_)
      · refine jm_aload_n (i := 0) F dX9_couples_42 rfl rfl ?_
        refine jm_callV (As := []) (st := []) (rv := fun _ => none) (mm := fun r => r) F dX9_couples_43 qX9_343 rfl lo_X9 rfl (fun r h => kM_findPartners E hE h) rfl (Nat.le_of_ble_eq_true rfl) ⟨Nat.le_of_ble_eq_true rfl, Nat.le_of_ble_eq_true rfl⟩ (fun r6 => ?_)
        refine jm_aload_n (i := 0) F dX9_couples_46 rfl rfl ?_
        refine jm_getR F dX9_couples_47 fl_X9_82 lo_X9 rfl ?_
        refine jm_iload_n (i := 1) F dX9_couples_50 rfl rfl ?_
        refine jm_iald F dX9_couples_51 la_X9_40 (fun v7 => ?_)
        exact jm_iret F dX9_couples_52 (fun h => h)
      · refine jm_aload_n (i := 0) F dX9_couples_28 rfl rfl ?_
        refine jm_getR F dX9_couples_29 fl_X9_79 lo_X9 rfl ?_
        refine jm_iconst F dX9_couples_32 kc_1 ?_
        refine jm_aload_n (i := 0) F dX9_couples_33 rfl rfl ?_
        refine jm_getI F dX9_couples_34 fl_X9_91 lo_X9 rfl ?_
        refine jm_ishl F dX9_couples_37 ?_
        refine jm_iconst F dX9_couples_38 kc_1 ?_
        refine jm_isub F dX9_couples_39 ?_
        refine jm_iald F dX9_couples_40 la_X9_39 (fun v8 => ?_)
        exact jm_iret F dX9_couples_41 (fun h => h)
  exact G r h hz
theorem dX9_isHeavier_0 : jm_d cX9_isHeavier 0 (.aload_n 0) 1 1 := ⟨by decide +kernel, rfl⟩
theorem dX9_isHeavier_1 : jm_d cX9_isHeavier 1 (.iload_n 1) 1 2 := ⟨by decide +kernel, rfl⟩
theorem dX9_isHeavier_2 : jm_d cX9_isHeavier 2 (.iload_n 3) 1 3 := ⟨by decide +kernel, rfl⟩
theorem dX9_isHeavier_3 : jm_d cX9_isHeavier 3 (.iload 4) 2 5 := ⟨by decide +kernel, rfl⟩
theorem dX9_isHeavier_5 : jm_d cX9_isHeavier 5 (.invokevirtual 136) 3 8 := ⟨by decide +kernel, rfl⟩
theorem dX9_isHeavier_8 : jm_d cX9_isHeavier 8 (.istore 5) 2 10 := ⟨by decide +kernel, rfl⟩
theorem dX9_isHeavier_10 : jm_d cX9_isHeavier 10 (.aload_n 0) 1 11 := ⟨by decide +kernel, rfl⟩
theorem dX9_isHeavier_11 : jm_d cX9_isHeavier 11 (.iload_n 2) 1 12 := ⟨by decide +kernel, rfl⟩
theorem dX9_isHeavier_12 : jm_d cX9_isHeavier 12 (.iload_n 3) 1 13 := ⟨by decide +kernel, rfl⟩
theorem dX9_isHeavier_13 : jm_d cX9_isHeavier 13 (.iload 4) 2 15 := ⟨by decide +kernel, rfl⟩
theorem dX9_isHeavier_15 : jm_d cX9_isHeavier 15 (.invokevirtual 136) 3 18 := ⟨by decide +kernel, rfl⟩
theorem dX9_isHeavier_18 : jm_d cX9_isHeavier 18 (.istore 6) 2 20 := ⟨by decide +kernel, rfl⟩
theorem dX9_isHeavier_20 : jm_d cX9_isHeavier 20 (.iload 5) 2 22 := ⟨by decide +kernel, rfl⟩
theorem dX9_isHeavier_22 : jm_d cX9_isHeavier 22 (.iload 6) 2 24 := ⟨by decide +kernel, rfl⟩
theorem dX9_isHeavier_24 : jm_b cX9_isHeavier 24 (.if_icmp .eq) 27 42 := ⟨18, by decide +kernel, rfl, by decide⟩
theorem dX9_isHeavier_42 : jm_d cX9_isHeavier 42 (.aload_n 0) 1 43 := ⟨by decide +kernel, rfl⟩
theorem dX9_isHeavier_43 : jm_d cX9_isHeavier 43 (.iload_n 1) 1 44 := ⟨by decide +kernel, rfl⟩
theorem dX9_isHeavier_44 : jm_d cX9_isHeavier 44 (.iload_n 2) 1 45 := ⟨by decide +kernel, rfl⟩
theorem dX9_isHeavier_45 : jm_d cX9_isHeavier 45 (.invokevirtual 146) 3 48 := ⟨by decide +kernel, rfl⟩
theorem dX9_isHeavier_48 : jm_b cX9_isHeavier 48 (.ifCond .ge) 51 55 := ⟨7, by decide +kernel, rfl, by decide⟩
theorem dX9_isHeavier_55 : jm_d cX9_isHeavier 55 (.iconst 0) 1 56 := ⟨by decide +kernel, rfl⟩
theorem dX9_isHeavier_56 : jm_d cX9_isHeavier 56 (.ireturn) 1 57 := ⟨by decide +kernel, rfl⟩
theorem dX9_isHeavier_51 : jm_d cX9_isHeavier 51 (.iconst 1) 1 52 := ⟨by decide +kernel, rfl⟩
theorem dX9_isHeavier_52 : jm_b cX9_isHeavier 52 .goto 55 56 := ⟨4, by decide +kernel, rfl, by decide⟩
theorem dX9_isHeavier_27 : jm_d cX9_isHeavier 27 (.iload 5) 2 29 := ⟨by decide +kernel, rfl⟩
theorem dX9_isHeavier_29 : jm_d cX9_isHeavier 29 (.iload 6) 2 31 := ⟨by decide +kernel, rfl⟩
theorem dX9_isHeavier_31 : jm_b cX9_isHeavier 31 (.if_icmp .le) 34 38 := ⟨7, by decide +kernel, rfl, by decide⟩
theorem dX9_isHeavier_38 : jm_d cX9_isHeavier 38 (.iconst 0) 1 39 := ⟨by decide +kernel, rfl⟩
theorem dX9_isHeavier_39 : jm_b cX9_isHeavier 39 .goto 42 56 := ⟨17, by decide +kernel, rfl, by decide⟩
theorem dX9_isHeavier_34 : jm_d cX9_isHeavier 34 (.iconst 1) 1 35 := ⟨by decide +kernel, rfl⟩
theorem dX9_isHeavier_35 : jm_b cX9_isHeavier 35 .goto 38 56 := ⟨21, by decide +kernel, rfl, by decide⟩
set_option maxHeartbeats 4000000 in
set_option maxRecDepth 100000 in
theorem kM_isHeavier (E : jm_Ev) (hE : jm_dj E jm_LM) {M : jm_M} {p1 : Int32} {p2 : Int32} {p3 : Int32} {p4 : Int32}  {r : Int32} (h : sM_isHeavier M p1 p2 p3 p4 = some r) : jm_Ct E jm_LM yX9_isHeavier cX9_isHeavier 7 (some .boolean) 4 93 [.ref (jm_a E 0 0), .int p1, .int p2, .int p3, .int p4] M (some (.int r)) M := by
  refine jm_enter (lv := [some (.ref (jm_a E 0 0)), some (.int p1), some (.int p2), some (.int p3), some (.int p4), none, none]) hE (by decide) (Nat.le_of_ble_eq_true rfl) rfl ?_
  intro z w F hz
  have G : jm_G w 0 [some (.ref (jm_a E 0 0)), some (.int p1), some (.int p2), some (.int p3), some (.int p4), none, none] [] M (sM_isHeavier M p1 p2 p3 p4) (fun e => z (some (.int e)) M) := by
    unfold sM_isHeavier
    refine jm_aload_n (i := 0) F dX9_isHeavier_0 rfl rfl ?_
    refine jm_iload_n (i := 1) F dX9_isHeavier_1 rfl rfl ?_
    refine jm_iload_n (i := 3) F dX9_isHeavier_2 rfl rfl ?_
    refine jm_iload F dX9_isHeavier_3 rfl ?_
    refine jm_callV (As := [.int p1, .int p3, .int p4]) (st := []) (rv := fun r => some (.int r)) (mm := fun _ => M) F dX9_isHeavier_5 qX9_136 rfl lo_X9 rfl (fun r h => kM_comesTo E hE h) rfl (Nat.le_of_ble_eq_true rfl) ⟨Nat.le_of_ble_eq_true rfl, Nat.le_of_ble_eq_true rfl⟩ (fun r1 => ?_)
    refine jm_istore (i := 5) (lv' := [some (.ref (jm_a E 0 0)), some (.int p1), some (.int p2), some (.int p3), some (.int p4), some (.int r1), none]) F dX9_isHeavier_8 (by decide) rfl rfl ?_
    refine jm_aload_n (i := 0) F dX9_isHeavier_10 rfl rfl ?_
    refine jm_iload_n (i := 2) F dX9_isHeavier_11 rfl rfl ?_
    refine jm_iload_n (i := 3) F dX9_isHeavier_12 rfl rfl ?_
    refine jm_iload F dX9_isHeavier_13 rfl ?_
    refine jm_callV (As := [.int p2, .int p3, .int p4]) (st := []) (rv := fun r => some (.int r)) (mm := fun _ => M) F dX9_isHeavier_15 qX9_136 rfl lo_X9 rfl (fun r h => kM_comesTo E hE h) rfl (Nat.le_of_ble_eq_true rfl) ⟨Nat.le_of_ble_eq_true rfl, Nat.le_of_ble_eq_true rfl⟩ (fun r2 => ?_)
    refine jm_istore (i := 6) (lv' := [some (.ref (jm_a E 0 0)), some (.int p1), some (.int p2), some (.int p3), some (.int p4), some (.int r1), some (.int r2)]) F dX9_isHeavier_18 (by decide) rfl rfl ?_
    refine jm_iload F dX9_isHeavier_20 rfl ?_
    refine jm_iload F dX9_isHeavier_22 rfl ?_
    refine jm_icmp_eq F dX9_isHeavier_24 (fun c3 => ?_) (fun c3 => ?_)
    · refine jm_aload_n (i := 0) F dX9_isHeavier_42 rfl rfl ?_
      refine jm_iload_n (i := 1) F dX9_isHeavier_43 rfl rfl ?_
      refine jm_iload_n (i := 2) F dX9_isHeavier_44 rfl rfl ?_
      refine jm_callV (As := [.int p1, .int p2]) (st := []) (rv := fun r => some (.int r)) (mm := fun _ => M) F dX9_isHeavier_45 qX9_146 rfl lo_X9 rfl (fun r h => kM_compares E hE h) rfl (Nat.le_of_ble_eq_true rfl) ⟨Nat.le_of_ble_eq_true rfl, Nat.le_of_ble_eq_true rfl⟩ (fun r4 => ?_)
      refine jm_if_ge F dX9_isHeavier_48 (fun c5 => ?_) (fun c5 => ?_)
      · refine jm_iconst F dX9_isHeavier_55 kc_0 ?_
        exact jm_zret F dX9_isHeavier_56 (Or.inl rfl) (fun h => h)
      · refine jm_iconst F dX9_isHeavier_51 kc_1 ?_
        refine jm_goto F dX9_isHeavier_52 ?_
        exact jm_zret F dX9_isHeavier_56 (Or.inr rfl) (fun h => h)
    · refine jm_iload F dX9_isHeavier_27 rfl ?_
      refine jm_iload F dX9_isHeavier_29 rfl ?_
      refine jm_icmp_le F dX9_isHeavier_31 (fun c6 => ?_) (fun c6 => ?_)
      · refine jm_iconst F dX9_isHeavier_38 kc_0 ?_
        refine jm_goto F dX9_isHeavier_39 ?_
        exact jm_zret F dX9_isHeavier_56 (Or.inl rfl) (fun h => h)
      · refine jm_iconst F dX9_isHeavier_34 kc_1 ?_
        refine jm_goto F dX9_isHeavier_35 ?_
        exact jm_zret F dX9_isHeavier_56 (Or.inr rfl) (fun h => h)
  exact G r h hz
theorem dX9_heavierThan_0 : jm_d cX9_heavierThan 0 (.iconst 0) 1 1 := ⟨by decide +kernel, rfl⟩
theorem dX9_heavierThan_1 : jm_d cX9_heavierThan 1 (.istore 4) 2 3 := ⟨by decide +kernel, rfl⟩
theorem dX9_heavierThan_3 : jm_d cX9_heavierThan 3 (.iconst 0) 1 4 := ⟨by decide +kernel, rfl⟩
theorem dX9_heavierThan_4 : jm_d cX9_heavierThan 4 (.istore 5) 2 6 := ⟨by decide +kernel, rfl⟩
theorem dX9_heavierThan_6 : jm_d cX9_heavierThan 6 (.iload 5) 2 8 := ⟨by decide +kernel, rfl⟩
theorem dX9_heavierThan_8 : jm_d cX9_heavierThan 8 (.aload_n 0) 1 9 := ⟨by decide +kernel, rfl⟩
theorem dX9_heavierThan_9 : jm_d cX9_heavierThan 9 (.getfield 106) 3 12 := ⟨by decide +kernel, rfl⟩
theorem dX9_heavierThan_12 : jm_b cX9_heavierThan 12 (.if_icmp .ge) 15 60 := ⟨48, by decide +kernel, rfl, by decide⟩
theorem dX9_heavierThan_15 : jm_d cX9_heavierThan 15 (.iload 4) 2 17 := ⟨by decide +kernel, rfl⟩
theorem dX9_heavierThan_17 : jm_d cX9_heavierThan 17 (.iload 5) 2 19 := ⟨by decide +kernel, rfl⟩
theorem dX9_heavierThan_19 : jm_d cX9_heavierThan 19 (.iload_n 1) 1 20 := ⟨by decide +kernel, rfl⟩
theorem dX9_heavierThan_20 : jm_b cX9_heavierThan 20 (.if_icmp .eq) 23 50 := ⟨30, by decide +kernel, rfl, by decide⟩
theorem dX9_heavierThan_50 : jm_d cX9_heavierThan 50 (.iconst 0) 1 51 := ⟨by decide +kernel, rfl⟩
theorem dX9_heavierThan_51 : jm_d cX9_heavierThan 51 (.iadd) 1 52 := ⟨by decide +kernel, rfl⟩
theorem dX9_heavierThan_52 : jm_d cX9_heavierThan 52 (.istore 4) 2 54 := ⟨by decide +kernel, rfl⟩
theorem dX9_heavierThan_54 : jm_d cX9_heavierThan 54 (.iinc 5 1) 3 57 := ⟨by decide +kernel, rfl⟩
theorem dX9_heavierThan_57 : jm_b cX9_heavierThan 57 .goto 60 6 := ⟨(-51), by decide +kernel, rfl, by decide⟩
theorem dX9_heavierThan_23 : jm_d cX9_heavierThan 23 (.aload_n 0) 1 24 := ⟨by decide +kernel, rfl⟩
theorem dX9_heavierThan_24 : jm_d cX9_heavierThan 24 (.iload 5) 2 26 := ⟨by decide +kernel, rfl⟩
theorem dX9_heavierThan_26 : jm_d cX9_heavierThan 26 (.iload_n 2) 1 27 := ⟨by decide +kernel, rfl⟩
theorem dX9_heavierThan_27 : jm_d cX9_heavierThan 27 (.iload_n 3) 1 28 := ⟨by decide +kernel, rfl⟩
theorem dX9_heavierThan_28 : jm_d cX9_heavierThan 28 (.invokevirtual 129) 3 31 := ⟨by decide +kernel, rfl⟩
theorem dX9_heavierThan_31 : jm_b cX9_heavierThan 31 (.ifCond .eq) 34 50 := ⟨19, by decide +kernel, rfl, by decide⟩
theorem dX9_heavierThan_34 : jm_d cX9_heavierThan 34 (.aload_n 0) 1 35 := ⟨by decide +kernel, rfl⟩
theorem dX9_heavierThan_35 : jm_d cX9_heavierThan 35 (.iload 5) 2 37 := ⟨by decide +kernel, rfl⟩
theorem dX9_heavierThan_37 : jm_d cX9_heavierThan 37 (.iload_n 1) 1 38 := ⟨by decide +kernel, rfl⟩
theorem dX9_heavierThan_38 : jm_d cX9_heavierThan 38 (.iload_n 2) 1 39 := ⟨by decide +kernel, rfl⟩
theorem dX9_heavierThan_39 : jm_d cX9_heavierThan 39 (.iload_n 3) 1 40 := ⟨by decide +kernel, rfl⟩
theorem dX9_heavierThan_40 : jm_d cX9_heavierThan 40 (.invokevirtual 346) 3 43 := ⟨by decide +kernel, rfl⟩
theorem dX9_heavierThan_43 : jm_b cX9_heavierThan 43 (.ifCond .eq) 46 50 := ⟨7, by decide +kernel, rfl, by decide⟩
theorem dX9_heavierThan_46 : jm_d cX9_heavierThan 46 (.iconst 1) 1 47 := ⟨by decide +kernel, rfl⟩
theorem dX9_heavierThan_47 : jm_b cX9_heavierThan 47 .goto 50 51 := ⟨4, by decide +kernel, rfl, by decide⟩
theorem dX9_heavierThan_60 : jm_d cX9_heavierThan 60 (.iload 4) 2 62 := ⟨by decide +kernel, rfl⟩
theorem dX9_heavierThan_62 : jm_d cX9_heavierThan 62 (.ireturn) 1 63 := ⟨by decide +kernel, rfl⟩
set_option maxHeartbeats 4000000 in
set_option maxRecDepth 100000 in
theorem kM_heavierThan (E : jm_Ev) (hE : jm_dj E jm_LM) {M : jm_M} {p1 : Int32} {p2 : Int32} {p3 : Int32}  {r : Int32} (h : sM_heavierThan M p1 p2 p3 = some r) : jm_Ct E jm_LM yX9_heavierThan cX9_heavierThan 6 (some .int) 5 119 [.ref (jm_a E 0 0), .int p1, .int p2, .int p3] M (some (.int r)) M := by
  refine jm_enter (lv := [some (.ref (jm_a E 0 0)), some (.int p1), some (.int p2), some (.int p3), none, none]) hE (by decide) (Nat.le_of_ble_eq_true rfl) rfl ?_
  intro z w F hz
  have G : jm_G w 0 [some (.ref (jm_a E 0 0)), some (.int p1), some (.int p2), some (.int p3), none, none] [] M (sM_heavierThan M p1 p2 p3) (fun e => z (some (.int e)) M) := by
    unfold sM_heavierThan
    refine jm_iconst F dX9_heavierThan_0 kc_0 ?_
    refine jm_istore (i := 4) (lv' := [some (.ref (jm_a E 0 0)), some (.int p1), some (.int p2), some (.int p3), some (.int 0), none]) F dX9_heavierThan_1 (by decide) rfl rfl ?_
    refine jm_iconst F dX9_heavierThan_3 kc_0 ?_
    refine jm_istore (i := 5) (lv' := [some (.ref (jm_a E 0 0)), some (.int p1), some (.int p2), some (.int p3), some (.int 0), some (.int 0)]) F dX9_heavierThan_4 (by decide) rfl rfl ?_
    refine jm_bind (pcJ := 60) (lvJ := fun e12 => [none, none, none, none, some (.int e12), none]) (stJ := fun _ => []) (MJ := fun e12 => M) ?_ (fun e12 => ?_)
    · refine jm_weak F (lv' := [some (.ref (jm_a E 0 0)), some (.int p1), some (.int p2), some (.int p3), some (.int 0), some (.int 0)]) ⟨rfl, rfl, rfl, rfl, rfl, rfl, trivial⟩ ?_
      refine jm_loopR (lvH := fun s1 => [some (.ref (jm_a E 0 0)), some (.int p1), some (.int p2), some (.int p3), some (.int s1.1), some (.int s1.2)]) (MH := fun s1 => M) (fun s1 => ?_) jm_N (0, 0)
      unfold sM_heavierThan_L6
      refine jm_iload F dX9_heavierThan_6 rfl ?_
      refine jm_aload_n (i := 0) F dX9_heavierThan_8 rfl rfl ?_
      refine jm_getI F dX9_heavierThan_9 fl_X9_106 lo_X9 rfl ?_
      refine jm_icmp_ge F dX9_heavierThan_12 (fun c2 => ?_) (fun c2 => ?_)
      · exact jm_weakD F (lv' := [none, none, none, none, some (.int s1.1), none]) ⟨rfl, trivial⟩ (fun h => h)
      · refine jm_iload F dX9_heavierThan_15 rfl ?_
        refine jm_iload F dX9_heavierThan_17 rfl ?_
        refine jm_iload_n (i := 1) F dX9_heavierThan_19 rfl rfl ?_
        refine jm_icmp_eq F dX9_heavierThan_20 (fun c3 => ?_) (fun c3 => ?_)
        · refine jm_iconst F dX9_heavierThan_50 kc_0 ?_
          refine jm_iadd F dX9_heavierThan_51 ?_
          refine jm_nameI (f := fun x4 => [.int x4]) (fun x4 => ?_) rfl
          refine jm_istore (i := 4) (lv' := [some (.ref (jm_a E 0 0)), some (.int p1), some (.int p2), some (.int p3), some (.int x4), some (.int s1.2)]) F dX9_heavierThan_52 (by decide) rfl rfl ?_
          refine jm_iinc (i := 5) (lv' := [some (.ref (jm_a E 0 0)), some (.int p1), some (.int p2), some (.int p3), some (.int x4), some (.int (s1.2 + 1))]) F dX9_heavierThan_54 kc_1 rfl (by decide) rfl rfl ?_
          refine jm_goto F dX9_heavierThan_57 ?_
          exact jm_weakD F (lv' := [some (.ref (jm_a E 0 0)), some (.int p1), some (.int p2), some (.int p3), some (.int x4), some (.int (s1.2 + 1))]) ⟨rfl, rfl, rfl, rfl, rfl, rfl, trivial⟩ (fun h => h)
        · refine jm_aload_n (i := 0) F dX9_heavierThan_23 rfl rfl ?_
          refine jm_iload F dX9_heavierThan_24 rfl ?_
          refine jm_iload_n (i := 2) F dX9_heavierThan_26 rfl rfl ?_
          refine jm_iload_n (i := 3) F dX9_heavierThan_27 rfl rfl ?_
          refine jm_callV (As := [.int s1.2, .int p2, .int p3]) (st := [.int s1.1]) (rv := fun r => some (.int r)) (mm := fun _ => M) F dX9_heavierThan_28 qX9_129 rfl lo_X9 rfl (fun r h => kM_isHeld E hE h) rfl (Nat.le_of_ble_eq_true rfl) ⟨Nat.le_of_ble_eq_true rfl, Nat.le_of_ble_eq_true rfl⟩ (fun r5 => ?_)
          refine jm_if_eq F dX9_heavierThan_31 (fun c6 => ?_) (fun c6 => ?_)
          · refine jm_iconst F dX9_heavierThan_50 kc_0 ?_
            refine jm_iadd F dX9_heavierThan_51 ?_
            refine jm_nameI (f := fun x7 => [.int x7]) (fun x7 => ?_) rfl
            refine jm_istore (i := 4) (lv' := [some (.ref (jm_a E 0 0)), some (.int p1), some (.int p2), some (.int p3), some (.int x7), some (.int s1.2)]) F dX9_heavierThan_52 (by decide) rfl rfl ?_
            refine jm_iinc (i := 5) (lv' := [some (.ref (jm_a E 0 0)), some (.int p1), some (.int p2), some (.int p3), some (.int x7), some (.int (s1.2 + 1))]) F dX9_heavierThan_54 kc_1 rfl (by decide) rfl rfl ?_
            refine jm_goto F dX9_heavierThan_57 ?_
            exact jm_weakD F (lv' := [some (.ref (jm_a E 0 0)), some (.int p1), some (.int p2), some (.int p3), some (.int x7), some (.int (s1.2 + 1))]) ⟨rfl, rfl, rfl, rfl, rfl, rfl, trivial⟩ (fun h => h)
          · refine jm_aload_n (i := 0) F dX9_heavierThan_34 rfl rfl ?_
            refine jm_iload F dX9_heavierThan_35 rfl ?_
            refine jm_iload_n (i := 1) F dX9_heavierThan_37 rfl rfl ?_
            refine jm_iload_n (i := 2) F dX9_heavierThan_38 rfl rfl ?_
            refine jm_iload_n (i := 3) F dX9_heavierThan_39 rfl rfl ?_
            refine jm_callV (As := [.int s1.2, .int p1, .int p2, .int p3]) (st := [.int s1.1]) (rv := fun r => some (.int r)) (mm := fun _ => M) F dX9_heavierThan_40 qX9_346 rfl lo_X9 rfl (fun r h => kM_isHeavier E hE h) rfl (Nat.le_of_ble_eq_true rfl) ⟨Nat.le_of_ble_eq_true rfl, Nat.le_of_ble_eq_true rfl⟩ (fun r8 => ?_)
            refine jm_if_eq F dX9_heavierThan_43 (fun c9 => ?_) (fun c9 => ?_)
            · refine jm_iconst F dX9_heavierThan_50 kc_0 ?_
              refine jm_iadd F dX9_heavierThan_51 ?_
              refine jm_nameI (f := fun x10 => [.int x10]) (fun x10 => ?_) rfl
              refine jm_istore (i := 4) (lv' := [some (.ref (jm_a E 0 0)), some (.int p1), some (.int p2), some (.int p3), some (.int x10), some (.int s1.2)]) F dX9_heavierThan_52 (by decide) rfl rfl ?_
              refine jm_iinc (i := 5) (lv' := [some (.ref (jm_a E 0 0)), some (.int p1), some (.int p2), some (.int p3), some (.int x10), some (.int (s1.2 + 1))]) F dX9_heavierThan_54 kc_1 rfl (by decide) rfl rfl ?_
              refine jm_goto F dX9_heavierThan_57 ?_
              exact jm_weakD F (lv' := [some (.ref (jm_a E 0 0)), some (.int p1), some (.int p2), some (.int p3), some (.int x10), some (.int (s1.2 + 1))]) ⟨rfl, rfl, rfl, rfl, rfl, rfl, trivial⟩ (fun h => h)
            · refine jm_iconst F dX9_heavierThan_46 kc_1 ?_
              refine jm_goto F dX9_heavierThan_47 ?_
              refine jm_iadd F dX9_heavierThan_51 ?_
              refine jm_nameI (f := fun x11 => [.int x11]) (fun x11 => ?_) rfl
              refine jm_istore (i := 4) (lv' := [some (.ref (jm_a E 0 0)), some (.int p1), some (.int p2), some (.int p3), some (.int x11), some (.int s1.2)]) F dX9_heavierThan_52 (by decide) rfl rfl ?_
              refine jm_iinc (i := 5) (lv' := [some (.ref (jm_a E 0 0)), some (.int p1), some (.int p2), some (.int p3), some (.int x11), some (.int (s1.2 + 1))]) F dX9_heavierThan_54 kc_1 rfl (by decide) rfl rfl ?_
              refine jm_goto F dX9_heavierThan_57 ?_
              exact jm_weakD F (lv' := [some (.ref (jm_a E 0 0)), some (.int p1), some (.int p2), some (.int p3), some (.int x11), some (.int (s1.2 + 1))]) ⟨rfl, rfl, rfl, rfl, rfl, rfl, trivial⟩ (fun h => h)
    · refine jm_iload F dX9_heavierThan_60 rfl ?_
      exact jm_iret F dX9_heavierThan_62 (fun h => h)
  exact G r h hz
theorem dX9_heaviest_0 : jm_d cX9_heaviest 0 (.aload_n 0) 1 1 := ⟨by decide +kernel, rfl⟩
theorem dX9_heaviest_1 : jm_d cX9_heaviest 1 (.iload_n 1) 1 2 := ⟨by decide +kernel, rfl⟩
theorem dX9_heaviest_2 : jm_d cX9_heaviest 2 (.iload_n 2) 1 3 := ⟨by decide +kernel, rfl⟩
theorem dX9_heaviest_3 : jm_d cX9_heaviest 3 (.invokevirtual 301) 3 6 := ⟨by decide +kernel, rfl⟩
theorem dX9_heaviest_6 : jm_b cX9_heaviest 6 (.ifCond .ne) 9 13 := ⟨7, by decide +kernel, rfl, by decide⟩
theorem dX9_heaviest_9 : jm_d cX9_heaviest 9 (.iconst (-1)) 1 10 := ⟨by decide +kernel, rfl⟩
theorem dX9_heaviest_10 : jm_b cX9_heaviest 10 .goto 13 23 := ⟨13, by decide +kernel, rfl, by decide⟩
theorem dX9_heaviest_13 : jm_d cX9_heaviest 13 (.iload_n 3) 1 14 := ⟨by decide +kernel, rfl⟩
theorem dX9_heaviest_14 : jm_b cX9_heaviest 14 (.ifCond .ge) 17 22 := ⟨8, by decide +kernel, rfl, by decide⟩
theorem dX9_heaviest_22 : jm_d cX9_heaviest 22 (.iconst 0) 1 23 := ⟨by decide +kernel, rfl⟩
theorem dX9_heaviest_17 : jm_d cX9_heaviest 17 (.bipush (-4)) 2 19 := ⟨by decide +kernel, rfl⟩
theorem dX9_heaviest_19 : jm_b cX9_heaviest 19 .goto 22 23 := ⟨4, by decide +kernel, rfl, by decide⟩
theorem dX9_heaviest_23 : jm_d cX9_heaviest 23 (.istore 4) 2 25 := ⟨by decide +kernel, rfl⟩
theorem dX9_heaviest_25 : jm_d cX9_heaviest 25 (.iload 4) 2 27 := ⟨by decide +kernel, rfl⟩
theorem dX9_heaviest_27 : jm_b cX9_heaviest 27 (.ifCond .eq) 30 37 := ⟨10, by decide +kernel, rfl, by decide⟩
theorem dX9_heaviest_37 : jm_d cX9_heaviest 37 (.iconst 0) 1 38 := ⟨by decide +kernel, rfl⟩
theorem dX9_heaviest_38 : jm_d cX9_heaviest 38 (.istore 5) 2 40 := ⟨by decide +kernel, rfl⟩
theorem dX9_heaviest_40 : jm_d cX9_heaviest 40 (.iload 5) 2 42 := ⟨by decide +kernel, rfl⟩
theorem dX9_heaviest_42 : jm_d cX9_heaviest 42 (.aload_n 0) 1 43 := ⟨by decide +kernel, rfl⟩
theorem dX9_heaviest_43 : jm_d cX9_heaviest 43 (.getfield 106) 3 46 := ⟨by decide +kernel, rfl⟩
theorem dX9_heaviest_46 : jm_b cX9_heaviest 46 (.if_icmp .ge) 49 81 := ⟨35, by decide +kernel, rfl, by decide⟩
theorem dX9_heaviest_49 : jm_d cX9_heaviest 49 (.aload_n 0) 1 50 := ⟨by decide +kernel, rfl⟩
theorem dX9_heaviest_50 : jm_d cX9_heaviest 50 (.iload 5) 2 52 := ⟨by decide +kernel, rfl⟩
theorem dX9_heaviest_52 : jm_d cX9_heaviest 52 (.iload_n 1) 1 53 := ⟨by decide +kernel, rfl⟩
theorem dX9_heaviest_53 : jm_d cX9_heaviest 53 (.iload_n 2) 1 54 := ⟨by decide +kernel, rfl⟩
theorem dX9_heaviest_54 : jm_d cX9_heaviest 54 (.invokevirtual 129) 3 57 := ⟨by decide +kernel, rfl⟩
theorem dX9_heaviest_57 : jm_b cX9_heaviest 57 (.ifCond .eq) 60 75 := ⟨18, by decide +kernel, rfl, by decide⟩
theorem dX9_heaviest_75 : jm_d cX9_heaviest 75 (.iinc 5 1) 3 78 := ⟨by decide +kernel, rfl⟩
theorem dX9_heaviest_78 : jm_b cX9_heaviest 78 .goto 81 40 := ⟨(-38), by decide +kernel, rfl, by decide⟩
theorem dX9_heaviest_60 : jm_d cX9_heaviest 60 (.aload_n 0) 1 61 := ⟨by decide +kernel, rfl⟩
theorem dX9_heaviest_61 : jm_d cX9_heaviest 61 (.iload 5) 2 63 := ⟨by decide +kernel, rfl⟩
theorem dX9_heaviest_63 : jm_d cX9_heaviest 63 (.iload_n 1) 1 64 := ⟨by decide +kernel, rfl⟩
theorem dX9_heaviest_64 : jm_d cX9_heaviest 64 (.iload_n 2) 1 65 := ⟨by decide +kernel, rfl⟩
theorem dX9_heaviest_65 : jm_d cX9_heaviest 65 (.invokevirtual 350) 3 68 := ⟨by decide +kernel, rfl⟩
theorem dX9_heaviest_68 : jm_d cX9_heaviest 68 (.iload_n 3) 1 69 := ⟨by decide +kernel, rfl⟩
theorem dX9_heaviest_69 : jm_b cX9_heaviest 69 (.if_icmp .ne) 72 75 := ⟨6, by decide +kernel, rfl, by decide⟩
theorem dX9_heaviest_72 : jm_d cX9_heaviest 72 (.iload 5) 2 74 := ⟨by decide +kernel, rfl⟩
theorem dX9_heaviest_74 : jm_d cX9_heaviest 74 (.ireturn) 1 75 := ⟨by decide +kernel, rfl⟩
theorem dX9_heaviest_81 : jm_d cX9_heaviest 81 (.bipush (-9)) 2 83 := ⟨by decide +kernel, rfl⟩
theorem dX9_heaviest_83 : jm_d cX9_heaviest 83 (.ireturn) 1 84 := ⟨by decide +kernel, rfl⟩
theorem dX9_heaviest_30 : jm_d cX9_heaviest 30 (.aload_n 0) 1 31 := ⟨by decide +kernel, rfl⟩
theorem dX9_heaviest_31 : jm_d cX9_heaviest 31 (.iload 4) 2 33 := ⟨by decide +kernel, rfl⟩
theorem dX9_heaviest_33 : jm_d cX9_heaviest 33 (.invokevirtual 172) 3 36 := ⟨by decide +kernel, rfl⟩
theorem dX9_heaviest_36 : jm_d cX9_heaviest 36 (.ireturn) 1 37 := ⟨by decide +kernel, rfl⟩
set_option maxHeartbeats 4000000 in
set_option maxRecDepth 100000 in
theorem kM_heaviest (E : jm_Ev) (hE : jm_dj E jm_LM) {M : jm_M} {p1 : Int32} {p2 : Int32} {p3 : Int32}  {r : Int32 × jm_M} (h : sM_heaviest M p1 p2 p3 = some r) : jm_Ct E jm_LM yX9_heaviest cX9_heaviest 6 (some .int) 6 144 [.ref (jm_a E 0 0), .int p1, .int p2, .int p3] M (some (.int r.1)) r.2 := by
  refine jm_enter (lv := [some (.ref (jm_a E 0 0)), some (.int p1), some (.int p2), some (.int p3), none, none]) hE (by decide) (Nat.le_of_ble_eq_true rfl) rfl ?_
  intro z w F hz
  have G : jm_G w 0 [some (.ref (jm_a E 0 0)), some (.int p1), some (.int p2), some (.int p3), none, none] [] M (sM_heaviest M p1 p2 p3) (fun e => z (some (.int e.1)) e.2) := by
    unfold sM_heaviest
    refine jm_aload_n (i := 0) F dX9_heaviest_0 rfl rfl ?_
    refine jm_iload_n (i := 1) F dX9_heaviest_1 rfl rfl ?_
    refine jm_iload_n (i := 2) F dX9_heaviest_2 rfl rfl ?_
    refine jm_callV (As := [.int p1, .int p2]) (st := []) (rv := fun r => some (.int r)) (mm := fun _ => M) F dX9_heaviest_3 qX9_301 rfl lo_X9 rfl (fun r h => kM_areTwo E hE h) rfl (Nat.le_of_ble_eq_true rfl) ⟨Nat.le_of_ble_eq_true rfl, Nat.le_of_ble_eq_true rfl⟩ (fun r1 => ?_)
    refine jm_bind (pcJ := 23) (lvJ := fun e2 => [some (.ref (jm_a E 0 0)), some (.int p1), some (.int p2), some (.int p3), none, none]) (stJ := fun e2 => [.int e2]) (MJ := fun e2 => M) ?_ (fun e2 => ?_)
    · refine jm_if_ne F dX9_heaviest_6 (fun c3 => ?_) (fun c3 => ?_)
      · refine jm_iconst F dX9_heaviest_9 kc_m1 ?_
        refine jm_goto F dX9_heaviest_10 ?_
        exact jm_weakD F (lv' := [some (.ref (jm_a E 0 0)), some (.int p1), some (.int p2), some (.int p3), none, none]) ⟨rfl, rfl, rfl, rfl, trivial⟩ (fun h => h)
      · refine jm_iload_n (i := 3) F dX9_heaviest_13 rfl rfl ?_
        refine jm_if_ge F dX9_heaviest_14 (fun c4 => ?_) (fun c4 => ?_)
        · refine jm_iconst F dX9_heaviest_22 kc_0 ?_
          exact jm_weakD F (lv' := [some (.ref (jm_a E 0 0)), some (.int p1), some (.int p2), some (.int p3), none, none]) ⟨rfl, rfl, rfl, rfl, trivial⟩ (fun h => h)
        · refine jm_bipush F dX9_heaviest_17 kb_m4 ?_
          refine jm_goto F dX9_heaviest_19 ?_
          exact jm_weakD F (lv' := [some (.ref (jm_a E 0 0)), some (.int p1), some (.int p2), some (.int p3), none, none]) ⟨rfl, rfl, rfl, rfl, trivial⟩ (fun h => h)
    · refine jm_istore (i := 4) (lv' := [some (.ref (jm_a E 0 0)), some (.int p1), some (.int p2), some (.int p3), some (.int e2), none]) F dX9_heaviest_23 (by decide) rfl rfl ?_
      refine jm_iload F dX9_heaviest_25 rfl ?_
      refine jm_if_eq F dX9_heaviest_27 (fun c5 => ?_) (fun c5 => ?_)
      · refine jm_iconst F dX9_heaviest_37 kc_0 ?_
        refine jm_istore (i := 5) (lv' := [some (.ref (jm_a E 0 0)), some (.int p1), some (.int p2), some (.int p3), some (.int e2), some (.int 0)]) F dX9_heaviest_38 (by decide) rfl rfl ?_
        refine jm_bindS (pcJ := 81) (lvJ := fun e12 => [none, none, none, none, none, none]) (stJ := fun _ => []) (MJ := fun e12 => M) ?_ (fun e12 => ?_)
        · refine jm_weak F (lv' := [some (.ref (jm_a E 0 0)), some (.int p1), some (.int p2), some (.int p3), none, some (.int 0)]) ⟨rfl, rfl, rfl, rfl, rfl, trivial⟩ ?_
          refine jm_loopR (lvH := fun s6 => [some (.ref (jm_a E 0 0)), some (.int p1), some (.int p2), some (.int p3), none, some (.int s6)]) (MH := fun s6 => M) (fun s6 => ?_) jm_N 0
          unfold sM_heaviest_L40
          refine jm_iload F dX9_heaviest_40 rfl ?_
          refine jm_aload_n (i := 0) F dX9_heaviest_42 rfl rfl ?_
          refine jm_getI F dX9_heaviest_43 fl_X9_106 lo_X9 rfl ?_
          refine jm_icmp_ge F dX9_heaviest_46 (fun c7 => ?_) (fun c7 => ?_)
          · exact jm_weakD F (lv' := [none, none, none, none, none, none]) trivial (fun h => h)
          · refine jm_aload_n (i := 0) F dX9_heaviest_49 rfl rfl ?_
            refine jm_iload F dX9_heaviest_50 rfl ?_
            refine jm_iload_n (i := 1) F dX9_heaviest_52 rfl rfl ?_
            refine jm_iload_n (i := 2) F dX9_heaviest_53 rfl rfl ?_
            refine jm_callV (As := [.int s6, .int p1, .int p2]) (st := []) (rv := fun r => some (.int r)) (mm := fun _ => M) F dX9_heaviest_54 qX9_129 rfl lo_X9 rfl (fun r h => kM_isHeld E hE h) rfl (Nat.le_of_ble_eq_true rfl) ⟨Nat.le_of_ble_eq_true rfl, Nat.le_of_ble_eq_true rfl⟩ (fun r8 => ?_)
            refine jm_if_eq F dX9_heaviest_57 (fun c9 => ?_) (fun c9 => ?_)
            · refine jm_iinc (i := 5) (lv' := [some (.ref (jm_a E 0 0)), some (.int p1), some (.int p2), some (.int p3), none, some (.int (s6 + 1))]) F dX9_heaviest_75 kc_1 rfl (by decide) rfl rfl ?_
              refine jm_goto F dX9_heaviest_78 ?_
              exact jm_weakD F (lv' := [some (.ref (jm_a E 0 0)), some (.int p1), some (.int p2), some (.int p3), none, some (.int (s6 + 1))]) ⟨rfl, rfl, rfl, rfl, rfl, trivial⟩ (fun h => h)
            · refine jm_aload_n (i := 0) F dX9_heaviest_60 rfl rfl ?_
              refine jm_iload F dX9_heaviest_61 rfl ?_
              refine jm_iload_n (i := 1) F dX9_heaviest_63 rfl rfl ?_
              refine jm_iload_n (i := 2) F dX9_heaviest_64 rfl rfl ?_
              refine jm_callV (As := [.int s6, .int p1, .int p2]) (st := []) (rv := fun r => some (.int r)) (mm := fun _ => M) F dX9_heaviest_65 qX9_350 rfl lo_X9 rfl (fun r h => kM_heavierThan E hE h) rfl (Nat.le_of_ble_eq_true rfl) ⟨Nat.le_of_ble_eq_true rfl, Nat.le_of_ble_eq_true rfl⟩ (fun r10 => ?_)
              refine jm_iload_n (i := 3) F dX9_heaviest_68 rfl rfl ?_
              refine jm_icmp_ne F dX9_heaviest_69 (fun c11 => ?_) (fun c11 => ?_)
              · refine jm_iload F dX9_heaviest_72 rfl ?_
                exact jm_iret F dX9_heaviest_74 (fun h => h)
              · refine jm_iinc (i := 5) (lv' := [some (.ref (jm_a E 0 0)), some (.int p1), some (.int p2), some (.int p3), none, some (.int (s6 + 1))]) F dX9_heaviest_75 kc_1 rfl (by decide) rfl rfl ?_
                refine jm_goto F dX9_heaviest_78 ?_
                exact jm_weakD F (lv' := [some (.ref (jm_a E 0 0)), some (.int p1), some (.int p2), some (.int p3), none, some (.int (s6 + 1))]) ⟨rfl, rfl, rfl, rfl, rfl, trivial⟩ (fun h => h)
        · refine jm_bipush F dX9_heaviest_81 kb_m9 ?_
          exact jm_iret F dX9_heaviest_83 (fun h => h)
      · refine jm_aload_n (i := 0) F dX9_heaviest_30 rfl rfl ?_
        refine jm_iload F dX9_heaviest_31 rfl ?_
        refine jm_callV (As := [.int e2]) (st := []) (rv := fun r => some (.int r.1)) (mm := fun r => r.2) F dX9_heaviest_33 qX9_172 rfl lo_X9 rfl (fun r h => kM_no E hE h) rfl (Nat.le_of_ble_eq_true rfl) ⟨Nat.le_of_ble_eq_true rfl, Nat.le_of_ble_eq_true rfl⟩ (fun r13 => ?_)
        exact jm_iret F dX9_heaviest_36 (fun h => h)
  exact G r h hz
theorem dX9_wasSo_0 : jm_d cX9_wasSo 0 (.iconst 0) 1 1 := ⟨by decide +kernel, rfl⟩
theorem dX9_wasSo_1 : jm_d cX9_wasSo 1 (.istore_n 3) 1 2 := ⟨by decide +kernel, rfl⟩
theorem dX9_wasSo_2 : jm_d cX9_wasSo 2 (.iload_n 3) 1 3 := ⟨by decide +kernel, rfl⟩
theorem dX9_wasSo_3 : jm_d cX9_wasSo 3 (.aload_n 0) 1 4 := ⟨by decide +kernel, rfl⟩
theorem dX9_wasSo_4 : jm_d cX9_wasSo 4 (.getfield 353) 3 7 := ⟨by decide +kernel, rfl⟩
theorem dX9_wasSo_7 : jm_b cX9_wasSo 7 (.if_icmp .ge) 10 37 := ⟨30, by decide +kernel, rfl, by decide⟩
theorem dX9_wasSo_10 : jm_d cX9_wasSo 10 (.aload_n 0) 1 11 := ⟨by decide +kernel, rfl⟩
theorem dX9_wasSo_11 : jm_d cX9_wasSo 11 (.iload_n 1) 1 12 := ⟨by decide +kernel, rfl⟩
theorem dX9_wasSo_12 : jm_d cX9_wasSo 12 (.iload_n 2) 1 13 := ⟨by decide +kernel, rfl⟩
theorem dX9_wasSo_13 : jm_d cX9_wasSo 13 (.invokevirtual 142) 3 16 := ⟨by decide +kernel, rfl⟩
theorem dX9_wasSo_16 : jm_d cX9_wasSo 16 (.aload_n 0) 1 17 := ⟨by decide +kernel, rfl⟩
theorem dX9_wasSo_17 : jm_d cX9_wasSo 17 (.getfield 85) 3 20 := ⟨by decide +kernel, rfl⟩
theorem dX9_wasSo_20 : jm_d cX9_wasSo 20 (.iload_n 3) 1 21 := ⟨by decide +kernel, rfl⟩
theorem dX9_wasSo_21 : jm_d cX9_wasSo 21 (.iaload) 1 22 := ⟨by decide +kernel, rfl⟩
theorem dX9_wasSo_22 : jm_b cX9_wasSo 22 (.if_icmp .eq) 25 27 := ⟨5, by decide +kernel, rfl, by decide⟩
theorem dX9_wasSo_27 : jm_d cX9_wasSo 27 (.aload_n 0) 1 28 := ⟨by decide +kernel, rfl⟩
theorem dX9_wasSo_28 : jm_d cX9_wasSo 28 (.invokevirtual 163) 3 31 := ⟨by decide +kernel, rfl⟩
theorem dX9_wasSo_31 : jm_d cX9_wasSo 31 (.iinc 3 1) 3 34 := ⟨by decide +kernel, rfl⟩
theorem dX9_wasSo_34 : jm_b cX9_wasSo 34 .goto 37 2 := ⟨(-32), by decide +kernel, rfl, by decide⟩
theorem dX9_wasSo_25 : jm_d cX9_wasSo 25 (.iconst 0) 1 26 := ⟨by decide +kernel, rfl⟩
theorem dX9_wasSo_26 : jm_d cX9_wasSo 26 (.ireturn) 1 27 := ⟨by decide +kernel, rfl⟩
theorem dX9_wasSo_37 : jm_d cX9_wasSo 37 (.iconst 1) 1 38 := ⟨by decide +kernel, rfl⟩
theorem dX9_wasSo_38 : jm_d cX9_wasSo 38 (.ireturn) 1 39 := ⟨by decide +kernel, rfl⟩
set_option maxHeartbeats 4000000 in
set_option maxRecDepth 100000 in
theorem kM_wasSo (E : jm_Ev) (hE : jm_dj E jm_LM) {M : jm_M} {p1 : Int32} {p2 : Int32}  {r : Int32 × jm_M} (h : sM_wasSo M p1 p2 = some r) : jm_Ct E jm_LM yX9_wasSo cX9_wasSo 4 (some .boolean) 6 140 [.ref (jm_a E 0 0), .int p1, .int p2] M (some (.int r.1)) r.2 := by
  refine jm_enter (lv := [some (.ref (jm_a E 0 0)), some (.int p1), some (.int p2), none]) hE (by decide) (Nat.le_of_ble_eq_true rfl) rfl ?_
  intro z w F hz
  have G : jm_G w 0 [some (.ref (jm_a E 0 0)), some (.int p1), some (.int p2), none] [] M (sM_wasSo M p1 p2) (fun e => z (some (.int e.1)) e.2) := by
    unfold sM_wasSo
    refine jm_iconst F dX9_wasSo_0 kc_0 ?_
    refine jm_istore_n (i := 3) (lv' := [some (.ref (jm_a E 0 0)), some (.int p1), some (.int p2), some (.int 0)]) F dX9_wasSo_1 rfl (by decide) rfl rfl ?_
    refine jm_bindS (pcJ := 37) (lvJ := fun e7 => [none, none, none, none]) (stJ := fun _ => []) (MJ := fun e7 => e7) ?_ (fun e7 => ?_)
    · refine jm_weak F (lv' := [some (.ref (jm_a E 0 0)), some (.int p1), some (.int p2), some (.int 0)]) ⟨rfl, rfl, rfl, rfl, trivial⟩ ?_
      refine jm_loopR (lvH := fun s1 => [some (.ref (jm_a E 0 0)), some (.int p1), some (.int p2), some (.int s1.1)]) (MH := fun s1 => s1.2) (fun s1 => ?_) jm_N (0, M)
      unfold sM_wasSo_L2
      refine jm_iload_n (i := 3) F dX9_wasSo_2 rfl rfl ?_
      refine jm_aload_n (i := 0) F dX9_wasSo_3 rfl rfl ?_
      refine jm_getI F dX9_wasSo_4 fl_X9_353 lo_X9 rfl ?_
      refine jm_icmp_ge F dX9_wasSo_7 (fun c2 => ?_) (fun c2 => ?_)
      · exact jm_weakD F (lv' := [none, none, none, none]) trivial (fun h => h)
      · refine jm_aload_n (i := 0) F dX9_wasSo_10 rfl rfl ?_
        refine jm_iload_n (i := 1) F dX9_wasSo_11 rfl rfl ?_
        refine jm_iload_n (i := 2) F dX9_wasSo_12 rfl rfl ?_
        refine jm_callV (As := [.int p1, .int p2]) (st := []) (rv := fun r => some (.int r)) (mm := fun _ => s1.2) F dX9_wasSo_13 qX9_142 rfl lo_X9 rfl (fun r h => kM_overNow E hE h) rfl (Nat.le_of_ble_eq_true rfl) ⟨Nat.le_of_ble_eq_true rfl, Nat.le_of_ble_eq_true rfl⟩ (fun r3 => ?_)
        refine jm_aload_n (i := 0) F dX9_wasSo_16 rfl rfl ?_
        refine jm_getR F dX9_wasSo_17 fl_X9_85 lo_X9 rfl ?_
        refine jm_iload_n (i := 3) F dX9_wasSo_20 rfl rfl ?_
        refine jm_iald F dX9_wasSo_21 la_X9_41 (fun v4 => ?_)
        refine jm_icmp_eq F dX9_wasSo_22 (fun c5 => ?_) (fun c5 => ?_)
        · refine jm_aload_n (i := 0) F dX9_wasSo_27 rfl rfl ?_
          refine jm_callV (As := []) (st := []) (rv := fun _ => none) (mm := fun r => r) F dX9_wasSo_28 qX9_163 rfl lo_X9 rfl (fun r h => kM_goesWeek E hE h) rfl (Nat.le_of_ble_eq_true rfl) ⟨Nat.le_of_ble_eq_true rfl, Nat.le_of_ble_eq_true rfl⟩ (fun r6 => ?_)
          refine jm_iinc (i := 3) (lv' := [some (.ref (jm_a E 0 0)), some (.int p1), some (.int p2), some (.int (s1.1 + 1))]) F dX9_wasSo_31 kc_1 rfl (by decide) rfl rfl ?_
          refine jm_goto F dX9_wasSo_34 ?_
          exact jm_weakD F (lv' := [some (.ref (jm_a E 0 0)), some (.int p1), some (.int p2), some (.int (s1.1 + 1))]) ⟨rfl, rfl, rfl, rfl, trivial⟩ (fun h => h)
        · refine jm_iconst F dX9_wasSo_25 kc_0 ?_
          exact jm_zret F dX9_wasSo_26 (Or.inl rfl) (fun h => h)
    · refine jm_iconst F dX9_wasSo_37 kc_1 ?_
      exact jm_zret F dX9_wasSo_38 (Or.inr rfl) (fun h => h)
  exact G r h hz
theorem dX9_whatKind_0 : jm_d cX9_whatKind 0 (.aload_n 0) 1 1 := ⟨by decide +kernel, rfl⟩
theorem dX9_whatKind_1 : jm_d cX9_whatKind 1 (.iload_n 1) 1 2 := ⟨by decide +kernel, rfl⟩
theorem dX9_whatKind_2 : jm_d cX9_whatKind 2 (.iload_n 2) 1 3 := ⟨by decide +kernel, rfl⟩
theorem dX9_whatKind_3 : jm_d cX9_whatKind 3 (.invokevirtual 301) 3 6 := ⟨by decide +kernel, rfl⟩
theorem dX9_whatKind_6 : jm_b cX9_whatKind 6 (.ifCond .eq) 9 17 := ⟨11, by decide +kernel, rfl, by decide⟩
theorem dX9_whatKind_17 : jm_d cX9_whatKind 17 (.iconst (-1)) 1 18 := ⟨by decide +kernel, rfl⟩
theorem dX9_whatKind_18 : jm_b cX9_whatKind 18 .goto 21 37 := ⟨19, by decide +kernel, rfl, by decide⟩
theorem dX9_whatKind_9 : jm_d cX9_whatKind 9 (.aload_n 0) 1 10 := ⟨by decide +kernel, rfl⟩
theorem dX9_whatKind_10 : jm_d cX9_whatKind 10 (.iload_n 3) 1 11 := ⟨by decide +kernel, rfl⟩
theorem dX9_whatKind_11 : jm_d cX9_whatKind 11 (.invokevirtual 289) 3 14 := ⟨by decide +kernel, rfl⟩
theorem dX9_whatKind_14 : jm_b cX9_whatKind 14 (.ifCond .ne) 17 21 := ⟨7, by decide +kernel, rfl, by decide⟩
theorem dX9_whatKind_21 : jm_d cX9_whatKind 21 (.iload 4) 2 23 := ⟨by decide +kernel, rfl⟩
theorem dX9_whatKind_23 : jm_d cX9_whatKind 23 (.iconst 0) 1 24 := ⟨by decide +kernel, rfl⟩
theorem dX9_whatKind_24 : jm_d cX9_whatKind 24 (.iconst 1) 1 25 := ⟨by decide +kernel, rfl⟩
theorem dX9_whatKind_25 : jm_d cX9_whatKind 25 (.invokestatic 98) 3 28 := ⟨by decide +kernel, rfl⟩
theorem dX9_whatKind_28 : jm_b cX9_whatKind 28 (.ifCond .ne) 31 36 := ⟨8, by decide +kernel, rfl, by decide⟩
theorem dX9_whatKind_31 : jm_d cX9_whatKind 31 (.bipush (-2)) 2 33 := ⟨by decide +kernel, rfl⟩
theorem dX9_whatKind_33 : jm_b cX9_whatKind 33 .goto 36 37 := ⟨4, by decide +kernel, rfl, by decide⟩
theorem dX9_whatKind_36 : jm_d cX9_whatKind 36 (.iconst 0) 1 37 := ⟨by decide +kernel, rfl⟩
theorem dX9_whatKind_37 : jm_d cX9_whatKind 37 (.istore 5) 2 39 := ⟨by decide +kernel, rfl⟩
theorem dX9_whatKind_39 : jm_d cX9_whatKind 39 (.iload 5) 2 41 := ⟨by decide +kernel, rfl⟩
theorem dX9_whatKind_41 : jm_b cX9_whatKind 41 (.ifCond .eq) 44 51 := ⟨10, by decide +kernel, rfl, by decide⟩
theorem dX9_whatKind_51 : jm_d cX9_whatKind 51 (.iconst 0) 1 52 := ⟨by decide +kernel, rfl⟩
theorem dX9_whatKind_52 : jm_d cX9_whatKind 52 (.istore 6) 2 54 := ⟨by decide +kernel, rfl⟩
theorem dX9_whatKind_54 : jm_d cX9_whatKind 54 (.iconst 0) 1 55 := ⟨by decide +kernel, rfl⟩
theorem dX9_whatKind_55 : jm_d cX9_whatKind 55 (.istore 7) 2 57 := ⟨by decide +kernel, rfl⟩
theorem dX9_whatKind_57 : jm_d cX9_whatKind 57 (.iload 7) 2 59 := ⟨by decide +kernel, rfl⟩
theorem dX9_whatKind_59 : jm_d cX9_whatKind 59 (.iload 4) 2 61 := ⟨by decide +kernel, rfl⟩
theorem dX9_whatKind_61 : jm_b cX9_whatKind 61 (.ifCond .ne) 64 69 := ⟨8, by decide +kernel, rfl, by decide⟩
theorem dX9_whatKind_64 : jm_d cX9_whatKind 64 (.bipush 8) 2 66 := ⟨by decide +kernel, rfl⟩
theorem dX9_whatKind_66 : jm_b cX9_whatKind 66 .goto 69 71 := ⟨5, by decide +kernel, rfl, by decide⟩
theorem dX9_whatKind_69 : jm_d cX9_whatKind 69 (.bipush 10) 2 71 := ⟨by decide +kernel, rfl⟩
theorem dX9_whatKind_71 : jm_b cX9_whatKind 71 (.if_icmp .ge) 74 134 := ⟨63, by decide +kernel, rfl, by decide⟩
theorem dX9_whatKind_74 : jm_d cX9_whatKind 74 (.aload_n 0) 1 75 := ⟨by decide +kernel, rfl⟩
theorem dX9_whatKind_75 : jm_d cX9_whatKind 75 (.invokevirtual 307) 3 78 := ⟨by decide +kernel, rfl⟩
theorem dX9_whatKind_78 : jm_d cX9_whatKind 78 (.iload 4) 2 80 := ⟨by decide +kernel, rfl⟩
theorem dX9_whatKind_80 : jm_b cX9_whatKind 80 (.ifCond .ne) 83 94 := ⟨14, by decide +kernel, rfl, by decide⟩
theorem dX9_whatKind_83 : jm_d cX9_whatKind 83 (.aload_n 0) 1 84 := ⟨by decide +kernel, rfl⟩
theorem dX9_whatKind_84 : jm_d cX9_whatKind 84 (.getfield 22) 3 87 := ⟨by decide +kernel, rfl⟩
theorem dX9_whatKind_87 : jm_d cX9_whatKind 87 (.iload_n 3) 1 88 := ⟨by decide +kernel, rfl⟩
theorem dX9_whatKind_88 : jm_d cX9_whatKind 88 (.iload 7) 2 90 := ⟨by decide +kernel, rfl⟩
theorem dX9_whatKind_90 : jm_d cX9_whatKind 90 (.iastore) 1 91 := ⟨by decide +kernel, rfl⟩
theorem dX9_whatKind_91 : jm_b cX9_whatKind 91 .goto 94 102 := ⟨11, by decide +kernel, rfl, by decide⟩
theorem dX9_whatKind_94 : jm_d cX9_whatKind 94 (.aload_n 0) 1 95 := ⟨by decide +kernel, rfl⟩
theorem dX9_whatKind_95 : jm_d cX9_whatKind 95 (.getfield 25) 3 98 := ⟨by decide +kernel, rfl⟩
theorem dX9_whatKind_98 : jm_d cX9_whatKind 98 (.iload_n 3) 1 99 := ⟨by decide +kernel, rfl⟩
theorem dX9_whatKind_99 : jm_d cX9_whatKind 99 (.iload 7) 2 101 := ⟨by decide +kernel, rfl⟩
theorem dX9_whatKind_101 : jm_d cX9_whatKind 101 (.iastore) 1 102 := ⟨by decide +kernel, rfl⟩
theorem dX9_whatKind_102 : jm_d cX9_whatKind 102 (.iload 6) 2 104 := ⟨by decide +kernel, rfl⟩
theorem dX9_whatKind_104 : jm_d cX9_whatKind 104 (.aload_n 0) 1 105 := ⟨by decide +kernel, rfl⟩
theorem dX9_whatKind_105 : jm_d cX9_whatKind 105 (.iload_n 1) 1 106 := ⟨by decide +kernel, rfl⟩
theorem dX9_whatKind_106 : jm_d cX9_whatKind 106 (.iload_n 2) 1 107 := ⟨by decide +kernel, rfl⟩
theorem dX9_whatKind_107 : jm_d cX9_whatKind 107 (.invokevirtual 356) 3 110 := ⟨by decide +kernel, rfl⟩
theorem dX9_whatKind_110 : jm_b cX9_whatKind 110 (.ifCond .eq) 113 120 := ⟨10, by decide +kernel, rfl, by decide⟩
theorem dX9_whatKind_120 : jm_d cX9_whatKind 120 (.iconst 0) 1 121 := ⟨by decide +kernel, rfl⟩
theorem dX9_whatKind_113 : jm_d cX9_whatKind 113 (.iconst 1) 1 114 := ⟨by decide +kernel, rfl⟩
theorem dX9_whatKind_114 : jm_d cX9_whatKind 114 (.iload 7) 2 116 := ⟨by decide +kernel, rfl⟩
theorem dX9_whatKind_116 : jm_d cX9_whatKind 116 (.ishl) 1 117 := ⟨by decide +kernel, rfl⟩
theorem dX9_whatKind_117 : jm_b cX9_whatKind 117 .goto 120 121 := ⟨4, by decide +kernel, rfl, by decide⟩
theorem dX9_whatKind_121 : jm_d cX9_whatKind 121 (.ior) 1 122 := ⟨by decide +kernel, rfl⟩
theorem dX9_whatKind_122 : jm_d cX9_whatKind 122 (.istore 6) 2 124 := ⟨by decide +kernel, rfl⟩
theorem dX9_whatKind_124 : jm_d cX9_whatKind 124 (.aload_n 0) 1 125 := ⟨by decide +kernel, rfl⟩
theorem dX9_whatKind_125 : jm_d cX9_whatKind 125 (.invokevirtual 310) 3 128 := ⟨by decide +kernel, rfl⟩
theorem dX9_whatKind_128 : jm_d cX9_whatKind 128 (.iinc 7 1) 3 131 := ⟨by decide +kernel, rfl⟩
theorem dX9_whatKind_131 : jm_b cX9_whatKind 131 .goto 134 57 := ⟨(-74), by decide +kernel, rfl, by decide⟩
theorem dX9_whatKind_134 : jm_d cX9_whatKind 134 (.iload 6) 2 136 := ⟨by decide +kernel, rfl⟩
theorem dX9_whatKind_136 : jm_d cX9_whatKind 136 (.ireturn) 1 137 := ⟨by decide +kernel, rfl⟩
theorem dX9_whatKind_44 : jm_d cX9_whatKind 44 (.aload_n 0) 1 45 := ⟨by decide +kernel, rfl⟩
theorem dX9_whatKind_45 : jm_d cX9_whatKind 45 (.iload 5) 2 47 := ⟨by decide +kernel, rfl⟩
theorem dX9_whatKind_47 : jm_d cX9_whatKind 47 (.invokevirtual 172) 3 50 := ⟨by decide +kernel, rfl⟩
theorem dX9_whatKind_50 : jm_d cX9_whatKind 50 (.ireturn) 1 51 := ⟨by decide +kernel, rfl⟩
set_option maxHeartbeats 4000000 in
set_option maxRecDepth 100000 in
theorem kM_whatKind (E : jm_Ev) (hE : jm_dj E jm_LM) {M : jm_M} {p1 : Int32} {p2 : Int32} {p3 : Int32} {p4 : Int32}  {r : Int32 × jm_M} (h : sM_whatKind M p1 p2 p3 p4 = some r) : jm_Ct E jm_LM yX9_whatKind cX9_whatKind 8 (some .int) 7 163 [.ref (jm_a E 0 0), .int p1, .int p2, .int p3, .int p4] M (some (.int r.1)) r.2 := by
  refine jm_enter (lv := [some (.ref (jm_a E 0 0)), some (.int p1), some (.int p2), some (.int p3), some (.int p4), none, none, none]) hE (by decide) (Nat.le_of_ble_eq_true rfl) rfl ?_
  intro z w F hz
  have G : jm_G w 0 [some (.ref (jm_a E 0 0)), some (.int p1), some (.int p2), some (.int p3), some (.int p4), none, none, none] [] M (sM_whatKind M p1 p2 p3 p4) (fun e => z (some (.int e.1)) e.2) := by
    unfold sM_whatKind
    refine jm_aload_n (i := 0) F dX9_whatKind_0 rfl rfl ?_
    refine jm_iload_n (i := 1) F dX9_whatKind_1 rfl rfl ?_
    refine jm_iload_n (i := 2) F dX9_whatKind_2 rfl rfl ?_
    refine jm_callV (As := [.int p1, .int p2]) (st := []) (rv := fun r => some (.int r)) (mm := fun _ => M) F dX9_whatKind_3 qX9_301 rfl lo_X9 rfl (fun r h => kM_areTwo E hE h) rfl (Nat.le_of_ble_eq_true rfl) ⟨Nat.le_of_ble_eq_true rfl, Nat.le_of_ble_eq_true rfl⟩ (fun r1 => ?_)
    refine jm_bind (pcJ := 37) (lvJ := fun e2 => [some (.ref (jm_a E 0 0)), some (.int p1), some (.int p2), some (.int p3), some (.int p4), none, none, none]) (stJ := fun e2 => [.int e2]) (MJ := fun e2 => M) ?_ (fun e2 => ?_)
    · refine jm_if_eq F dX9_whatKind_6 (fun c3 => ?_) (fun c3 => ?_)
      · refine jm_iconst F dX9_whatKind_17 kc_m1 ?_
        refine jm_goto F dX9_whatKind_18 ?_
        exact jm_weakD F (lv' := [some (.ref (jm_a E 0 0)), some (.int p1), some (.int p2), some (.int p3), some (.int p4), none, none, none]) ⟨rfl, rfl, rfl, rfl, rfl, trivial⟩ (fun h => h)
      · refine jm_aload_n (i := 0) F dX9_whatKind_9 rfl rfl ?_
        refine jm_iload_n (i := 3) F dX9_whatKind_10 rfl rfl ?_
        refine jm_callV (As := [.int p3]) (st := []) (rv := fun r => some (.int r)) (mm := fun _ => M) F dX9_whatKind_11 qX9_289 rfl lo_X9 rfl (fun r h => kM_isBook E hE h) rfl (Nat.le_of_ble_eq_true rfl) ⟨Nat.le_of_ble_eq_true rfl, Nat.le_of_ble_eq_true rfl⟩ (fun r4 => ?_)
        refine jm_if_ne F dX9_whatKind_14 (fun c5 => ?_) (fun c5 => ?_)
        · refine jm_iconst F dX9_whatKind_17 kc_m1 ?_
          refine jm_goto F dX9_whatKind_18 ?_
          exact jm_weakD F (lv' := [some (.ref (jm_a E 0 0)), some (.int p1), some (.int p2), some (.int p3), some (.int p4), none, none, none]) ⟨rfl, rfl, rfl, rfl, rfl, trivial⟩ (fun h => h)
        · refine jm_iload F dX9_whatKind_21 rfl ?_
          refine jm_iconst F dX9_whatKind_23 kc_0 ?_
          refine jm_iconst F dX9_whatKind_24 kc_1 ?_
          refine jm_callS (As := [.int p4, .int 0, .int 1]) (st := []) (rv := fun r => some (.int r)) (mm := fun _ => M) F dX9_whatKind_25 qX9_98 rfl (fun r h => kM_isIn E hE h) rfl (Nat.le_of_ble_eq_true rfl) ⟨Nat.le_of_ble_eq_true rfl, Nat.le_of_ble_eq_true rfl⟩ (fun r6 => ?_)
          refine jm_if_ne F dX9_whatKind_28 (fun c7 => ?_) (fun c7 => ?_)
          · refine jm_bipush F dX9_whatKind_31 kb_m2 ?_
            refine jm_goto F dX9_whatKind_33 ?_
            exact jm_weakD F (lv' := [some (.ref (jm_a E 0 0)), some (.int p1), some (.int p2), some (.int p3), some (.int p4), none, none, none]) ⟨rfl, rfl, rfl, rfl, rfl, trivial⟩ (fun h => h)
          · refine jm_iconst F dX9_whatKind_36 kc_0 ?_
            exact jm_weakD F (lv' := [some (.ref (jm_a E 0 0)), some (.int p1), some (.int p2), some (.int p3), some (.int p4), none, none, none]) ⟨rfl, rfl, rfl, rfl, rfl, trivial⟩ (fun h => h)
    · refine jm_istore (i := 5) (lv' := [some (.ref (jm_a E 0 0)), some (.int p1), some (.int p2), some (.int p3), some (.int p4), some (.int e2), none, none]) F dX9_whatKind_37 (by decide) rfl rfl ?_
      refine jm_iload F dX9_whatKind_39 rfl ?_
      refine jm_if_eq F dX9_whatKind_41 (fun c8 => ?_) (fun c8 => ?_)
      · refine jm_iconst F dX9_whatKind_51 kc_0 ?_
        refine jm_istore (i := 6) (lv' := [some (.ref (jm_a E 0 0)), some (.int p1), some (.int p2), some (.int p3), some (.int p4), some (.int e2), some (.int 0), none]) F dX9_whatKind_52 (by decide) rfl rfl ?_
        refine jm_iconst F dX9_whatKind_54 kc_0 ?_
        refine jm_istore (i := 7) (lv' := [some (.ref (jm_a E 0 0)), some (.int p1), some (.int p2), some (.int p3), some (.int p4), some (.int e2), some (.int 0), some (.int 0)]) F dX9_whatKind_55 (by decide) rfl rfl ?_
        refine jm_bind (pcJ := 134) (lvJ := fun e23 => [none, none, none, none, none, none, some (.int e23.1), none]) (stJ := fun _ => []) (MJ := fun e23 => e23.2) ?_ (fun e23 => ?_)
        · refine jm_weak F (lv' := [some (.ref (jm_a E 0 0)), some (.int p1), some (.int p2), some (.int p3), some (.int p4), none, some (.int 0), some (.int 0)]) ⟨rfl, rfl, rfl, rfl, rfl, rfl, rfl, trivial⟩ ?_
          refine jm_loopR (lvH := fun s9 => [some (.ref (jm_a E 0 0)), some (.int p1), some (.int p2), some (.int p3), some (.int p4), none, some (.int s9.1), some (.int s9.2.1)]) (MH := fun s9 => s9.2.2) (fun s9 => ?_) jm_N (0, 0, M)
          unfold sM_whatKind_L57
          refine jm_iload F dX9_whatKind_57 rfl ?_
          refine jm_iload F dX9_whatKind_59 rfl ?_
          refine jm_bind (pcJ := 71) (lvJ := fun e10 => [some (.ref (jm_a E 0 0)), some (.int p1), some (.int p2), some (.int p3), some (.int p4), none, some (.int s9.1), some (.int s9.2.1)]) (stJ := fun e10 => [.int e10, .int s9.2.1]) (MJ := fun e10 => s9.2.2) ?_ (fun e10 => ?_)
          · refine jm_if_ne F dX9_whatKind_61 (fun c11 => ?_) (fun c11 => ?_)
            · refine jm_bipush F dX9_whatKind_64 kb_8 ?_
              refine jm_goto F dX9_whatKind_66 ?_
              exact jm_weakD F (lv' := [some (.ref (jm_a E 0 0)), some (.int p1), some (.int p2), some (.int p3), some (.int p4), none, some (.int s9.1), some (.int s9.2.1)]) ⟨rfl, rfl, rfl, rfl, rfl, rfl, rfl, trivial⟩ (fun h => h)
            · refine jm_bipush F dX9_whatKind_69 kb_10 ?_
              exact jm_weakD F (lv' := [some (.ref (jm_a E 0 0)), some (.int p1), some (.int p2), some (.int p3), some (.int p4), none, some (.int s9.1), some (.int s9.2.1)]) ⟨rfl, rfl, rfl, rfl, rfl, rfl, rfl, trivial⟩ (fun h => h)
          · refine jm_icmp_ge F dX9_whatKind_71 (fun c12 => ?_) (fun c12 => ?_)
            · exact jm_weakD F (lv' := [none, none, none, none, none, none, some (.int s9.1), none]) ⟨rfl, trivial⟩ (fun h => h)
            · refine jm_aload_n (i := 0) F dX9_whatKind_74 rfl rfl ?_
              refine jm_callV (As := []) (st := []) (rv := fun _ => none) (mm := fun r => r) F dX9_whatKind_75 qX9_307 rfl lo_X9 rfl (fun r h => kM_minds E hE h) rfl (Nat.le_of_ble_eq_true rfl) ⟨Nat.le_of_ble_eq_true rfl, Nat.le_of_ble_eq_true rfl⟩ (fun r13 => ?_)
              refine jm_iload F dX9_whatKind_78 rfl ?_
              refine jm_bind (pcJ := 102) (lvJ := fun e14 => [some (.ref (jm_a E 0 0)), some (.int p1), some (.int p2), some (.int p3), some (.int p4), none, some (.int s9.1), some (.int s9.2.1)]) (stJ := fun e14 => []) (MJ := fun e14 => e14) ?_ (fun e14 => ?_)
              · refine jm_if_ne F dX9_whatKind_80 (fun c15 => ?_) (fun c15 => ?_)
                · refine jm_aload_n (i := 0) F dX9_whatKind_83 rfl rfl ?_
                  refine jm_getR F dX9_whatKind_84 fl_X9_22 lo_X9 rfl ?_
                  refine jm_iload_n (i := 3) F dX9_whatKind_87 rfl rfl ?_
                  refine jm_iload F dX9_whatKind_88 rfl ?_
                  refine jm_iast F dX9_whatKind_90 la_X9_5 (fun M16 => ?_)
                  refine jm_goto F dX9_whatKind_91 ?_
                  exact jm_weakD F (lv' := [some (.ref (jm_a E 0 0)), some (.int p1), some (.int p2), some (.int p3), some (.int p4), none, some (.int s9.1), some (.int s9.2.1)]) ⟨rfl, rfl, rfl, rfl, rfl, rfl, rfl, trivial⟩ (fun h => h)
                · refine jm_aload_n (i := 0) F dX9_whatKind_94 rfl rfl ?_
                  refine jm_getR F dX9_whatKind_95 fl_X9_25 lo_X9 rfl ?_
                  refine jm_iload_n (i := 3) F dX9_whatKind_98 rfl rfl ?_
                  refine jm_iload F dX9_whatKind_99 rfl ?_
                  refine jm_iast F dX9_whatKind_101 la_X9_6 (fun M17 => ?_)
                  exact jm_weakD F (lv' := [some (.ref (jm_a E 0 0)), some (.int p1), some (.int p2), some (.int p3), some (.int p4), none, some (.int s9.1), some (.int s9.2.1)]) ⟨rfl, rfl, rfl, rfl, rfl, rfl, rfl, trivial⟩ (fun h => h)
              · refine jm_iload F dX9_whatKind_102 rfl ?_
                refine jm_aload_n (i := 0) F dX9_whatKind_104 rfl rfl ?_
                refine jm_iload_n (i := 1) F dX9_whatKind_105 rfl rfl ?_
                refine jm_iload_n (i := 2) F dX9_whatKind_106 rfl rfl ?_
                refine jm_callV (As := [.int p1, .int p2]) (st := [.int s9.1]) (rv := fun r => some (.int r.1)) (mm := fun r => r.2) F dX9_whatKind_107 qX9_356 rfl lo_X9 rfl (fun r h => kM_wasSo E hE h) rfl (Nat.le_of_ble_eq_true rfl) ⟨Nat.le_of_ble_eq_true rfl, Nat.le_of_ble_eq_true rfl⟩ (fun r18 => ?_)
                refine jm_bind (pcJ := 121) (lvJ := fun e19 => [some (.ref (jm_a E 0 0)), some (.int p1), some (.int p2), some (.int p3), some (.int p4), none, none, some (.int s9.2.1)]) (stJ := fun e19 => [.int e19, .int s9.1]) (MJ := fun e19 => r18.2) ?_ (fun e19 => ?_)
                · refine jm_if_eq F dX9_whatKind_110 (fun c20 => ?_) (fun c20 => ?_)
                  · refine jm_iconst F dX9_whatKind_120 kc_0 ?_
                    exact jm_weakD F (lv' := [some (.ref (jm_a E 0 0)), some (.int p1), some (.int p2), some (.int p3), some (.int p4), none, none, some (.int s9.2.1)]) ⟨rfl, rfl, rfl, rfl, rfl, rfl, trivial⟩ (fun h => h)
                  · refine jm_iconst F dX9_whatKind_113 kc_1 ?_
                    refine jm_iload F dX9_whatKind_114 rfl ?_
                    refine jm_ishl F dX9_whatKind_116 ?_
                    refine jm_goto F dX9_whatKind_117 ?_
                    exact jm_weakD F (lv' := [some (.ref (jm_a E 0 0)), some (.int p1), some (.int p2), some (.int p3), some (.int p4), none, none, some (.int s9.2.1)]) ⟨rfl, rfl, rfl, rfl, rfl, rfl, trivial⟩ (fun h => h)
                · refine jm_ior F dX9_whatKind_121 ?_
                  refine jm_nameI (f := fun x21 => [.int x21]) (fun x21 => ?_) rfl
                  refine jm_istore (i := 6) (lv' := [some (.ref (jm_a E 0 0)), some (.int p1), some (.int p2), some (.int p3), some (.int p4), none, some (.int x21), some (.int s9.2.1)]) F dX9_whatKind_122 (by decide) rfl rfl ?_
                  refine jm_aload_n (i := 0) F dX9_whatKind_124 rfl rfl ?_
                  refine jm_callV (As := []) (st := []) (rv := fun _ => none) (mm := fun r => r) F dX9_whatKind_125 qX9_310 rfl lo_X9 rfl (fun r h => kM_forgets E hE h) rfl (Nat.le_of_ble_eq_true rfl) ⟨Nat.le_of_ble_eq_true rfl, Nat.le_of_ble_eq_true rfl⟩ (fun r22 => ?_)
                  refine jm_iinc (i := 7) (lv' := [some (.ref (jm_a E 0 0)), some (.int p1), some (.int p2), some (.int p3), some (.int p4), none, some (.int x21), some (.int (s9.2.1 + 1))]) F dX9_whatKind_128 kc_1 rfl (by decide) rfl rfl ?_
                  refine jm_goto F dX9_whatKind_131 ?_
                  exact jm_weakD F (lv' := [some (.ref (jm_a E 0 0)), some (.int p1), some (.int p2), some (.int p3), some (.int p4), none, some (.int x21), some (.int (s9.2.1 + 1))]) ⟨rfl, rfl, rfl, rfl, rfl, rfl, rfl, trivial⟩ (fun h => h)
        · refine jm_iload F dX9_whatKind_134 rfl ?_
          exact jm_iret F dX9_whatKind_136 (fun h => h)
      · refine jm_aload_n (i := 0) F dX9_whatKind_44 rfl rfl ?_
        refine jm_iload F dX9_whatKind_45 rfl ?_
        refine jm_callV (As := [.int e2]) (st := []) (rv := fun r => some (.int r.1)) (mm := fun r => r.2) F dX9_whatKind_47 qX9_172 rfl lo_X9 rfl (fun r h => kM_no E hE h) rfl (Nat.le_of_ble_eq_true rfl) ⟨Nat.le_of_ble_eq_true rfl, Nat.le_of_ble_eq_true rfl⟩ (fun r24 => ?_)
        exact jm_iret F dX9_whatKind_50 (fun h => h)
  exact G r h hz
theorem dX9_gives_0 : jm_d cX9_gives 0 (.iconst 0) 1 1 := ⟨by decide +kernel, rfl⟩
theorem dX9_gives_1 : jm_d cX9_gives 1 (.istore_n 2) 1 2 := ⟨by decide +kernel, rfl⟩
theorem dX9_gives_2 : jm_d cX9_gives 2 (.iload_n 2) 1 3 := ⟨by decide +kernel, rfl⟩
theorem dX9_gives_3 : jm_d cX9_gives 3 (.aload_n 0) 1 4 := ⟨by decide +kernel, rfl⟩
theorem dX9_gives_4 : jm_d cX9_gives 4 (.getfield 106) 3 7 := ⟨by decide +kernel, rfl⟩
theorem dX9_gives_7 : jm_b cX9_gives 7 (.if_icmp .ge) 10 47 := ⟨40, by decide +kernel, rfl, by decide⟩
theorem dX9_gives_10 : jm_d cX9_gives 10 (.aload_n 0) 1 11 := ⟨by decide +kernel, rfl⟩
theorem dX9_gives_11 : jm_d cX9_gives 11 (.getfield 31) 3 14 := ⟨by decide +kernel, rfl⟩
theorem dX9_gives_14 : jm_d cX9_gives 14 (.iload_n 2) 1 15 := ⟨by decide +kernel, rfl⟩
theorem dX9_gives_15 : jm_d cX9_gives 15 (.aload_n 0) 1 16 := ⟨by decide +kernel, rfl⟩
theorem dX9_gives_16 : jm_d cX9_gives 16 (.getfield 31) 3 19 := ⟨by decide +kernel, rfl⟩
theorem dX9_gives_19 : jm_d cX9_gives 19 (.iload_n 2) 1 20 := ⟨by decide +kernel, rfl⟩
theorem dX9_gives_20 : jm_d cX9_gives 20 (.iaload) 1 21 := ⟨by decide +kernel, rfl⟩
theorem dX9_gives_21 : jm_d cX9_gives 21 (.iload_n 1) 1 22 := ⟨by decide +kernel, rfl⟩
theorem dX9_gives_22 : jm_b cX9_gives 22 (.if_icmp .ne) 25 34 := ⟨12, by decide +kernel, rfl, by decide⟩
theorem dX9_gives_25 : jm_d cX9_gives 25 (.aload_n 0) 1 26 := ⟨by decide +kernel, rfl⟩
theorem dX9_gives_26 : jm_d cX9_gives 26 (.getfield 28) 3 29 := ⟨by decide +kernel, rfl⟩
theorem dX9_gives_29 : jm_d cX9_gives 29 (.iload_n 2) 1 30 := ⟨by decide +kernel, rfl⟩
theorem dX9_gives_30 : jm_d cX9_gives 30 (.iaload) 1 31 := ⟨by decide +kernel, rfl⟩
theorem dX9_gives_31 : jm_b cX9_gives 31 .goto 34 40 := ⟨9, by decide +kernel, rfl, by decide⟩
theorem dX9_gives_34 : jm_d cX9_gives 34 (.aload_n 0) 1 35 := ⟨by decide +kernel, rfl⟩
theorem dX9_gives_35 : jm_d cX9_gives 35 (.getfield 31) 3 38 := ⟨by decide +kernel, rfl⟩
theorem dX9_gives_38 : jm_d cX9_gives 38 (.iload_n 2) 1 39 := ⟨by decide +kernel, rfl⟩
theorem dX9_gives_39 : jm_d cX9_gives 39 (.iaload) 1 40 := ⟨by decide +kernel, rfl⟩
theorem dX9_gives_40 : jm_d cX9_gives 40 (.iastore) 1 41 := ⟨by decide +kernel, rfl⟩
theorem dX9_gives_41 : jm_d cX9_gives 41 (.iinc 2 1) 3 44 := ⟨by decide +kernel, rfl⟩
theorem dX9_gives_44 : jm_b cX9_gives 44 .goto 47 2 := ⟨(-42), by decide +kernel, rfl, by decide⟩
theorem dX9_gives_47 : jm_d cX9_gives 47 (.return_) 1 48 := ⟨by decide +kernel, rfl⟩
set_option maxHeartbeats 4000000 in
set_option maxRecDepth 100000 in
theorem kM_gives (E : jm_Ev) (hE : jm_dj E jm_LM) {M : jm_M} {p1 : Int32}  {r : jm_M} (h : sM_gives M p1 = some r) : jm_Ct E jm_LM yX9_gives cX9_gives 3 none 0 0 [.ref (jm_a E 0 0), .int p1] M none r := by
  refine jm_enter (lv := [some (.ref (jm_a E 0 0)), some (.int p1), none]) hE (by decide) (Nat.le_of_ble_eq_true rfl) rfl ?_
  intro z w F hz
  have G : jm_G w 0 [some (.ref (jm_a E 0 0)), some (.int p1), none] [] M (sM_gives M p1) (fun e => z none e) := by
    unfold sM_gives
    refine jm_iconst F dX9_gives_0 kc_0 ?_
    refine jm_istore_n (i := 2) (lv' := [some (.ref (jm_a E 0 0)), some (.int p1), some (.int 0)]) F dX9_gives_1 rfl (by decide) rfl rfl ?_
    refine jm_bind (pcJ := 47) (lvJ := fun e9 => [none, none, none]) (stJ := fun _ => []) (MJ := fun e9 => e9) ?_ (fun e9 => ?_)
    · refine jm_weak F (lv' := [some (.ref (jm_a E 0 0)), some (.int p1), some (.int 0)]) ⟨rfl, rfl, rfl, trivial⟩ ?_
      refine jm_loopR (lvH := fun s1 => [some (.ref (jm_a E 0 0)), some (.int p1), some (.int s1.1)]) (MH := fun s1 => s1.2) (fun s1 => ?_) jm_N (0, M)
      unfold sM_gives_L2
      refine jm_iload_n (i := 2) F dX9_gives_2 rfl rfl ?_
      refine jm_aload_n (i := 0) F dX9_gives_3 rfl rfl ?_
      refine jm_getI F dX9_gives_4 fl_X9_106 lo_X9 rfl ?_
      refine jm_icmp_ge F dX9_gives_7 (fun c2 => ?_) (fun c2 => ?_)
      · exact jm_weakD F (lv' := [none, none, none]) trivial (fun h => h)
      · refine jm_aload_n (i := 0) F dX9_gives_10 rfl rfl ?_
        refine jm_getR F dX9_gives_11 fl_X9_31 lo_X9 rfl ?_
        refine jm_iload_n (i := 2) F dX9_gives_14 rfl rfl ?_
        refine jm_aload_n (i := 0) F dX9_gives_15 rfl rfl ?_
        refine jm_getR F dX9_gives_16 fl_X9_31 lo_X9 rfl ?_
        refine jm_iload_n (i := 2) F dX9_gives_19 rfl rfl ?_
        refine jm_iald F dX9_gives_20 la_X9_8 (fun v3 => ?_)
        refine jm_iload_n (i := 1) F dX9_gives_21 rfl rfl ?_
        refine jm_bind (pcJ := 40) (lvJ := fun e4 => [some (.ref (jm_a E 0 0)), some (.int p1), some (.int s1.1)]) (stJ := fun e4 => [.int e4, .int s1.1, .ref (jm_a E 0 8)]) (MJ := fun e4 => s1.2) ?_ (fun e4 => ?_)
        · refine jm_icmp_ne F dX9_gives_22 (fun c5 => ?_) (fun c5 => ?_)
          · refine jm_aload_n (i := 0) F dX9_gives_25 rfl rfl ?_
            refine jm_getR F dX9_gives_26 fl_X9_28 lo_X9 rfl ?_
            refine jm_iload_n (i := 2) F dX9_gives_29 rfl rfl ?_
            refine jm_iald F dX9_gives_30 la_X9_7 (fun v6 => ?_)
            refine jm_goto F dX9_gives_31 ?_
            exact jm_weakD F (lv' := [some (.ref (jm_a E 0 0)), some (.int p1), some (.int s1.1)]) ⟨rfl, rfl, rfl, trivial⟩ (fun h => h)
          · refine jm_aload_n (i := 0) F dX9_gives_34 rfl rfl ?_
            refine jm_getR F dX9_gives_35 fl_X9_31 lo_X9 rfl ?_
            refine jm_iload_n (i := 2) F dX9_gives_38 rfl rfl ?_
            refine jm_iald F dX9_gives_39 la_X9_8 (fun v7 => ?_)
            exact jm_weakD F (lv' := [some (.ref (jm_a E 0 0)), some (.int p1), some (.int s1.1)]) ⟨rfl, rfl, rfl, trivial⟩ (fun h => h)
        · refine jm_iast F dX9_gives_40 la_X9_8 (fun M8 => ?_)
          refine jm_iinc (i := 2) (lv' := [some (.ref (jm_a E 0 0)), some (.int p1), some (.int (s1.1 + 1))]) F dX9_gives_41 kc_1 rfl (by decide) rfl rfl ?_
          refine jm_goto F dX9_gives_44 ?_
          exact jm_weakD F (lv' := [some (.ref (jm_a E 0 0)), some (.int p1), some (.int (s1.1 + 1))]) ⟨rfl, rfl, rfl, trivial⟩ (fun h => h)
    · exact jm_vret F dX9_gives_47 (fun h => h)
  exact G r h hz
theorem dX9_findEnds_0 : jm_d cX9_findEnds 0 (.iconst 0) 1 1 := ⟨by decide +kernel, rfl⟩
theorem dX9_findEnds_1 : jm_d cX9_findEnds 1 (.istore 4) 2 3 := ⟨by decide +kernel, rfl⟩
theorem dX9_findEnds_3 : jm_d cX9_findEnds 3 (.iload 4) 2 5 := ⟨by decide +kernel, rfl⟩
theorem dX9_findEnds_5 : jm_d cX9_findEnds 5 (.iconst 4) 1 6 := ⟨by decide +kernel, rfl⟩
theorem dX9_findEnds_6 : jm_b cX9_findEnds 6 (.if_icmp .ge) 9 98 := ⟨92, by decide +kernel, rfl, by decide⟩
theorem dX9_findEnds_9 : jm_d cX9_findEnds 9 (.aload_n 0) 1 10 := ⟨by decide +kernel, rfl⟩
theorem dX9_findEnds_10 : jm_d cX9_findEnds 10 (.invokevirtual 307) 3 13 := ⟨by decide +kernel, rfl⟩
theorem dX9_findEnds_13 : jm_d cX9_findEnds 13 (.iload 4) 2 15 := ⟨by decide +kernel, rfl⟩
theorem dX9_findEnds_15 : jm_d cX9_findEnds 15 (.iconst 2) 1 16 := ⟨by decide +kernel, rfl⟩
theorem dX9_findEnds_16 : jm_d cX9_findEnds 16 (.idiv) 1 17 := ⟨by decide +kernel, rfl⟩
theorem dX9_findEnds_17 : jm_d cX9_findEnds 17 (.iconst 1) 1 18 := ⟨by decide +kernel, rfl⟩
theorem dX9_findEnds_18 : jm_b cX9_findEnds 18 (.if_icmp .ne) 21 26 := ⟨8, by decide +kernel, rfl, by decide⟩
theorem dX9_findEnds_21 : jm_d cX9_findEnds 21 (.aload_n 0) 1 22 := ⟨by decide +kernel, rfl⟩
theorem dX9_findEnds_22 : jm_d cX9_findEnds 22 (.iload_n 1) 1 23 := ⟨by decide +kernel, rfl⟩
theorem dX9_findEnds_23 : jm_d cX9_findEnds 23 (.invokevirtual 359) 3 26 := ⟨by decide +kernel, rfl⟩
theorem dX9_findEnds_26 : jm_d cX9_findEnds 26 (.iload 4) 2 28 := ⟨by decide +kernel, rfl⟩
theorem dX9_findEnds_28 : jm_d cX9_findEnds 28 (.iconst 2) 1 29 := ⟨by decide +kernel, rfl⟩
theorem dX9_findEnds_29 : jm_d cX9_findEnds 29 (.irem) 1 30 := ⟨by decide +kernel, rfl⟩
theorem dX9_findEnds_30 : jm_d cX9_findEnds 30 (.iconst 1) 1 31 := ⟨by decide +kernel, rfl⟩
theorem dX9_findEnds_31 : jm_b cX9_findEnds 31 (.if_icmp .ne) 34 39 := ⟨8, by decide +kernel, rfl, by decide⟩
theorem dX9_findEnds_34 : jm_d cX9_findEnds 34 (.aload_n 0) 1 35 := ⟨by decide +kernel, rfl⟩
theorem dX9_findEnds_35 : jm_d cX9_findEnds 35 (.iload_n 2) 1 36 := ⟨by decide +kernel, rfl⟩
theorem dX9_findEnds_36 : jm_d cX9_findEnds 36 (.invokevirtual 359) 3 39 := ⟨by decide +kernel, rfl⟩
theorem dX9_findEnds_39 : jm_d cX9_findEnds 39 (.aload_n 0) 1 40 := ⟨by decide +kernel, rfl⟩
theorem dX9_findEnds_40 : jm_d cX9_findEnds 40 (.iload_n 3) 1 41 := ⟨by decide +kernel, rfl⟩
theorem dX9_findEnds_41 : jm_d cX9_findEnds 41 (.invokevirtual 229) 3 44 := ⟨by decide +kernel, rfl⟩
theorem dX9_findEnds_44 : jm_d cX9_findEnds 44 (.aload_n 0) 1 45 := ⟨by decide +kernel, rfl⟩
theorem dX9_findEnds_45 : jm_d cX9_findEnds 45 (.getfield 88) 3 48 := ⟨by decide +kernel, rfl⟩
theorem dX9_findEnds_48 : jm_d cX9_findEnds 48 (.iconst 2) 1 49 := ⟨by decide +kernel, rfl⟩
theorem dX9_findEnds_49 : jm_d cX9_findEnds 49 (.iload 4) 2 51 := ⟨by decide +kernel, rfl⟩
theorem dX9_findEnds_51 : jm_d cX9_findEnds 51 (.imul) 1 52 := ⟨by decide +kernel, rfl⟩
theorem dX9_findEnds_52 : jm_d cX9_findEnds 52 (.aload_n 0) 1 53 := ⟨by decide +kernel, rfl⟩
theorem dX9_findEnds_53 : jm_d cX9_findEnds 53 (.iload_n 1) 1 54 := ⟨by decide +kernel, rfl⟩
theorem dX9_findEnds_54 : jm_d cX9_findEnds 54 (.invokevirtual 282) 3 57 := ⟨by decide +kernel, rfl⟩
theorem dX9_findEnds_57 : jm_d cX9_findEnds 57 (.iconst 2) 1 58 := ⟨by decide +kernel, rfl⟩
theorem dX9_findEnds_58 : jm_d cX9_findEnds 58 (.iload 4) 2 60 := ⟨by decide +kernel, rfl⟩
theorem dX9_findEnds_60 : jm_d cX9_findEnds 60 (.iconst 2) 1 61 := ⟨by decide +kernel, rfl⟩
theorem dX9_findEnds_61 : jm_d cX9_findEnds 61 (.idiv) 1 62 := ⟨by decide +kernel, rfl⟩
theorem dX9_findEnds_62 : jm_d cX9_findEnds 62 (.imul) 1 63 := ⟨by decide +kernel, rfl⟩
theorem dX9_findEnds_63 : jm_d cX9_findEnds 63 (.iadd) 1 64 := ⟨by decide +kernel, rfl⟩
theorem dX9_findEnds_64 : jm_d cX9_findEnds 64 (.iastore) 1 65 := ⟨by decide +kernel, rfl⟩
theorem dX9_findEnds_65 : jm_d cX9_findEnds 65 (.aload_n 0) 1 66 := ⟨by decide +kernel, rfl⟩
theorem dX9_findEnds_66 : jm_d cX9_findEnds 66 (.getfield 88) 3 69 := ⟨by decide +kernel, rfl⟩
theorem dX9_findEnds_69 : jm_d cX9_findEnds 69 (.iconst 2) 1 70 := ⟨by decide +kernel, rfl⟩
theorem dX9_findEnds_70 : jm_d cX9_findEnds 70 (.iload 4) 2 72 := ⟨by decide +kernel, rfl⟩
theorem dX9_findEnds_72 : jm_d cX9_findEnds 72 (.imul) 1 73 := ⟨by decide +kernel, rfl⟩
theorem dX9_findEnds_73 : jm_d cX9_findEnds 73 (.iconst 1) 1 74 := ⟨by decide +kernel, rfl⟩
theorem dX9_findEnds_74 : jm_d cX9_findEnds 74 (.iadd) 1 75 := ⟨by decide +kernel, rfl⟩
theorem dX9_findEnds_75 : jm_d cX9_findEnds 75 (.aload_n 0) 1 76 := ⟨by decide +kernel, rfl⟩
theorem dX9_findEnds_76 : jm_d cX9_findEnds 76 (.iload_n 2) 1 77 := ⟨by decide +kernel, rfl⟩
theorem dX9_findEnds_77 : jm_d cX9_findEnds 77 (.invokevirtual 282) 3 80 := ⟨by decide +kernel, rfl⟩
theorem dX9_findEnds_80 : jm_d cX9_findEnds 80 (.iconst 2) 1 81 := ⟨by decide +kernel, rfl⟩
theorem dX9_findEnds_81 : jm_d cX9_findEnds 81 (.iload 4) 2 83 := ⟨by decide +kernel, rfl⟩
theorem dX9_findEnds_83 : jm_d cX9_findEnds 83 (.iconst 2) 1 84 := ⟨by decide +kernel, rfl⟩
theorem dX9_findEnds_84 : jm_d cX9_findEnds 84 (.irem) 1 85 := ⟨by decide +kernel, rfl⟩
theorem dX9_findEnds_85 : jm_d cX9_findEnds 85 (.imul) 1 86 := ⟨by decide +kernel, rfl⟩
theorem dX9_findEnds_86 : jm_d cX9_findEnds 86 (.iadd) 1 87 := ⟨by decide +kernel, rfl⟩
theorem dX9_findEnds_87 : jm_d cX9_findEnds 87 (.iastore) 1 88 := ⟨by decide +kernel, rfl⟩
theorem dX9_findEnds_88 : jm_d cX9_findEnds 88 (.aload_n 0) 1 89 := ⟨by decide +kernel, rfl⟩
theorem dX9_findEnds_89 : jm_d cX9_findEnds 89 (.invokevirtual 310) 3 92 := ⟨by decide +kernel, rfl⟩
theorem dX9_findEnds_92 : jm_d cX9_findEnds 92 (.iinc 4 1) 3 95 := ⟨by decide +kernel, rfl⟩
theorem dX9_findEnds_95 : jm_b cX9_findEnds 95 .goto 98 3 := ⟨(-92), by decide +kernel, rfl, by decide⟩
theorem dX9_findEnds_98 : jm_d cX9_findEnds 98 (.return_) 1 99 := ⟨by decide +kernel, rfl⟩
set_option maxHeartbeats 4000000 in
set_option maxRecDepth 100000 in
theorem kM_findEnds (E : jm_Ev) (hE : jm_dj E jm_LM) {M : jm_M} {p1 : Int32} {p2 : Int32} {p3 : Int32}  {r : jm_M} (h : sM_findEnds M p1 p2 p3 = some r) : jm_Ct E jm_LM yX9_findEnds cX9_findEnds 5 none 5 113 [.ref (jm_a E 0 0), .int p1, .int p2, .int p3] M none r := by
  refine jm_enter (lv := [some (.ref (jm_a E 0 0)), some (.int p1), some (.int p2), some (.int p3), none]) hE (by decide) (Nat.le_of_ble_eq_true rfl) rfl ?_
  intro z w F hz
  have G : jm_G w 0 [some (.ref (jm_a E 0 0)), some (.int p1), some (.int p2), some (.int p3), none] [] M (sM_findEnds M p1 p2 p3) (fun e => z none e) := by
    unfold sM_findEnds
    refine jm_iconst F dX9_findEnds_0 kc_0 ?_
    refine jm_istore (i := 4) (lv' := [some (.ref (jm_a E 0 0)), some (.int p1), some (.int p2), some (.int p3), some (.int 0)]) F dX9_findEnds_1 (by decide) rfl rfl ?_
    refine jm_bind (pcJ := 98) (lvJ := fun e20 => [none, none, none, none, none]) (stJ := fun _ => []) (MJ := fun e20 => e20) ?_ (fun e20 => ?_)
    · refine jm_weak F (lv' := [some (.ref (jm_a E 0 0)), some (.int p1), some (.int p2), some (.int p3), some (.int 0)]) ⟨rfl, rfl, rfl, rfl, rfl, trivial⟩ ?_
      refine jm_loopR (lvH := fun s1 => [some (.ref (jm_a E 0 0)), some (.int p1), some (.int p2), some (.int p3), some (.int s1.1)]) (MH := fun s1 => s1.2) (fun s1 => ?_) jm_N (0, M)
      unfold sM_findEnds_L3
      refine jm_iload F dX9_findEnds_3 rfl ?_
      refine jm_iconst F dX9_findEnds_5 kc_4 ?_
      refine jm_icmp_ge F dX9_findEnds_6 (fun c2 => ?_) (fun c2 => ?_)
      · exact jm_weakD F (lv' := [none, none, none, none, none]) trivial (fun h => h)
      · refine jm_aload_n (i := 0) F dX9_findEnds_9 rfl rfl ?_
        refine jm_callV (As := []) (st := []) (rv := fun _ => none) (mm := fun r => r) F dX9_findEnds_10 qX9_307 rfl lo_X9 rfl (fun r h => kM_minds E hE h) rfl (Nat.le_of_ble_eq_true rfl) ⟨Nat.le_of_ble_eq_true rfl, Nat.le_of_ble_eq_true rfl⟩ (fun r3 => ?_)
        refine jm_iload F dX9_findEnds_13 rfl ?_
        refine jm_iconst F dX9_findEnds_15 kc_2 ?_
        refine jm_idiv F dX9_findEnds_16 (fun v4 => ?_)
        refine jm_iconst F dX9_findEnds_17 kc_1 ?_
        refine jm_bind (pcJ := 26) (lvJ := fun e5 => [some (.ref (jm_a E 0 0)), some (.int p1), some (.int p2), some (.int p3), some (.int s1.1)]) (stJ := fun e5 => []) (MJ := fun e5 => e5) ?_ (fun e5 => ?_)
        · refine jm_icmp_ne F dX9_findEnds_18 (fun c6 => ?_) (fun c6 => ?_)
          · refine jm_aload_n (i := 0) F dX9_findEnds_21 rfl rfl ?_
            refine jm_iload_n (i := 1) F dX9_findEnds_22 rfl rfl ?_
            refine jm_callV (As := [.int p1]) (st := []) (rv := fun _ => none) (mm := fun r => r) F dX9_findEnds_23 qX9_359 rfl lo_X9 rfl (fun r h => kM_gives E hE h) rfl (Nat.le_of_ble_eq_true rfl) ⟨Nat.le_of_ble_eq_true rfl, Nat.le_of_ble_eq_true rfl⟩ (fun r7 => ?_)
            exact jm_weakD F (lv' := [some (.ref (jm_a E 0 0)), some (.int p1), some (.int p2), some (.int p3), some (.int s1.1)]) ⟨rfl, rfl, rfl, rfl, rfl, trivial⟩ (fun h => h)
          · exact jm_weakD F (lv' := [some (.ref (jm_a E 0 0)), some (.int p1), some (.int p2), some (.int p3), some (.int s1.1)]) ⟨rfl, rfl, rfl, rfl, rfl, trivial⟩ (fun h => h)
        · refine jm_iload F dX9_findEnds_26 rfl ?_
          refine jm_iconst F dX9_findEnds_28 kc_2 ?_
          refine jm_irem F dX9_findEnds_29 (fun v8 => ?_)
          refine jm_iconst F dX9_findEnds_30 kc_1 ?_
          refine jm_bind (pcJ := 39) (lvJ := fun e9 => [some (.ref (jm_a E 0 0)), some (.int p1), some (.int p2), some (.int p3), some (.int s1.1)]) (stJ := fun e9 => []) (MJ := fun e9 => e9) ?_ (fun e9 => ?_)
          · refine jm_icmp_ne F dX9_findEnds_31 (fun c10 => ?_) (fun c10 => ?_)
            · refine jm_aload_n (i := 0) F dX9_findEnds_34 rfl rfl ?_
              refine jm_iload_n (i := 2) F dX9_findEnds_35 rfl rfl ?_
              refine jm_callV (As := [.int p2]) (st := []) (rv := fun _ => none) (mm := fun r => r) F dX9_findEnds_36 qX9_359 rfl lo_X9 rfl (fun r h => kM_gives E hE h) rfl (Nat.le_of_ble_eq_true rfl) ⟨Nat.le_of_ble_eq_true rfl, Nat.le_of_ble_eq_true rfl⟩ (fun r11 => ?_)
              exact jm_weakD F (lv' := [some (.ref (jm_a E 0 0)), some (.int p1), some (.int p2), some (.int p3), some (.int s1.1)]) ⟨rfl, rfl, rfl, rfl, rfl, trivial⟩ (fun h => h)
            · exact jm_weakD F (lv' := [some (.ref (jm_a E 0 0)), some (.int p1), some (.int p2), some (.int p3), some (.int s1.1)]) ⟨rfl, rfl, rfl, rfl, rfl, trivial⟩ (fun h => h)
          · refine jm_aload_n (i := 0) F dX9_findEnds_39 rfl rfl ?_
            refine jm_iload_n (i := 3) F dX9_findEnds_40 rfl rfl ?_
            refine jm_callV (As := [.int p3]) (st := []) (rv := fun _ => none) (mm := fun r => r) F dX9_findEnds_41 qX9_229 rfl lo_X9 rfl (fun r h => kM_goes E hE h) rfl (Nat.le_of_ble_eq_true rfl) ⟨Nat.le_of_ble_eq_true rfl, Nat.le_of_ble_eq_true rfl⟩ (fun r12 => ?_)
            refine jm_aload_n (i := 0) F dX9_findEnds_44 rfl rfl ?_
            refine jm_getR F dX9_findEnds_45 fl_X9_88 lo_X9 rfl ?_
            refine jm_iconst F dX9_findEnds_48 kc_2 ?_
            refine jm_iload F dX9_findEnds_49 rfl ?_
            refine jm_imul F dX9_findEnds_51 ?_
            refine jm_aload_n (i := 0) F dX9_findEnds_52 rfl rfl ?_
            refine jm_iload_n (i := 1) F dX9_findEnds_53 rfl rfl ?_
            refine jm_callV (As := [.int p1]) (st := [.int (2 * s1.1), .ref (jm_a E 0 43)]) (rv := fun r => some (.int r)) (mm := fun _ => r12) F dX9_findEnds_54 qX9_282 rfl lo_X9 rfl (fun r h => kM_manyRead E hE h) rfl (Nat.le_of_ble_eq_true rfl) ⟨Nat.le_of_ble_eq_true rfl, Nat.le_of_ble_eq_true rfl⟩ (fun r13 => ?_)
            refine jm_iconst F dX9_findEnds_57 kc_2 ?_
            refine jm_iload F dX9_findEnds_58 rfl ?_
            refine jm_iconst F dX9_findEnds_60 kc_2 ?_
            refine jm_idiv F dX9_findEnds_61 (fun v14 => ?_)
            refine jm_imul F dX9_findEnds_62 ?_
            refine jm_iadd F dX9_findEnds_63 ?_
            refine jm_iast F dX9_findEnds_64 la_X9_43 (fun M15 => ?_)
            refine jm_aload_n (i := 0) F dX9_findEnds_65 rfl rfl ?_
            refine jm_getR F dX9_findEnds_66 fl_X9_88 lo_X9 rfl ?_
            refine jm_iconst F dX9_findEnds_69 kc_2 ?_
            refine jm_iload F dX9_findEnds_70 rfl ?_
            refine jm_imul F dX9_findEnds_72 ?_
            refine jm_iconst F dX9_findEnds_73 kc_1 ?_
            refine jm_iadd F dX9_findEnds_74 ?_
            refine jm_aload_n (i := 0) F dX9_findEnds_75 rfl rfl ?_
            refine jm_iload_n (i := 2) F dX9_findEnds_76 rfl rfl ?_
            refine jm_callV (As := [.int p2]) (st := [.int ((2 * s1.1) + 1), .ref (jm_a E 0 43)]) (rv := fun r => some (.int r)) (mm := fun _ => M15) F dX9_findEnds_77 qX9_282 rfl lo_X9 rfl (fun r h => kM_manyRead E hE h) rfl (Nat.le_of_ble_eq_true rfl) ⟨Nat.le_of_ble_eq_true rfl, Nat.le_of_ble_eq_true rfl⟩ (fun r16 => ?_)
            refine jm_iconst F dX9_findEnds_80 kc_2 ?_
            refine jm_iload F dX9_findEnds_81 rfl ?_
            refine jm_iconst F dX9_findEnds_83 kc_2 ?_
            refine jm_irem F dX9_findEnds_84 (fun v17 => ?_)
            refine jm_imul F dX9_findEnds_85 ?_
            refine jm_iadd F dX9_findEnds_86 ?_
            refine jm_iast F dX9_findEnds_87 la_X9_43 (fun M18 => ?_)
            refine jm_aload_n (i := 0) F dX9_findEnds_88 rfl rfl ?_
            refine jm_callV (As := []) (st := []) (rv := fun _ => none) (mm := fun r => r) F dX9_findEnds_89 qX9_310 rfl lo_X9 rfl (fun r h => kM_forgets E hE h) rfl (Nat.le_of_ble_eq_true rfl) ⟨Nat.le_of_ble_eq_true rfl, Nat.le_of_ble_eq_true rfl⟩ (fun r19 => ?_)
            refine jm_iinc (i := 4) (lv' := [some (.ref (jm_a E 0 0)), some (.int p1), some (.int p2), some (.int p3), some (.int (s1.1 + 1))]) F dX9_findEnds_92 kc_1 rfl (by decide) rfl rfl ?_
            refine jm_goto F dX9_findEnds_95 ?_
            exact jm_weakD F (lv' := [some (.ref (jm_a E 0 0)), some (.int p1), some (.int p2), some (.int p3), some (.int (s1.1 + 1))]) ⟨rfl, rfl, rfl, rfl, rfl, trivial⟩ (fun h => h)
    · exact jm_vret F dX9_findEnds_98 (fun h => h)
  exact G r h hz
theorem dX9_two_0 : jm_d cX9_two 0 (.aload_n 0) 1 1 := ⟨by decide +kernel, rfl⟩
theorem dX9_two_1 : jm_d cX9_two 1 (.iload_n 1) 1 2 := ⟨by decide +kernel, rfl⟩
theorem dX9_two_2 : jm_d cX9_two 2 (.iload_n 2) 1 3 := ⟨by decide +kernel, rfl⟩
theorem dX9_two_3 : jm_d cX9_two 3 (.invokevirtual 301) 3 6 := ⟨by decide +kernel, rfl⟩
theorem dX9_two_6 : jm_b cX9_two 6 (.ifCond .ne) 9 13 := ⟨7, by decide +kernel, rfl, by decide⟩
theorem dX9_two_9 : jm_d cX9_two 9 (.iconst (-1)) 1 10 := ⟨by decide +kernel, rfl⟩
theorem dX9_two_10 : jm_b cX9_two 10 .goto 13 20 := ⟨10, by decide +kernel, rfl, by decide⟩
theorem dX9_two_13 : jm_d cX9_two 13 (.iload_n 3) 1 14 := ⟨by decide +kernel, rfl⟩
theorem dX9_two_14 : jm_d cX9_two 14 (.iconst 1) 1 15 := ⟨by decide +kernel, rfl⟩
theorem dX9_two_15 : jm_d cX9_two 15 (.bipush 30) 2 17 := ⟨by decide +kernel, rfl⟩
theorem dX9_two_17 : jm_d cX9_two 17 (.invokestatic 166) 3 20 := ⟨by decide +kernel, rfl⟩
theorem dX9_two_20 : jm_d cX9_two 20 (.istore 4) 2 22 := ⟨by decide +kernel, rfl⟩
theorem dX9_two_22 : jm_d cX9_two 22 (.iload 4) 2 24 := ⟨by decide +kernel, rfl⟩
theorem dX9_two_24 : jm_b cX9_two 24 (.ifCond .eq) 27 34 := ⟨10, by decide +kernel, rfl, by decide⟩
theorem dX9_two_34 : jm_d cX9_two 34 (.aload_n 0) 1 35 := ⟨by decide +kernel, rfl⟩
theorem dX9_two_35 : jm_d cX9_two 35 (.iload_n 1) 1 36 := ⟨by decide +kernel, rfl⟩
theorem dX9_two_36 : jm_d cX9_two 36 (.iload_n 2) 1 37 := ⟨by decide +kernel, rfl⟩
theorem dX9_two_37 : jm_d cX9_two 37 (.iload_n 3) 1 38 := ⟨by decide +kernel, rfl⟩
theorem dX9_two_38 : jm_d cX9_two 38 (.invokevirtual 362) 3 41 := ⟨by decide +kernel, rfl⟩
theorem dX9_two_41 : jm_d cX9_two 41 (.iconst 0) 1 42 := ⟨by decide +kernel, rfl⟩
theorem dX9_two_42 : jm_d cX9_two 42 (.istore 5) 2 44 := ⟨by decide +kernel, rfl⟩
theorem dX9_two_44 : jm_d cX9_two 44 (.iload 5) 2 46 := ⟨by decide +kernel, rfl⟩
theorem dX9_two_46 : jm_d cX9_two 46 (.iconst 4) 1 47 := ⟨by decide +kernel, rfl⟩
theorem dX9_two_47 : jm_b cX9_two 47 (.if_icmp .ge) 50 119 := ⟨72, by decide +kernel, rfl, by decide⟩
theorem dX9_two_50 : jm_d cX9_two 50 (.aload_n 0) 1 51 := ⟨by decide +kernel, rfl⟩
theorem dX9_two_51 : jm_d cX9_two 51 (.getfield 88) 3 54 := ⟨by decide +kernel, rfl⟩
theorem dX9_two_54 : jm_d cX9_two 54 (.iconst 2) 1 55 := ⟨by decide +kernel, rfl⟩
theorem dX9_two_55 : jm_d cX9_two 55 (.iload 5) 2 57 := ⟨by decide +kernel, rfl⟩
theorem dX9_two_57 : jm_d cX9_two 57 (.iconst 2) 1 58 := ⟨by decide +kernel, rfl⟩
theorem dX9_two_58 : jm_d cX9_two 58 (.ixor) 1 59 := ⟨by decide +kernel, rfl⟩
theorem dX9_two_59 : jm_d cX9_two 59 (.imul) 1 60 := ⟨by decide +kernel, rfl⟩
theorem dX9_two_60 : jm_d cX9_two 60 (.iaload) 1 61 := ⟨by decide +kernel, rfl⟩
theorem dX9_two_61 : jm_d cX9_two 61 (.aload_n 0) 1 62 := ⟨by decide +kernel, rfl⟩
theorem dX9_two_62 : jm_d cX9_two 62 (.getfield 88) 3 65 := ⟨by decide +kernel, rfl⟩
theorem dX9_two_65 : jm_d cX9_two 65 (.iconst 2) 1 66 := ⟨by decide +kernel, rfl⟩
theorem dX9_two_66 : jm_d cX9_two 66 (.iload 5) 2 68 := ⟨by decide +kernel, rfl⟩
theorem dX9_two_68 : jm_d cX9_two 68 (.imul) 1 69 := ⟨by decide +kernel, rfl⟩
theorem dX9_two_69 : jm_d cX9_two 69 (.iaload) 1 70 := ⟨by decide +kernel, rfl⟩
theorem dX9_two_70 : jm_b cX9_two 70 (.if_icmp .gt) 73 113 := ⟨43, by decide +kernel, rfl, by decide⟩
theorem dX9_two_113 : jm_d cX9_two 113 (.iinc 5 1) 3 116 := ⟨by decide +kernel, rfl⟩
theorem dX9_two_116 : jm_b cX9_two 116 .goto 119 44 := ⟨(-72), by decide +kernel, rfl, by decide⟩
theorem dX9_two_73 : jm_d cX9_two 73 (.aload_n 0) 1 74 := ⟨by decide +kernel, rfl⟩
theorem dX9_two_74 : jm_d cX9_two 74 (.getfield 88) 3 77 := ⟨by decide +kernel, rfl⟩
theorem dX9_two_77 : jm_d cX9_two 77 (.iconst 2) 1 78 := ⟨by decide +kernel, rfl⟩
theorem dX9_two_78 : jm_d cX9_two 78 (.iload 5) 2 80 := ⟨by decide +kernel, rfl⟩
theorem dX9_two_80 : jm_d cX9_two 80 (.iconst 1) 1 81 := ⟨by decide +kernel, rfl⟩
theorem dX9_two_81 : jm_d cX9_two 81 (.ixor) 1 82 := ⟨by decide +kernel, rfl⟩
theorem dX9_two_82 : jm_d cX9_two 82 (.imul) 1 83 := ⟨by decide +kernel, rfl⟩
theorem dX9_two_83 : jm_d cX9_two 83 (.iconst 1) 1 84 := ⟨by decide +kernel, rfl⟩
theorem dX9_two_84 : jm_d cX9_two 84 (.iadd) 1 85 := ⟨by decide +kernel, rfl⟩
theorem dX9_two_85 : jm_d cX9_two 85 (.iaload) 1 86 := ⟨by decide +kernel, rfl⟩
theorem dX9_two_86 : jm_d cX9_two 86 (.aload_n 0) 1 87 := ⟨by decide +kernel, rfl⟩
theorem dX9_two_87 : jm_d cX9_two 87 (.getfield 88) 3 90 := ⟨by decide +kernel, rfl⟩
theorem dX9_two_90 : jm_d cX9_two 90 (.iconst 2) 1 91 := ⟨by decide +kernel, rfl⟩
theorem dX9_two_91 : jm_d cX9_two 91 (.iload 5) 2 93 := ⟨by decide +kernel, rfl⟩
theorem dX9_two_93 : jm_d cX9_two 93 (.imul) 1 94 := ⟨by decide +kernel, rfl⟩
theorem dX9_two_94 : jm_d cX9_two 94 (.iconst 1) 1 95 := ⟨by decide +kernel, rfl⟩
theorem dX9_two_95 : jm_d cX9_two 95 (.iadd) 1 96 := ⟨by decide +kernel, rfl⟩
theorem dX9_two_96 : jm_d cX9_two 96 (.iaload) 1 97 := ⟨by decide +kernel, rfl⟩
theorem dX9_two_97 : jm_b cX9_two 97 (.if_icmp .gt) 100 113 := ⟨16, by decide +kernel, rfl, by decide⟩
theorem dX9_two_100 : jm_d cX9_two 100 (.bipush 10) 2 102 := ⟨by decide +kernel, rfl⟩
theorem dX9_two_102 : jm_d cX9_two 102 (.iload 5) 2 104 := ⟨by decide +kernel, rfl⟩
theorem dX9_two_104 : jm_d cX9_two 104 (.iconst 2) 1 105 := ⟨by decide +kernel, rfl⟩
theorem dX9_two_105 : jm_d cX9_two 105 (.idiv) 1 106 := ⟨by decide +kernel, rfl⟩
theorem dX9_two_106 : jm_d cX9_two 106 (.imul) 1 107 := ⟨by decide +kernel, rfl⟩
theorem dX9_two_107 : jm_d cX9_two 107 (.iload 5) 2 109 := ⟨by decide +kernel, rfl⟩
theorem dX9_two_109 : jm_d cX9_two 109 (.iconst 2) 1 110 := ⟨by decide +kernel, rfl⟩
theorem dX9_two_110 : jm_d cX9_two 110 (.irem) 1 111 := ⟨by decide +kernel, rfl⟩
theorem dX9_two_111 : jm_d cX9_two 111 (.iadd) 1 112 := ⟨by decide +kernel, rfl⟩
theorem dX9_two_112 : jm_d cX9_two 112 (.ireturn) 1 113 := ⟨by decide +kernel, rfl⟩
theorem dX9_two_119 : jm_d cX9_two 119 (.bipush (-9)) 2 121 := ⟨by decide +kernel, rfl⟩
theorem dX9_two_121 : jm_d cX9_two 121 (.ireturn) 1 122 := ⟨by decide +kernel, rfl⟩
theorem dX9_two_27 : jm_d cX9_two 27 (.aload_n 0) 1 28 := ⟨by decide +kernel, rfl⟩
theorem dX9_two_28 : jm_d cX9_two 28 (.iload 4) 2 30 := ⟨by decide +kernel, rfl⟩
theorem dX9_two_30 : jm_d cX9_two 30 (.invokevirtual 172) 3 33 := ⟨by decide +kernel, rfl⟩
theorem dX9_two_33 : jm_d cX9_two 33 (.ireturn) 1 34 := ⟨by decide +kernel, rfl⟩
set_option maxHeartbeats 4000000 in
set_option maxRecDepth 100000 in
theorem kM_two (E : jm_Ev) (hE : jm_dj E jm_LM) {M : jm_M} {p1 : Int32} {p2 : Int32} {p3 : Int32}  {r : Int32 × jm_M} (h : sM_two M p1 p2 p3 = some r) : jm_Ct E jm_LM yX9_two cX9_two 6 (some .int) 6 137 [.ref (jm_a E 0 0), .int p1, .int p2, .int p3] M (some (.int r.1)) r.2 := by
  refine jm_enter (lv := [some (.ref (jm_a E 0 0)), some (.int p1), some (.int p2), some (.int p3), none, none]) hE (by decide) (Nat.le_of_ble_eq_true rfl) rfl ?_
  intro z w F hz
  have G : jm_G w 0 [some (.ref (jm_a E 0 0)), some (.int p1), some (.int p2), some (.int p3), none, none] [] M (sM_two M p1 p2 p3) (fun e => z (some (.int e.1)) e.2) := by
    unfold sM_two
    refine jm_aload_n (i := 0) F dX9_two_0 rfl rfl ?_
    refine jm_iload_n (i := 1) F dX9_two_1 rfl rfl ?_
    refine jm_iload_n (i := 2) F dX9_two_2 rfl rfl ?_
    refine jm_callV (As := [.int p1, .int p2]) (st := []) (rv := fun r => some (.int r)) (mm := fun _ => M) F dX9_two_3 qX9_301 rfl lo_X9 rfl (fun r h => kM_areTwo E hE h) rfl (Nat.le_of_ble_eq_true rfl) ⟨Nat.le_of_ble_eq_true rfl, Nat.le_of_ble_eq_true rfl⟩ (fun r1 => ?_)
    refine jm_bind (pcJ := 20) (lvJ := fun e2 => [some (.ref (jm_a E 0 0)), some (.int p1), some (.int p2), some (.int p3), none, none]) (stJ := fun e2 => [.int e2]) (MJ := fun e2 => M) ?_ (fun e2 => ?_)
    · refine jm_if_ne F dX9_two_6 (fun c3 => ?_) (fun c3 => ?_)
      · refine jm_iconst F dX9_two_9 kc_m1 ?_
        refine jm_goto F dX9_two_10 ?_
        exact jm_weakD F (lv' := [some (.ref (jm_a E 0 0)), some (.int p1), some (.int p2), some (.int p3), none, none]) ⟨rfl, rfl, rfl, rfl, trivial⟩ (fun h => h)
      · refine jm_iload_n (i := 3) F dX9_two_13 rfl rfl ?_
        refine jm_iconst F dX9_two_14 kc_1 ?_
        refine jm_bipush F dX9_two_15 kb_30 ?_
        refine jm_callS (As := [.int p3, .int 1, .int 30]) (st := []) (rv := fun r => some (.int r)) (mm := fun _ => M) F dX9_two_17 qX9_166 rfl (fun r h => kM_bound E hE h) rfl (Nat.le_of_ble_eq_true rfl) ⟨Nat.le_of_ble_eq_true rfl, Nat.le_of_ble_eq_true rfl⟩ (fun r4 => ?_)
        exact jm_weakD F (lv' := [some (.ref (jm_a E 0 0)), some (.int p1), some (.int p2), some (.int p3), none, none]) ⟨rfl, rfl, rfl, rfl, trivial⟩ (fun h => h)
    · refine jm_istore (i := 4) (lv' := [some (.ref (jm_a E 0 0)), some (.int p1), some (.int p2), some (.int p3), some (.int e2), none]) F dX9_two_20 (by decide) rfl rfl ?_
      refine jm_iload F dX9_two_22 rfl ?_
      refine jm_if_eq F dX9_two_24 (fun c5 => ?_) (fun c5 => ?_)
      · refine jm_aload_n (i := 0) F dX9_two_34 rfl rfl ?_
        refine jm_iload_n (i := 1) F dX9_two_35 rfl rfl ?_
        refine jm_iload_n (i := 2) F dX9_two_36 rfl rfl ?_
        refine jm_iload_n (i := 3) F dX9_two_37 rfl rfl ?_
        refine jm_callV (As := [.int p1, .int p2, .int p3]) (st := []) (rv := fun _ => none) (mm := fun r => r) F dX9_two_38 qX9_362 rfl lo_X9 rfl (fun r h => kM_findEnds E hE h) rfl (Nat.le_of_ble_eq_true rfl) ⟨Nat.le_of_ble_eq_true rfl, Nat.le_of_ble_eq_true rfl⟩ (fun r6 => ?_)
        refine jm_iconst F dX9_two_41 kc_0 ?_
        refine jm_istore (i := 5) (lv' := [some (.ref (jm_a E 0 0)), some (.int p1), some (.int p2), some (.int p3), some (.int e2), some (.int 0)]) F dX9_two_42 (by decide) rfl rfl ?_
        refine jm_bindS (pcJ := 119) (lvJ := fun e17 => [none, none, none, none, none, none]) (stJ := fun _ => []) (MJ := fun e17 => r6) ?_ (fun e17 => ?_)
        · refine jm_weak F (lv' := [some (.ref (jm_a E 0 0)), none, none, none, none, some (.int 0)]) ⟨rfl, rfl, trivial⟩ ?_
          refine jm_loopR (lvH := fun s7 => [some (.ref (jm_a E 0 0)), none, none, none, none, some (.int s7)]) (MH := fun s7 => r6) (fun s7 => ?_) jm_N 0
          unfold sM_two_L44
          refine jm_iload F dX9_two_44 rfl ?_
          refine jm_iconst F dX9_two_46 kc_4 ?_
          refine jm_icmp_ge F dX9_two_47 (fun c8 => ?_) (fun c8 => ?_)
          · exact jm_weakD F (lv' := [none, none, none, none, none, none]) trivial (fun h => h)
          · refine jm_aload_n (i := 0) F dX9_two_50 rfl rfl ?_
            refine jm_getR F dX9_two_51 fl_X9_88 lo_X9 rfl ?_
            refine jm_iconst F dX9_two_54 kc_2 ?_
            refine jm_iload F dX9_two_55 rfl ?_
            refine jm_iconst F dX9_two_57 kc_2 ?_
            refine jm_ixor F dX9_two_58 ?_
            refine jm_imul F dX9_two_59 ?_
            refine jm_iald F dX9_two_60 la_X9_43 (fun v9 => ?_)
            refine jm_aload_n (i := 0) F dX9_two_61 rfl rfl ?_
            refine jm_getR F dX9_two_62 fl_X9_88 lo_X9 rfl ?_
            refine jm_iconst F dX9_two_65 kc_2 ?_
            refine jm_iload F dX9_two_66 rfl ?_
            refine jm_imul F dX9_two_68 ?_
            refine jm_iald F dX9_two_69 la_X9_43 (fun v10 => ?_)
            refine jm_icmp_gt F dX9_two_70 (fun c11 => ?_) (fun c11 => ?_)
            · refine jm_iinc (i := 5) (lv' := [some (.ref (jm_a E 0 0)), none, none, none, none, some (.int (s7 + 1))]) F dX9_two_113 kc_1 rfl (by decide) rfl rfl ?_
              refine jm_goto F dX9_two_116 ?_
              exact jm_weakD F (lv' := [some (.ref (jm_a E 0 0)), none, none, none, none, some (.int (s7 + 1))]) ⟨rfl, rfl, trivial⟩ (fun h => h)
            · refine jm_aload_n (i := 0) F dX9_two_73 rfl rfl ?_
              refine jm_getR F dX9_two_74 fl_X9_88 lo_X9 rfl ?_
              refine jm_iconst F dX9_two_77 kc_2 ?_
              refine jm_iload F dX9_two_78 rfl ?_
              refine jm_iconst F dX9_two_80 kc_1 ?_
              refine jm_ixor F dX9_two_81 ?_
              refine jm_imul F dX9_two_82 ?_
              refine jm_iconst F dX9_two_83 kc_1 ?_
              refine jm_iadd F dX9_two_84 ?_
              refine jm_iald F dX9_two_85 la_X9_43 (fun v12 => ?_)
              refine jm_aload_n (i := 0) F dX9_two_86 rfl rfl ?_
              refine jm_getR F dX9_two_87 fl_X9_88 lo_X9 rfl ?_
              refine jm_iconst F dX9_two_90 kc_2 ?_
              refine jm_iload F dX9_two_91 rfl ?_
              refine jm_imul F dX9_two_93 ?_
              refine jm_iconst F dX9_two_94 kc_1 ?_
              refine jm_iadd F dX9_two_95 ?_
              refine jm_iald F dX9_two_96 la_X9_43 (fun v13 => ?_)
              refine jm_icmp_gt F dX9_two_97 (fun c14 => ?_) (fun c14 => ?_)
              · refine jm_iinc (i := 5) (lv' := [some (.ref (jm_a E 0 0)), none, none, none, none, some (.int (s7 + 1))]) F dX9_two_113 kc_1 rfl (by decide) rfl rfl ?_
                refine jm_goto F dX9_two_116 ?_
                exact jm_weakD F (lv' := [some (.ref (jm_a E 0 0)), none, none, none, none, some (.int (s7 + 1))]) ⟨rfl, rfl, trivial⟩ (fun h => h)
              · refine jm_bipush F dX9_two_100 kb_10 ?_
                refine jm_iload F dX9_two_102 rfl ?_
                refine jm_iconst F dX9_two_104 kc_2 ?_
                refine jm_idiv F dX9_two_105 (fun v15 => ?_)
                refine jm_imul F dX9_two_106 ?_
                refine jm_iload F dX9_two_107 rfl ?_
                refine jm_iconst F dX9_two_109 kc_2 ?_
                refine jm_irem F dX9_two_110 (fun v16 => ?_)
                refine jm_iadd F dX9_two_111 ?_
                exact jm_iret F dX9_two_112 (fun h => h)
        · refine jm_bipush F dX9_two_119 kb_m9 ?_
          exact jm_iret F dX9_two_121 (fun h => h)
      · refine jm_aload_n (i := 0) F dX9_two_27 rfl rfl ?_
        refine jm_iload F dX9_two_28 rfl ?_
        refine jm_callV (As := [.int e2]) (st := []) (rv := fun r => some (.int r.1)) (mm := fun r => r.2) F dX9_two_30 qX9_172 rfl lo_X9 rfl (fun r h => kM_no E hE h) rfl (Nat.le_of_ble_eq_true rfl) ⟨Nat.le_of_ble_eq_true rfl, Nat.le_of_ble_eq_true rfl⟩ (fun r18 => ?_)
        exact jm_iret F dX9_two_33 (fun h => h)
  exact G r h hz
theorem dX9_divisor_0 : jm_d cX9_divisor 0 (.lload_n 0) 1 1 := ⟨by decide +kernel, rfl⟩
theorem dX9_divisor_1 : jm_d cX9_divisor 1 (.lstore 4) 2 3 := ⟨by decide +kernel, rfl⟩
theorem dX9_divisor_3 : jm_d cX9_divisor 3 (.lload_n 2) 1 4 := ⟨by decide +kernel, rfl⟩
theorem dX9_divisor_4 : jm_d cX9_divisor 4 (.lstore 6) 2 6 := ⟨by decide +kernel, rfl⟩
theorem dX9_divisor_6 : jm_d cX9_divisor 6 (.lload 6) 2 8 := ⟨by decide +kernel, rfl⟩
theorem dX9_divisor_8 : jm_d cX9_divisor 8 (.lconst 0) 1 9 := ⟨by decide +kernel, rfl⟩
theorem dX9_divisor_9 : jm_d cX9_divisor 9 (.lcmp) 1 10 := ⟨by decide +kernel, rfl⟩
theorem dX9_divisor_10 : jm_b cX9_divisor 10 (.ifCond .eq) 13 31 := ⟨21, by decide +kernel, rfl, by decide⟩
theorem dX9_divisor_13 : jm_d cX9_divisor 13 (.lload 4) 2 15 := ⟨by decide +kernel, rfl⟩
theorem dX9_divisor_15 : jm_d cX9_divisor 15 (.lload 6) 2 17 := ⟨by decide +kernel, rfl⟩
theorem dX9_divisor_17 : jm_d cX9_divisor 17 (.lrem) 1 18 := ⟨by decide +kernel, rfl⟩
theorem dX9_divisor_18 : jm_d cX9_divisor 18 (.lstore 8) 2 20 := ⟨by decide +kernel, rfl⟩
theorem dX9_divisor_20 : jm_d cX9_divisor 20 (.lload 6) 2 22 := ⟨by decide +kernel, rfl⟩
theorem dX9_divisor_22 : jm_d cX9_divisor 22 (.lstore 4) 2 24 := ⟨by decide +kernel, rfl⟩
theorem dX9_divisor_24 : jm_d cX9_divisor 24 (.lload 8) 2 26 := ⟨by decide +kernel, rfl⟩
theorem dX9_divisor_26 : jm_d cX9_divisor 26 (.lstore 6) 2 28 := ⟨by decide +kernel, rfl⟩
theorem dX9_divisor_28 : jm_b cX9_divisor 28 .goto 31 6 := ⟨(-22), by decide +kernel, rfl, by decide⟩
theorem dX9_divisor_31 : jm_d cX9_divisor 31 (.lload 4) 2 33 := ⟨by decide +kernel, rfl⟩
theorem dX9_divisor_33 : jm_d cX9_divisor 33 (.lreturn) 1 34 := ⟨by decide +kernel, rfl⟩
set_option maxHeartbeats 4000000 in
set_option maxRecDepth 100000 in
theorem kM_divisor (E : jm_Ev) (hE : jm_dj E jm_LM) {p1 : Int64} {p2 : Int64} {M : jm_M}  {r : Int64} (h : sM_divisor p1 p2 = some r) : jm_Ct E jm_LM yX9_divisor cX9_divisor 10 (some .long) 0 0 [.long p1, .long p2] M (some (.long r)) M := by
  refine jm_enter (lv := [some (.long p1), none, some (.long p2), none, none, none, none, none, none, none]) hE (by decide) (Nat.le_of_ble_eq_true rfl) rfl ?_
  intro z w F hz
  have G : jm_G w 0 [some (.long p1), none, some (.long p2), none, none, none, none, none, none, none] [] M (sM_divisor p1 p2) (fun e => z (some (.long e)) M) := by
    unfold sM_divisor
    refine jm_lload_n (i := 0) F dX9_divisor_0 rfl rfl ?_
    refine jm_lstore (i := 4) (lv' := [some (.long p1), none, some (.long p2), none, some (.long p1), none, none, none, none, none]) F dX9_divisor_1 (by decide) rfl rfl ?_
    refine jm_lload_n (i := 2) F dX9_divisor_3 rfl rfl ?_
    refine jm_lstore (i := 6) (lv' := [some (.long p1), none, some (.long p2), none, some (.long p1), none, some (.long p2), none, none, none]) F dX9_divisor_4 (by decide) rfl rfl ?_
    refine jm_bind (pcJ := 31) (lvJ := fun e4 => [none, none, none, none, some (.long e4), none, none, none, none, none]) (stJ := fun _ => []) (MJ := fun e4 => M) ?_ (fun e4 => ?_)
    · refine jm_weak F (lv' := [none, none, none, none, some (.long p1), none, some (.long p2), none, none, none]) ⟨rfl, rfl, trivial⟩ ?_
      refine jm_loopR (lvH := fun s1 => [none, none, none, none, some (.long s1.1), none, some (.long s1.2), none, none, none]) (MH := fun s1 => M) (fun s1 => ?_) jm_N (p1, p2)
      unfold sM_divisor_L6
      refine jm_lload F dX9_divisor_6 rfl ?_
      refine jm_lconst (v := 0) F dX9_divisor_8 (by decide) ?_
      refine jm_lcmp F dX9_divisor_9 ?_
      refine jm_if_eq F dX9_divisor_10 (fun c2 => ?_) (fun c2 => ?_)
      · exact jm_weakD F (lv' := [none, none, none, none, some (.long s1.1), none, none, none, none, none]) ⟨rfl, trivial⟩ (fun h => h)
      · refine jm_lload F dX9_divisor_13 rfl ?_
        refine jm_lload F dX9_divisor_15 rfl ?_
        refine jm_lrem F dX9_divisor_17 (fun v3 => ?_)
        refine jm_lstore (i := 8) (lv' := [none, none, none, none, some (.long s1.1), none, some (.long s1.2), none, some (.long v3), none]) F dX9_divisor_18 (by decide) rfl rfl ?_
        refine jm_lload F dX9_divisor_20 rfl ?_
        refine jm_lstore (i := 4) (lv' := [none, none, none, none, some (.long s1.2), none, some (.long s1.2), none, some (.long v3), none]) F dX9_divisor_22 (by decide) rfl rfl ?_
        refine jm_lload F dX9_divisor_24 rfl ?_
        refine jm_lstore (i := 6) (lv' := [none, none, none, none, some (.long s1.2), none, some (.long v3), none, some (.long v3), none]) F dX9_divisor_26 (by decide) rfl rfl ?_
        refine jm_goto F dX9_divisor_28 ?_
        exact jm_weakD F (lv' := [none, none, none, none, some (.long s1.2), none, some (.long v3), none, none, none]) ⟨rfl, rfl, trivial⟩ (fun h => h)
    · refine jm_lload F dX9_divisor_31 rfl ?_
      exact jm_lret F dX9_divisor_33 (fun h => h)
  exact G r h hz
theorem dX9_partOf_0 : jm_d cX9_partOf 0 (.iload 4) 2 2 := ⟨by decide +kernel, rfl⟩
theorem dX9_partOf_2 : jm_b cX9_partOf 2 (.ifCond .ne) 5 9 := ⟨7, by decide +kernel, rfl, by decide⟩
theorem dX9_partOf_5 : jm_d cX9_partOf 5 (.lload_n 0) 1 6 := ⟨by decide +kernel, rfl⟩
theorem dX9_partOf_6 : jm_b cX9_partOf 6 .goto 9 10 := ⟨4, by decide +kernel, rfl, by decide⟩
theorem dX9_partOf_9 : jm_d cX9_partOf 9 (.lload_n 2) 1 10 := ⟨by decide +kernel, rfl⟩
theorem dX9_partOf_10 : jm_d cX9_partOf 10 (.lload_n 0) 1 11 := ⟨by decide +kernel, rfl⟩
theorem dX9_partOf_11 : jm_d cX9_partOf 11 (.lload_n 2) 1 12 := ⟨by decide +kernel, rfl⟩
theorem dX9_partOf_12 : jm_d cX9_partOf 12 (.invokestatic 365) 3 15 := ⟨by decide +kernel, rfl⟩
theorem dX9_partOf_15 : jm_d cX9_partOf 15 (.ldiv) 1 16 := ⟨by decide +kernel, rfl⟩
theorem dX9_partOf_16 : jm_d cX9_partOf 16 (.lreturn) 1 17 := ⟨by decide +kernel, rfl⟩
set_option maxHeartbeats 4000000 in
set_option maxRecDepth 100000 in
theorem kM_partOf (E : jm_Ev) (hE : jm_dj E jm_LM) {p1 : Int64} {p2 : Int64} {p3 : Int32} {M : jm_M}  {r : Int64} (h : sM_partOf p1 p2 p3 = some r) : jm_Ct E jm_LM yX9_partOf cX9_partOf 5 (some .long) 1 29 [.long p1, .long p2, .int p3] M (some (.long r)) M := by
  refine jm_enter (lv := [some (.long p1), none, some (.long p2), none, some (.int p3)]) hE (by decide) (Nat.le_of_ble_eq_true rfl) rfl ?_
  intro z w F hz
  have G : jm_G w 0 [some (.long p1), none, some (.long p2), none, some (.int p3)] [] M (sM_partOf p1 p2 p3) (fun e => z (some (.long e)) M) := by
    unfold sM_partOf
    refine jm_iload F dX9_partOf_0 rfl ?_
    refine jm_bind (pcJ := 10) (lvJ := fun e1 => [some (.long p1), none, some (.long p2), none, none]) (stJ := fun e1 => [.long e1]) (MJ := fun e1 => M) ?_ (fun e1 => ?_)
    · refine jm_if_ne F dX9_partOf_2 (fun c2 => ?_) (fun c2 => ?_)
      · refine jm_lload_n (i := 0) F dX9_partOf_5 rfl rfl ?_
        refine jm_goto F dX9_partOf_6 ?_
        exact jm_weakD F (lv' := [some (.long p1), none, some (.long p2), none, none]) ⟨rfl, rfl, trivial⟩ (fun h => h)
      · refine jm_lload_n (i := 2) F dX9_partOf_9 rfl rfl ?_
        exact jm_weakD F (lv' := [some (.long p1), none, some (.long p2), none, none]) ⟨rfl, rfl, trivial⟩ (fun h => h)
    · refine jm_lload_n (i := 0) F dX9_partOf_10 rfl rfl ?_
      refine jm_lload_n (i := 2) F dX9_partOf_11 rfl rfl ?_
      refine jm_callS (As := [.long p1, .long p2]) (st := [.long e1]) (rv := fun r => some (.long r)) (mm := fun _ => M) F dX9_partOf_12 qX9_365 rfl (fun r h => kM_divisor E hE h) rfl (Nat.le_of_ble_eq_true rfl) ⟨Nat.le_of_ble_eq_true rfl, Nat.le_of_ble_eq_true rfl⟩ (fun r3 => ?_)
      refine jm_ldiv F dX9_partOf_15 (fun v4 => ?_)
      exact jm_lret F dX9_partOf_16 (fun h => h)
  exact G r h hz
theorem dX9_damp_0 : jm_d cX9_damp 0 (.aload_n 0) 1 1 := ⟨by decide +kernel, rfl⟩
theorem dX9_damp_1 : jm_d cX9_damp 1 (.iload_n 1) 1 2 := ⟨by decide +kernel, rfl⟩
theorem dX9_damp_2 : jm_d cX9_damp 2 (.iload_n 2) 1 3 := ⟨by decide +kernel, rfl⟩
theorem dX9_damp_3 : jm_d cX9_damp 3 (.invokevirtual 301) 3 6 := ⟨by decide +kernel, rfl⟩
theorem dX9_damp_6 : jm_b cX9_damp 6 (.ifCond .ne) 9 13 := ⟨7, by decide +kernel, rfl, by decide⟩
theorem dX9_damp_9 : jm_d cX9_damp 9 (.iconst (-1)) 1 10 := ⟨by decide +kernel, rfl⟩
theorem dX9_damp_10 : jm_b cX9_damp 10 .goto 13 62 := ⟨52, by decide +kernel, rfl, by decide⟩
theorem dX9_damp_13 : jm_d cX9_damp 13 (.iload_n 3) 1 14 := ⟨by decide +kernel, rfl⟩
theorem dX9_damp_14 : jm_b cX9_damp 14 (.ifCond .lt) 17 23 := ⟨9, by decide +kernel, rfl, by decide⟩
theorem dX9_damp_23 : jm_d cX9_damp 23 (.bipush (-4)) 2 25 := ⟨by decide +kernel, rfl⟩
theorem dX9_damp_25 : jm_b cX9_damp 25 .goto 28 62 := ⟨37, by decide +kernel, rfl, by decide⟩
theorem dX9_damp_17 : jm_d cX9_damp 17 (.iload 4) 2 19 := ⟨by decide +kernel, rfl⟩
theorem dX9_damp_19 : jm_d cX9_damp 19 (.iconst 2) 1 20 := ⟨by decide +kernel, rfl⟩
theorem dX9_damp_20 : jm_b cX9_damp 20 (.if_icmp .ge) 23 28 := ⟨8, by decide +kernel, rfl, by decide⟩
theorem dX9_damp_28 : jm_d cX9_damp 28 (.iload_n 3) 1 29 := ⟨by decide +kernel, rfl⟩
theorem dX9_damp_29 : jm_d cX9_damp 29 (.bipush 7) 2 31 := ⟨by decide +kernel, rfl⟩
theorem dX9_damp_31 : jm_b cX9_damp 31 (.if_icmp .gt) 34 41 := ⟨10, by decide +kernel, rfl, by decide⟩
theorem dX9_damp_41 : jm_d cX9_damp 41 (.bipush (-6)) 2 43 := ⟨by decide +kernel, rfl⟩
theorem dX9_damp_43 : jm_b cX9_damp 43 .goto 46 62 := ⟨19, by decide +kernel, rfl, by decide⟩
theorem dX9_damp_34 : jm_d cX9_damp 34 (.iload 4) 2 36 := ⟨by decide +kernel, rfl⟩
theorem dX9_damp_36 : jm_d cX9_damp 36 (.bipush 20) 2 38 := ⟨by decide +kernel, rfl⟩
theorem dX9_damp_38 : jm_b cX9_damp 38 (.if_icmp .le) 41 46 := ⟨8, by decide +kernel, rfl, by decide⟩
theorem dX9_damp_46 : jm_d cX9_damp 46 (.iload 5) 2 48 := ⟨by decide +kernel, rfl⟩
theorem dX9_damp_48 : jm_d cX9_damp 48 (.iconst 0) 1 49 := ⟨by decide +kernel, rfl⟩
theorem dX9_damp_49 : jm_d cX9_damp 49 (.iconst 1) 1 50 := ⟨by decide +kernel, rfl⟩
theorem dX9_damp_50 : jm_d cX9_damp 50 (.invokestatic 98) 3 53 := ⟨by decide +kernel, rfl⟩
theorem dX9_damp_53 : jm_b cX9_damp 53 (.ifCond .ne) 56 61 := ⟨8, by decide +kernel, rfl, by decide⟩
theorem dX9_damp_56 : jm_d cX9_damp 56 (.bipush (-2)) 2 58 := ⟨by decide +kernel, rfl⟩
theorem dX9_damp_58 : jm_b cX9_damp 58 .goto 61 62 := ⟨4, by decide +kernel, rfl, by decide⟩
theorem dX9_damp_61 : jm_d cX9_damp 61 (.iconst 0) 1 62 := ⟨by decide +kernel, rfl⟩
theorem dX9_damp_62 : jm_d cX9_damp 62 (.istore 6) 2 64 := ⟨by decide +kernel, rfl⟩
theorem dX9_damp_64 : jm_d cX9_damp 64 (.iload 6) 2 66 := ⟨by decide +kernel, rfl⟩
theorem dX9_damp_66 : jm_b cX9_damp 66 (.ifCond .eq) 69 76 := ⟨10, by decide +kernel, rfl, by decide⟩
theorem dX9_damp_76 : jm_d cX9_damp 76 (.lconst 0) 1 77 := ⟨by decide +kernel, rfl⟩
theorem dX9_damp_77 : jm_d cX9_damp 77 (.lstore 7) 2 79 := ⟨by decide +kernel, rfl⟩
theorem dX9_damp_79 : jm_d cX9_damp 79 (.lconst 1) 1 80 := ⟨by decide +kernel, rfl⟩
theorem dX9_damp_80 : jm_d cX9_damp 80 (.lstore 9) 2 82 := ⟨by decide +kernel, rfl⟩
theorem dX9_damp_82 : jm_d cX9_damp 82 (.iconst 0) 1 83 := ⟨by decide +kernel, rfl⟩
theorem dX9_damp_83 : jm_d cX9_damp 83 (.istore 11) 2 85 := ⟨by decide +kernel, rfl⟩
theorem dX9_damp_85 : jm_d cX9_damp 85 (.iload 11) 2 87 := ⟨by decide +kernel, rfl⟩
theorem dX9_damp_87 : jm_d cX9_damp 87 (.iload_n 3) 1 88 := ⟨by decide +kernel, rfl⟩
theorem dX9_damp_88 : jm_b cX9_damp 88 (.if_icmp .ge) 91 105 := ⟨17, by decide +kernel, rfl, by decide⟩
theorem dX9_damp_91 : jm_d cX9_damp 91 (.lload 9) 2 93 := ⟨by decide +kernel, rfl⟩
theorem dX9_damp_93 : jm_d cX9_damp 93 (.iload 4) 2 95 := ⟨by decide +kernel, rfl⟩
theorem dX9_damp_95 : jm_d cX9_damp 95 (.i2l) 1 96 := ⟨by decide +kernel, rfl⟩
theorem dX9_damp_96 : jm_d cX9_damp 96 (.lmul) 1 97 := ⟨by decide +kernel, rfl⟩
theorem dX9_damp_97 : jm_d cX9_damp 97 (.lstore 9) 2 99 := ⟨by decide +kernel, rfl⟩
theorem dX9_damp_99 : jm_d cX9_damp 99 (.iinc 11 1) 3 102 := ⟨by decide +kernel, rfl⟩
theorem dX9_damp_102 : jm_b cX9_damp 102 .goto 105 85 := ⟨(-17), by decide +kernel, rfl, by decide⟩
theorem dX9_damp_105 : jm_d cX9_damp 105 (.iconst 0) 1 106 := ⟨by decide +kernel, rfl⟩
theorem dX9_damp_106 : jm_d cX9_damp 106 (.istore 11) 2 108 := ⟨by decide +kernel, rfl⟩
theorem dX9_damp_108 : jm_d cX9_damp 108 (.iload 11) 2 110 := ⟨by decide +kernel, rfl⟩
theorem dX9_damp_110 : jm_d cX9_damp 110 (.iconst 1) 1 111 := ⟨by decide +kernel, rfl⟩
theorem dX9_damp_111 : jm_d cX9_damp 111 (.iload_n 3) 1 112 := ⟨by decide +kernel, rfl⟩
theorem dX9_damp_112 : jm_d cX9_damp 112 (.ishl) 1 113 := ⟨by decide +kernel, rfl⟩
theorem dX9_damp_113 : jm_b cX9_damp 113 (.if_icmp .ge) 116 204 := ⟨91, by decide +kernel, rfl, by decide⟩
theorem dX9_damp_116 : jm_d cX9_damp 116 (.aload_n 0) 1 117 := ⟨by decide +kernel, rfl⟩
theorem dX9_damp_117 : jm_d cX9_damp 117 (.invokevirtual 307) 3 120 := ⟨by decide +kernel, rfl⟩
theorem dX9_damp_120 : jm_d cX9_damp 120 (.lconst 1) 1 121 := ⟨by decide +kernel, rfl⟩
theorem dX9_damp_121 : jm_d cX9_damp 121 (.lstore 12) 2 123 := ⟨by decide +kernel, rfl⟩
theorem dX9_damp_123 : jm_d cX9_damp 123 (.iconst 0) 1 124 := ⟨by decide +kernel, rfl⟩
theorem dX9_damp_124 : jm_d cX9_damp 124 (.istore 14) 2 126 := ⟨by decide +kernel, rfl⟩
theorem dX9_damp_126 : jm_d cX9_damp 126 (.iload 14) 2 128 := ⟨by decide +kernel, rfl⟩
theorem dX9_damp_128 : jm_d cX9_damp 128 (.iload_n 3) 1 129 := ⟨by decide +kernel, rfl⟩
theorem dX9_damp_129 : jm_b cX9_damp 129 (.if_icmp .ge) 132 174 := ⟨45, by decide +kernel, rfl, by decide⟩
theorem dX9_damp_132 : jm_d cX9_damp 132 (.aload_n 0) 1 133 := ⟨by decide +kernel, rfl⟩
theorem dX9_damp_133 : jm_d cX9_damp 133 (.iload 11) 2 135 := ⟨by decide +kernel, rfl⟩
theorem dX9_damp_135 : jm_d cX9_damp 135 (.iload 14) 2 137 := ⟨by decide +kernel, rfl⟩
theorem dX9_damp_137 : jm_d cX9_damp 137 (.invokestatic 132) 3 140 := ⟨by decide +kernel, rfl⟩
theorem dX9_damp_140 : jm_d cX9_damp 140 (.putfield 152) 3 143 := ⟨by decide +kernel, rfl⟩
theorem dX9_damp_143 : jm_d cX9_damp 143 (.lload 12) 2 145 := ⟨by decide +kernel, rfl⟩
theorem dX9_damp_145 : jm_d cX9_damp 145 (.aload_n 0) 1 146 := ⟨by decide +kernel, rfl⟩
theorem dX9_damp_146 : jm_d cX9_damp 146 (.getfield 152) 3 149 := ⟨by decide +kernel, rfl⟩
theorem dX9_damp_149 : jm_b cX9_damp 149 (.ifCond .eq) 152 156 := ⟨7, by decide +kernel, rfl, by decide⟩
theorem dX9_damp_156 : jm_d cX9_damp 156 (.iload 4) 2 158 := ⟨by decide +kernel, rfl⟩
theorem dX9_damp_158 : jm_d cX9_damp 158 (.iconst 1) 1 159 := ⟨by decide +kernel, rfl⟩
theorem dX9_damp_159 : jm_d cX9_damp 159 (.isub) 1 160 := ⟨by decide +kernel, rfl⟩
theorem dX9_damp_160 : jm_d cX9_damp 160 (.i2l) 1 161 := ⟨by decide +kernel, rfl⟩
theorem dX9_damp_152 : jm_d cX9_damp 152 (.lconst 1) 1 153 := ⟨by decide +kernel, rfl⟩
theorem dX9_damp_153 : jm_b cX9_damp 153 .goto 156 161 := ⟨8, by decide +kernel, rfl, by decide⟩
theorem dX9_damp_161 : jm_d cX9_damp 161 (.lmul) 1 162 := ⟨by decide +kernel, rfl⟩
theorem dX9_damp_162 : jm_d cX9_damp 162 (.lstore 12) 2 164 := ⟨by decide +kernel, rfl⟩
theorem dX9_damp_164 : jm_d cX9_damp 164 (.aload_n 0) 1 165 := ⟨by decide +kernel, rfl⟩
theorem dX9_damp_165 : jm_d cX9_damp 165 (.invokevirtual 163) 3 168 := ⟨by decide +kernel, rfl⟩
theorem dX9_damp_168 : jm_d cX9_damp 168 (.iinc 14 1) 3 171 := ⟨by decide +kernel, rfl⟩
theorem dX9_damp_171 : jm_b cX9_damp 171 .goto 174 126 := ⟨(-45), by decide +kernel, rfl, by decide⟩
theorem dX9_damp_174 : jm_d cX9_damp 174 (.lload 7) 2 176 := ⟨by decide +kernel, rfl⟩
theorem dX9_damp_176 : jm_d cX9_damp 176 (.aload_n 0) 1 177 := ⟨by decide +kernel, rfl⟩
theorem dX9_damp_177 : jm_d cX9_damp 177 (.iload_n 1) 1 178 := ⟨by decide +kernel, rfl⟩
theorem dX9_damp_178 : jm_d cX9_damp 178 (.iload_n 2) 1 179 := ⟨by decide +kernel, rfl⟩
theorem dX9_damp_179 : jm_d cX9_damp 179 (.invokevirtual 313) 3 182 := ⟨by decide +kernel, rfl⟩
theorem dX9_damp_182 : jm_b cX9_damp 182 (.ifCond .eq) 185 190 := ⟨8, by decide +kernel, rfl, by decide⟩
theorem dX9_damp_190 : jm_d cX9_damp 190 (.lconst 0) 1 191 := ⟨by decide +kernel, rfl⟩
theorem dX9_damp_185 : jm_d cX9_damp 185 (.lload 12) 2 187 := ⟨by decide +kernel, rfl⟩
theorem dX9_damp_187 : jm_b cX9_damp 187 .goto 190 191 := ⟨4, by decide +kernel, rfl, by decide⟩
theorem dX9_damp_191 : jm_d cX9_damp 191 (.ladd) 1 192 := ⟨by decide +kernel, rfl⟩
theorem dX9_damp_192 : jm_d cX9_damp 192 (.lstore 7) 2 194 := ⟨by decide +kernel, rfl⟩
theorem dX9_damp_194 : jm_d cX9_damp 194 (.aload_n 0) 1 195 := ⟨by decide +kernel, rfl⟩
theorem dX9_damp_195 : jm_d cX9_damp 195 (.invokevirtual 310) 3 198 := ⟨by decide +kernel, rfl⟩
theorem dX9_damp_198 : jm_d cX9_damp 198 (.iinc 11 1) 3 201 := ⟨by decide +kernel, rfl⟩
theorem dX9_damp_201 : jm_b cX9_damp 201 .goto 204 108 := ⟨(-93), by decide +kernel, rfl, by decide⟩
theorem dX9_damp_204 : jm_d cX9_damp 204 (.lload 7) 2 206 := ⟨by decide +kernel, rfl⟩
theorem dX9_damp_206 : jm_d cX9_damp 206 (.lload 9) 2 208 := ⟨by decide +kernel, rfl⟩
theorem dX9_damp_208 : jm_d cX9_damp 208 (.iload 5) 2 210 := ⟨by decide +kernel, rfl⟩
theorem dX9_damp_210 : jm_d cX9_damp 210 (.invokestatic 373) 3 213 := ⟨by decide +kernel, rfl⟩
theorem dX9_damp_213 : jm_d cX9_damp 213 (.lreturn) 1 214 := ⟨by decide +kernel, rfl⟩
theorem dX9_damp_69 : jm_d cX9_damp 69 (.aload_n 0) 1 70 := ⟨by decide +kernel, rfl⟩
theorem dX9_damp_70 : jm_d cX9_damp 70 (.iload 6) 2 72 := ⟨by decide +kernel, rfl⟩
theorem dX9_damp_72 : jm_d cX9_damp 72 (.invokevirtual 369) 3 75 := ⟨by decide +kernel, rfl⟩
theorem dX9_damp_75 : jm_d cX9_damp 75 (.lreturn) 1 76 := ⟨by decide +kernel, rfl⟩
set_option maxHeartbeats 4000000 in
set_option maxRecDepth 100000 in
theorem kM_damp (E : jm_Ev) (hE : jm_dj E jm_LM) {M : jm_M} {p1 : Int32} {p2 : Int32} {p3 : Int32} {p4 : Int32} {p5 : Int32}  {r : Int64 × jm_M} (h : sM_damp M p1 p2 p3 p4 p5 = some r) : jm_Ct E jm_LM yX9_damp cX9_damp 15 (some .long) 7 162 [.ref (jm_a E 0 0), .int p1, .int p2, .int p3, .int p4, .int p5] M (some (.long r.1)) r.2 := by
  refine jm_enter (lv := [some (.ref (jm_a E 0 0)), some (.int p1), some (.int p2), some (.int p3), some (.int p4), some (.int p5), none, none, none, none, none, none, none, none, none]) hE (by decide) (Nat.le_of_ble_eq_true rfl) rfl ?_
  intro z w F hz
  have G : jm_G w 0 [some (.ref (jm_a E 0 0)), some (.int p1), some (.int p2), some (.int p3), some (.int p4), some (.int p5), none, none, none, none, none, none, none, none, none] [] M (sM_damp M p1 p2 p3 p4 p5) (fun e => z (some (.long e.1)) e.2) := by
    unfold sM_damp
    refine jm_aload_n (i := 0) F dX9_damp_0 rfl rfl ?_
    refine jm_iload_n (i := 1) F dX9_damp_1 rfl rfl ?_
    refine jm_iload_n (i := 2) F dX9_damp_2 rfl rfl ?_
    refine jm_callV (As := [.int p1, .int p2]) (st := []) (rv := fun r => some (.int r)) (mm := fun _ => M) F dX9_damp_3 qX9_301 rfl lo_X9 rfl (fun r h => kM_areTwo E hE h) rfl (Nat.le_of_ble_eq_true rfl) ⟨Nat.le_of_ble_eq_true rfl, Nat.le_of_ble_eq_true rfl⟩ (fun r1 => ?_)
    refine jm_bind (pcJ := 62) (lvJ := fun e2 => [some (.ref (jm_a E 0 0)), some (.int p1), some (.int p2), some (.int p3), some (.int p4), some (.int p5), none, none, none, none, none, none, none, none, none]) (stJ := fun e2 => [.int e2]) (MJ := fun e2 => M) ?_ (fun e2 => ?_)
    · refine jm_if_ne F dX9_damp_6 (fun c3 => ?_) (fun c3 => ?_)
      · refine jm_iconst F dX9_damp_9 kc_m1 ?_
        refine jm_goto F dX9_damp_10 ?_
        exact jm_weakD F (lv' := [some (.ref (jm_a E 0 0)), some (.int p1), some (.int p2), some (.int p3), some (.int p4), some (.int p5), none, none, none, none, none, none, none, none, none]) ⟨rfl, rfl, rfl, rfl, rfl, rfl, trivial⟩ (fun h => h)
      · refine jm_iload_n (i := 3) F dX9_damp_13 rfl rfl ?_
        refine jm_if_lt F dX9_damp_14 (fun c4 => ?_) (fun c4 => ?_)
        · refine jm_bipush F dX9_damp_23 kb_m4 ?_
          refine jm_goto F dX9_damp_25 ?_
          exact jm_weakD F (lv' := [some (.ref (jm_a E 0 0)), some (.int p1), some (.int p2), some (.int p3), some (.int p4), some (.int p5), none, none, none, none, none, none, none, none, none]) ⟨rfl, rfl, rfl, rfl, rfl, rfl, trivial⟩ (fun h => h)
        · refine jm_iload F dX9_damp_17 rfl ?_
          refine jm_iconst F dX9_damp_19 kc_2 ?_
          refine jm_icmp_ge F dX9_damp_20 (fun c5 => ?_) (fun c5 => ?_)
          · refine jm_iload_n (i := 3) F dX9_damp_28 rfl rfl ?_
            refine jm_bipush F dX9_damp_29 kb_7 ?_
            refine jm_icmp_gt F dX9_damp_31 (fun c6 => ?_) (fun c6 => ?_)
            · refine jm_bipush F dX9_damp_41 kb_m6 ?_
              refine jm_goto F dX9_damp_43 ?_
              exact jm_weakD F (lv' := [some (.ref (jm_a E 0 0)), some (.int p1), some (.int p2), some (.int p3), some (.int p4), some (.int p5), none, none, none, none, none, none, none, none, none]) ⟨rfl, rfl, rfl, rfl, rfl, rfl, trivial⟩ (fun h => h)
            · refine jm_iload F dX9_damp_34 rfl ?_
              refine jm_bipush F dX9_damp_36 kb_20 ?_
              refine jm_icmp_le F dX9_damp_38 (fun c7 => ?_) (fun c7 => ?_)
              · refine jm_iload F dX9_damp_46 rfl ?_
                refine jm_iconst F dX9_damp_48 kc_0 ?_
                refine jm_iconst F dX9_damp_49 kc_1 ?_
                refine jm_callS (As := [.int p5, .int 0, .int 1]) (st := []) (rv := fun r => some (.int r)) (mm := fun _ => M) F dX9_damp_50 qX9_98 rfl (fun r h => kM_isIn E hE h) rfl (Nat.le_of_ble_eq_true rfl) ⟨Nat.le_of_ble_eq_true rfl, Nat.le_of_ble_eq_true rfl⟩ (fun r8 => ?_)
                refine jm_if_ne F dX9_damp_53 (fun c9 => ?_) (fun c9 => ?_)
                · refine jm_bipush F dX9_damp_56 kb_m2 ?_
                  refine jm_goto F dX9_damp_58 ?_
                  exact jm_weakD F (lv' := [some (.ref (jm_a E 0 0)), some (.int p1), some (.int p2), some (.int p3), some (.int p4), some (.int p5), none, none, none, none, none, none, none, none, none]) ⟨rfl, rfl, rfl, rfl, rfl, rfl, trivial⟩ (fun h => h)
                · refine jm_iconst F dX9_damp_61 kc_0 ?_
                  exact jm_weakD F (lv' := [some (.ref (jm_a E 0 0)), some (.int p1), some (.int p2), some (.int p3), some (.int p4), some (.int p5), none, none, none, none, none, none, none, none, none]) ⟨rfl, rfl, rfl, rfl, rfl, rfl, trivial⟩ (fun h => h)
              · refine jm_bipush F dX9_damp_41 kb_m6 ?_
                refine jm_goto F dX9_damp_43 ?_
                exact jm_weakD F (lv' := [some (.ref (jm_a E 0 0)), some (.int p1), some (.int p2), some (.int p3), some (.int p4), some (.int p5), none, none, none, none, none, none, none, none, none]) ⟨rfl, rfl, rfl, rfl, rfl, rfl, trivial⟩ (fun h => h)
          · refine jm_bipush F dX9_damp_23 kb_m4 ?_
            refine jm_goto F dX9_damp_25 ?_
            exact jm_weakD F (lv' := [some (.ref (jm_a E 0 0)), some (.int p1), some (.int p2), some (.int p3), some (.int p4), some (.int p5), none, none, none, none, none, none, none, none, none]) ⟨rfl, rfl, rfl, rfl, rfl, rfl, trivial⟩ (fun h => h)
    · refine jm_istore (i := 6) (lv' := [some (.ref (jm_a E 0 0)), some (.int p1), some (.int p2), some (.int p3), some (.int p4), some (.int p5), some (.int e2), none, none, none, none, none, none, none, none]) F dX9_damp_62 (by decide) rfl rfl ?_
      refine jm_iload F dX9_damp_64 rfl ?_
      refine jm_if_eq F dX9_damp_66 (fun c10 => ?_) (fun c10 => ?_)
      · refine jm_lconst (v := 0) F dX9_damp_76 (by decide) ?_
        refine jm_lstore (i := 7) (lv' := [some (.ref (jm_a E 0 0)), some (.int p1), some (.int p2), some (.int p3), some (.int p4), some (.int p5), some (.int e2), some (.long 0), none, none, none, none, none, none, none]) F dX9_damp_77 (by decide) rfl rfl ?_
        refine jm_lconst (v := 1) F dX9_damp_79 (by decide) ?_
        refine jm_lstore (i := 9) (lv' := [some (.ref (jm_a E 0 0)), some (.int p1), some (.int p2), some (.int p3), some (.int p4), some (.int p5), some (.int e2), some (.long 0), none, some (.long 1), none, none, none, none, none]) F dX9_damp_80 (by decide) rfl rfl ?_
        refine jm_iconst F dX9_damp_82 kc_0 ?_
        refine jm_istore (i := 11) (lv' := [some (.ref (jm_a E 0 0)), some (.int p1), some (.int p2), some (.int p3), some (.int p4), some (.int p5), some (.int e2), some (.long 0), none, some (.long 1), none, some (.int 0), none, none, none]) F dX9_damp_83 (by decide) rfl rfl ?_
        refine jm_bind (pcJ := 105) (lvJ := fun e14 => [some (.ref (jm_a E 0 0)), some (.int p1), some (.int p2), some (.int p3), some (.int p4), some (.int p5), none, some (.long 0), none, some (.long e14), none, none, none, none, none]) (stJ := fun _ => []) (MJ := fun e14 => M) ?_ (fun e14 => ?_)
        · refine jm_weak F (lv' := [some (.ref (jm_a E 0 0)), some (.int p1), some (.int p2), some (.int p3), some (.int p4), some (.int p5), none, some (.long 0), none, some (.long 1), none, some (.int 0), none, none, none]) ⟨rfl, rfl, rfl, rfl, rfl, rfl, rfl, rfl, rfl, trivial⟩ ?_
          refine jm_loopR (lvH := fun s11 => [some (.ref (jm_a E 0 0)), some (.int p1), some (.int p2), some (.int p3), some (.int p4), some (.int p5), none, some (.long 0), none, some (.long s11.1), none, some (.int s11.2), none, none, none]) (MH := fun s11 => M) (fun s11 => ?_) jm_N (1, 0)
          unfold sM_damp_L85
          refine jm_iload F dX9_damp_85 rfl ?_
          refine jm_iload_n (i := 3) F dX9_damp_87 rfl rfl ?_
          refine jm_icmp_ge F dX9_damp_88 (fun c12 => ?_) (fun c12 => ?_)
          · exact jm_weakD F (lv' := [some (.ref (jm_a E 0 0)), some (.int p1), some (.int p2), some (.int p3), some (.int p4), some (.int p5), none, some (.long 0), none, some (.long s11.1), none, none, none, none, none]) ⟨rfl, rfl, rfl, rfl, rfl, rfl, rfl, rfl, trivial⟩ (fun h => h)
          · refine jm_lload F dX9_damp_91 rfl ?_
            refine jm_iload F dX9_damp_93 rfl ?_
            refine jm_i2l F dX9_damp_95 ?_
            refine jm_lmul F dX9_damp_96 ?_
            refine jm_nameL (f := fun x13 => [.long x13]) (fun x13 => ?_) rfl
            refine jm_lstore (i := 9) (lv' := [some (.ref (jm_a E 0 0)), some (.int p1), some (.int p2), some (.int p3), some (.int p4), some (.int p5), none, some (.long 0), none, some (.long x13), none, some (.int s11.2), none, none, none]) F dX9_damp_97 (by decide) rfl rfl ?_
            refine jm_iinc (i := 11) (lv' := [some (.ref (jm_a E 0 0)), some (.int p1), some (.int p2), some (.int p3), some (.int p4), some (.int p5), none, some (.long 0), none, some (.long x13), none, some (.int (s11.2 + 1)), none, none, none]) F dX9_damp_99 kc_1 rfl (by decide) rfl rfl ?_
            refine jm_goto F dX9_damp_102 ?_
            exact jm_weakD F (lv' := [some (.ref (jm_a E 0 0)), some (.int p1), some (.int p2), some (.int p3), some (.int p4), some (.int p5), none, some (.long 0), none, some (.long x13), none, some (.int (s11.2 + 1)), none, none, none]) ⟨rfl, rfl, rfl, rfl, rfl, rfl, rfl, rfl, rfl, trivial⟩ (fun h => h)
        · refine jm_iconst F dX9_damp_105 kc_0 ?_
          refine jm_istore (i := 11) (lv' := [some (.ref (jm_a E 0 0)), some (.int p1), some (.int p2), some (.int p3), some (.int p4), some (.int p5), none, some (.long 0), none, some (.long e14), none, some (.int 0), none, none, none]) F dX9_damp_106 (by decide) rfl rfl ?_
          refine jm_bind (pcJ := 204) (lvJ := fun e32 => [none, none, none, none, none, some (.int p5), none, some (.long e32.1), none, some (.long e14), none, none, none, none, none]) (stJ := fun _ => []) (MJ := fun e32 => e32.2) ?_ (fun e32 => ?_)
          · refine jm_weak F (lv' := [some (.ref (jm_a E 0 0)), some (.int p1), some (.int p2), some (.int p3), some (.int p4), some (.int p5), none, some (.long 0), none, some (.long e14), none, some (.int 0), none, none, none]) ⟨rfl, rfl, rfl, rfl, rfl, rfl, rfl, rfl, rfl, trivial⟩ ?_
            refine jm_loopR (lvH := fun s15 => [some (.ref (jm_a E 0 0)), some (.int p1), some (.int p2), some (.int p3), some (.int p4), some (.int p5), none, some (.long s15.1), none, some (.long e14), none, some (.int s15.2.1), none, none, none]) (MH := fun s15 => s15.2.2) (fun s15 => ?_) jm_N (0, 0, M)
            unfold sM_damp_L108
            refine jm_iload F dX9_damp_108 rfl ?_
            refine jm_iconst F dX9_damp_110 kc_1 ?_
            refine jm_iload_n (i := 3) F dX9_damp_111 rfl rfl ?_
            refine jm_ishl F dX9_damp_112 ?_
            refine jm_icmp_ge F dX9_damp_113 (fun c16 => ?_) (fun c16 => ?_)
            · exact jm_weakD F (lv' := [none, none, none, none, none, some (.int p5), none, some (.long s15.1), none, some (.long e14), none, none, none, none, none]) ⟨rfl, rfl, rfl, trivial⟩ (fun h => h)
            · refine jm_aload_n (i := 0) F dX9_damp_116 rfl rfl ?_
              refine jm_callV (As := []) (st := []) (rv := fun _ => none) (mm := fun r => r) F dX9_damp_117 qX9_307 rfl lo_X9 rfl (fun r h => kM_minds E hE h) rfl (Nat.le_of_ble_eq_true rfl) ⟨Nat.le_of_ble_eq_true rfl, Nat.le_of_ble_eq_true rfl⟩ (fun r17 => ?_)
              refine jm_lconst (v := 1) F dX9_damp_120 (by decide) ?_
              refine jm_lstore (i := 12) (lv' := [some (.ref (jm_a E 0 0)), some (.int p1), some (.int p2), some (.int p3), some (.int p4), some (.int p5), none, some (.long s15.1), none, some (.long e14), none, some (.int s15.2.1), some (.long 1), none, none]) F dX9_damp_121 (by decide) rfl rfl ?_
              refine jm_iconst F dX9_damp_123 kc_0 ?_
              refine jm_istore (i := 14) (lv' := [some (.ref (jm_a E 0 0)), some (.int p1), some (.int p2), some (.int p3), some (.int p4), some (.int p5), none, some (.long s15.1), none, some (.long e14), none, some (.int s15.2.1), some (.long 1), none, some (.int 0)]) F dX9_damp_124 (by decide) rfl rfl ?_
              refine jm_bind (pcJ := 174) (lvJ := fun e26 => [some (.ref (jm_a E 0 0)), some (.int p1), some (.int p2), some (.int p3), some (.int p4), some (.int p5), none, some (.long s15.1), none, some (.long e14), none, some (.int s15.2.1), some (.long e26.1), none, none]) (stJ := fun _ => []) (MJ := fun e26 => e26.2) ?_ (fun e26 => ?_)
              · refine jm_weak F (lv' := [some (.ref (jm_a E 0 0)), some (.int p1), some (.int p2), some (.int p3), some (.int p4), some (.int p5), none, some (.long s15.1), none, some (.long e14), none, some (.int s15.2.1), some (.long 1), none, some (.int 0)]) ⟨rfl, rfl, rfl, rfl, rfl, rfl, rfl, rfl, rfl, rfl, rfl, trivial⟩ ?_
                refine jm_loopR (lvH := fun s18 => [some (.ref (jm_a E 0 0)), some (.int p1), some (.int p2), some (.int p3), some (.int p4), some (.int p5), none, some (.long s15.1), none, some (.long e14), none, some (.int s15.2.1), some (.long s18.1), none, some (.int s18.2.1)]) (MH := fun s18 => s18.2.2) (fun s18 => ?_) jm_N (1, 0, r17)
                unfold sM_damp_L126
                refine jm_iload F dX9_damp_126 rfl ?_
                refine jm_iload_n (i := 3) F dX9_damp_128 rfl rfl ?_
                refine jm_icmp_ge F dX9_damp_129 (fun c19 => ?_) (fun c19 => ?_)
                · exact jm_weakD F (lv' := [some (.ref (jm_a E 0 0)), some (.int p1), some (.int p2), some (.int p3), some (.int p4), some (.int p5), none, some (.long s15.1), none, some (.long e14), none, some (.int s15.2.1), some (.long s18.1), none, none]) ⟨rfl, rfl, rfl, rfl, rfl, rfl, rfl, rfl, rfl, rfl, trivial⟩ (fun h => h)
                · refine jm_aload_n (i := 0) F dX9_damp_132 rfl rfl ?_
                  refine jm_iload F dX9_damp_133 rfl ?_
                  refine jm_iload F dX9_damp_135 rfl ?_
                  refine jm_callS (As := [.int s15.2.1, .int s18.2.1]) (st := [.ref (jm_a E 0 0)]) (rv := fun r => some (.int r)) (mm := fun _ => s18.2.2) F dX9_damp_137 qX9_132 rfl (fun r h => kM_has E hE h) rfl (Nat.le_of_ble_eq_true rfl) ⟨Nat.le_of_ble_eq_true rfl, Nat.le_of_ble_eq_true rfl⟩ (fun r20 => ?_)
                  refine jm_putZ F dX9_damp_140 fp_X9_152 lo_X9 rfl (fun M21 => ?_)
                  refine jm_lload F dX9_damp_143 rfl ?_
                  refine jm_aload_n (i := 0) F dX9_damp_145 rfl rfl ?_
                  refine jm_getI F dX9_damp_146 fl_X9_152 lo_X9 rfl ?_
                  refine jm_bind (pcJ := 161) (lvJ := fun e22 => [some (.ref (jm_a E 0 0)), some (.int p1), some (.int p2), some (.int p3), some (.int p4), some (.int p5), none, some (.long s15.1), none, some (.long e14), none, some (.int s15.2.1), none, none, some (.int s18.2.1)]) (stJ := fun e22 => [.long e22, .long s18.1]) (MJ := fun e22 => M21) ?_ (fun e22 => ?_)
                  · refine jm_if_eq F dX9_damp_149 (fun c23 => ?_) (fun c23 => ?_)
                    · refine jm_iload F dX9_damp_156 rfl ?_
                      refine jm_iconst F dX9_damp_158 kc_1 ?_
                      refine jm_isub F dX9_damp_159 ?_
                      refine jm_i2l F dX9_damp_160 ?_
                      exact jm_weakD F (lv' := [some (.ref (jm_a E 0 0)), some (.int p1), some (.int p2), some (.int p3), some (.int p4), some (.int p5), none, some (.long s15.1), none, some (.long e14), none, some (.int s15.2.1), none, none, some (.int s18.2.1)]) ⟨rfl, rfl, rfl, rfl, rfl, rfl, rfl, rfl, rfl, rfl, trivial⟩ (fun h => h)
                    · refine jm_lconst (v := 1) F dX9_damp_152 (by decide) ?_
                      refine jm_goto F dX9_damp_153 ?_
                      exact jm_weakD F (lv' := [some (.ref (jm_a E 0 0)), some (.int p1), some (.int p2), some (.int p3), some (.int p4), some (.int p5), none, some (.long s15.1), none, some (.long e14), none, some (.int s15.2.1), none, none, some (.int s18.2.1)]) ⟨rfl, rfl, rfl, rfl, rfl, rfl, rfl, rfl, rfl, rfl, trivial⟩ (fun h => h)
                  · refine jm_lmul F dX9_damp_161 ?_
                    refine jm_nameL (f := fun x24 => [.long x24]) (fun x24 => ?_) rfl
                    refine jm_lstore (i := 12) (lv' := [some (.ref (jm_a E 0 0)), some (.int p1), some (.int p2), some (.int p3), some (.int p4), some (.int p5), none, some (.long s15.1), none, some (.long e14), none, some (.int s15.2.1), some (.long x24), none, some (.int s18.2.1)]) F dX9_damp_162 (by decide) rfl rfl ?_
                    refine jm_aload_n (i := 0) F dX9_damp_164 rfl rfl ?_
                    refine jm_callV (As := []) (st := []) (rv := fun _ => none) (mm := fun r => r) F dX9_damp_165 qX9_163 rfl lo_X9 rfl (fun r h => kM_goesWeek E hE h) rfl (Nat.le_of_ble_eq_true rfl) ⟨Nat.le_of_ble_eq_true rfl, Nat.le_of_ble_eq_true rfl⟩ (fun r25 => ?_)
                    refine jm_iinc (i := 14) (lv' := [some (.ref (jm_a E 0 0)), some (.int p1), some (.int p2), some (.int p3), some (.int p4), some (.int p5), none, some (.long s15.1), none, some (.long e14), none, some (.int s15.2.1), some (.long x24), none, some (.int (s18.2.1 + 1))]) F dX9_damp_168 kc_1 rfl (by decide) rfl rfl ?_
                    refine jm_goto F dX9_damp_171 ?_
                    exact jm_weakD F (lv' := [some (.ref (jm_a E 0 0)), some (.int p1), some (.int p2), some (.int p3), some (.int p4), some (.int p5), none, some (.long s15.1), none, some (.long e14), none, some (.int s15.2.1), some (.long x24), none, some (.int (s18.2.1 + 1))]) ⟨rfl, rfl, rfl, rfl, rfl, rfl, rfl, rfl, rfl, rfl, rfl, trivial⟩ (fun h => h)
              · refine jm_lload F dX9_damp_174 rfl ?_
                refine jm_aload_n (i := 0) F dX9_damp_176 rfl rfl ?_
                refine jm_iload_n (i := 1) F dX9_damp_177 rfl rfl ?_
                refine jm_iload_n (i := 2) F dX9_damp_178 rfl rfl ?_
                refine jm_callV (As := [.int p1, .int p2]) (st := [.long s15.1]) (rv := fun r => some (.int r)) (mm := fun _ => e26.2) F dX9_damp_179 qX9_313 rfl lo_X9 rfl (fun r h => kM_comesDown E hE h) rfl (Nat.le_of_ble_eq_true rfl) ⟨Nat.le_of_ble_eq_true rfl, Nat.le_of_ble_eq_true rfl⟩ (fun r27 => ?_)
                refine jm_bind (pcJ := 191) (lvJ := fun e28 => [some (.ref (jm_a E 0 0)), some (.int p1), some (.int p2), some (.int p3), some (.int p4), some (.int p5), none, none, none, some (.long e14), none, some (.int s15.2.1), none, none, none]) (stJ := fun e28 => [.long e28, .long s15.1]) (MJ := fun e28 => e26.2) ?_ (fun e28 => ?_)
                · refine jm_if_eq F dX9_damp_182 (fun c29 => ?_) (fun c29 => ?_)
                  · refine jm_lconst (v := 0) F dX9_damp_190 (by decide) ?_
                    exact jm_weakD F (lv' := [some (.ref (jm_a E 0 0)), some (.int p1), some (.int p2), some (.int p3), some (.int p4), some (.int p5), none, none, none, some (.long e14), none, some (.int s15.2.1), none, none, none]) ⟨rfl, rfl, rfl, rfl, rfl, rfl, rfl, rfl, trivial⟩ (fun h => h)
                  · refine jm_lload F dX9_damp_185 rfl ?_
                    refine jm_goto F dX9_damp_187 ?_
                    exact jm_weakD F (lv' := [some (.ref (jm_a E 0 0)), some (.int p1), some (.int p2), some (.int p3), some (.int p4), some (.int p5), none, none, none, some (.long e14), none, some (.int s15.2.1), none, none, none]) ⟨rfl, rfl, rfl, rfl, rfl, rfl, rfl, rfl, trivial⟩ (fun h => h)
                · refine jm_ladd F dX9_damp_191 ?_
                  refine jm_nameL (f := fun x30 => [.long x30]) (fun x30 => ?_) rfl
                  refine jm_lstore (i := 7) (lv' := [some (.ref (jm_a E 0 0)), some (.int p1), some (.int p2), some (.int p3), some (.int p4), some (.int p5), none, some (.long x30), none, some (.long e14), none, some (.int s15.2.1), none, none, none]) F dX9_damp_192 (by decide) rfl rfl ?_
                  refine jm_aload_n (i := 0) F dX9_damp_194 rfl rfl ?_
                  refine jm_callV (As := []) (st := []) (rv := fun _ => none) (mm := fun r => r) F dX9_damp_195 qX9_310 rfl lo_X9 rfl (fun r h => kM_forgets E hE h) rfl (Nat.le_of_ble_eq_true rfl) ⟨Nat.le_of_ble_eq_true rfl, Nat.le_of_ble_eq_true rfl⟩ (fun r31 => ?_)
                  refine jm_iinc (i := 11) (lv' := [some (.ref (jm_a E 0 0)), some (.int p1), some (.int p2), some (.int p3), some (.int p4), some (.int p5), none, some (.long x30), none, some (.long e14), none, some (.int (s15.2.1 + 1)), none, none, none]) F dX9_damp_198 kc_1 rfl (by decide) rfl rfl ?_
                  refine jm_goto F dX9_damp_201 ?_
                  exact jm_weakD F (lv' := [some (.ref (jm_a E 0 0)), some (.int p1), some (.int p2), some (.int p3), some (.int p4), some (.int p5), none, some (.long x30), none, some (.long e14), none, some (.int (s15.2.1 + 1)), none, none, none]) ⟨rfl, rfl, rfl, rfl, rfl, rfl, rfl, rfl, rfl, trivial⟩ (fun h => h)
          · refine jm_lload F dX9_damp_204 rfl ?_
            refine jm_lload F dX9_damp_206 rfl ?_
            refine jm_iload F dX9_damp_208 rfl ?_
            refine jm_callS (As := [.long e32.1, .long e14, .int p5]) (st := []) (rv := fun r => some (.long r)) (mm := fun _ => e32.2) F dX9_damp_210 qX9_373 rfl (fun r h => kM_partOf E hE h) rfl (Nat.le_of_ble_eq_true rfl) ⟨Nat.le_of_ble_eq_true rfl, Nat.le_of_ble_eq_true rfl⟩ (fun r33 => ?_)
            exact jm_lret F dX9_damp_213 (fun h => h)
      · refine jm_aload_n (i := 0) F dX9_damp_69 rfl rfl ?_
        refine jm_iload F dX9_damp_70 rfl ?_
        refine jm_callV (As := [.int e2]) (st := []) (rv := fun r => some (.long r.1)) (mm := fun r => r.2) F dX9_damp_72 qX9_369 rfl lo_X9 rfl (fun r h => kM_lowestOf E hE h) rfl (Nat.le_of_ble_eq_true rfl) ⟨Nat.le_of_ble_eq_true rfl, Nat.le_of_ble_eq_true rfl⟩ (fun r34 => ?_)
        exact jm_lret F dX9_damp_75 (fun h => h)
  exact G r h hz
theorem dX9_titles_0 : jm_d cX9_titles 0 (.aload_n 0) 1 1 := ⟨by decide +kernel, rfl⟩
theorem dX9_titles_1 : jm_d cX9_titles 1 (.iload_n 1) 1 2 := ⟨by decide +kernel, rfl⟩
theorem dX9_titles_2 : jm_d cX9_titles 2 (.invokevirtual 289) 3 5 := ⟨by decide +kernel, rfl⟩
theorem dX9_titles_5 : jm_b cX9_titles 5 (.ifCond .ne) 8 12 := ⟨7, by decide +kernel, rfl, by decide⟩
theorem dX9_titles_8 : jm_d cX9_titles 8 (.iconst (-1)) 1 9 := ⟨by decide +kernel, rfl⟩
theorem dX9_titles_9 : jm_b cX9_titles 9 .goto 12 27 := ⟨18, by decide +kernel, rfl, by decide⟩
theorem dX9_titles_12 : jm_d cX9_titles 12 (.iload_n 2) 1 13 := ⟨by decide +kernel, rfl⟩
theorem dX9_titles_13 : jm_d cX9_titles 13 (.iconst 0) 1 14 := ⟨by decide +kernel, rfl⟩
theorem dX9_titles_14 : jm_d cX9_titles 14 (.iconst 1) 1 15 := ⟨by decide +kernel, rfl⟩
theorem dX9_titles_15 : jm_d cX9_titles 15 (.invokestatic 98) 3 18 := ⟨by decide +kernel, rfl⟩
theorem dX9_titles_18 : jm_b cX9_titles 18 (.ifCond .ne) 21 26 := ⟨8, by decide +kernel, rfl, by decide⟩
theorem dX9_titles_21 : jm_d cX9_titles 21 (.bipush (-2)) 2 23 := ⟨by decide +kernel, rfl⟩
theorem dX9_titles_23 : jm_b cX9_titles 23 .goto 26 27 := ⟨4, by decide +kernel, rfl, by decide⟩
theorem dX9_titles_26 : jm_d cX9_titles 26 (.iconst 0) 1 27 := ⟨by decide +kernel, rfl⟩
theorem dX9_titles_27 : jm_d cX9_titles 27 (.istore_n 3) 1 28 := ⟨by decide +kernel, rfl⟩
theorem dX9_titles_28 : jm_d cX9_titles 28 (.iload_n 3) 1 29 := ⟨by decide +kernel, rfl⟩
theorem dX9_titles_29 : jm_b cX9_titles 29 (.ifCond .eq) 32 40 := ⟨11, by decide +kernel, rfl, by decide⟩
theorem dX9_titles_40 : jm_d cX9_titles 40 (.iload_n 2) 1 41 := ⟨by decide +kernel, rfl⟩
theorem dX9_titles_41 : jm_b cX9_titles 41 (.ifCond .ne) 44 52 := ⟨11, by decide +kernel, rfl, by decide⟩
theorem dX9_titles_44 : jm_d cX9_titles 44 (.aload_n 0) 1 45 := ⟨by decide +kernel, rfl⟩
theorem dX9_titles_45 : jm_d cX9_titles 45 (.iload_n 1) 1 46 := ⟨by decide +kernel, rfl⟩
theorem dX9_titles_46 : jm_d cX9_titles 46 (.invokevirtual 149) 3 49 := ⟨by decide +kernel, rfl⟩
theorem dX9_titles_49 : jm_b cX9_titles 49 .goto 52 63 := ⟨14, by decide +kernel, rfl, by decide⟩
theorem dX9_titles_63 : jm_d cX9_titles 63 (.ireturn) 1 64 := ⟨by decide +kernel, rfl⟩
theorem dX9_titles_52 : jm_d cX9_titles 52 (.aload_n 0) 1 53 := ⟨by decide +kernel, rfl⟩
theorem dX9_titles_53 : jm_d cX9_titles 53 (.aload_n 0) 1 54 := ⟨by decide +kernel, rfl⟩
theorem dX9_titles_54 : jm_d cX9_titles 54 (.iload_n 1) 1 55 := ⟨by decide +kernel, rfl⟩
theorem dX9_titles_55 : jm_d cX9_titles 55 (.invokevirtual 149) 3 58 := ⟨by decide +kernel, rfl⟩
theorem dX9_titles_58 : jm_d cX9_titles 58 (.iconst 1) 1 59 := ⟨by decide +kernel, rfl⟩
theorem dX9_titles_59 : jm_d cX9_titles 59 (.iadd) 1 60 := ⟨by decide +kernel, rfl⟩
theorem dX9_titles_60 : jm_d cX9_titles 60 (.invokevirtual 377) 3 63 := ⟨by decide +kernel, rfl⟩
theorem dX9_titles_32 : jm_d cX9_titles 32 (.aload_n 0) 1 33 := ⟨by decide +kernel, rfl⟩
theorem dX9_titles_33 : jm_d cX9_titles 33 (.iload_n 3) 1 34 := ⟨by decide +kernel, rfl⟩
theorem dX9_titles_34 : jm_d cX9_titles 34 (.invokevirtual 172) 3 37 := ⟨by decide +kernel, rfl⟩
theorem dX9_titles_37 : jm_b cX9_titles 37 .goto 40 63 := ⟨26, by decide +kernel, rfl, by decide⟩
set_option maxHeartbeats 4000000 in
set_option maxRecDepth 100000 in
theorem kM_titles (E : jm_Ev) (hE : jm_dj E jm_LM) {M : jm_M} {p1 : Int32} {p2 : Int32}  {r : Int32 × jm_M} (h : sM_titles M p1 p2 = some r) : jm_Ct E jm_LM yX9_titles cX9_titles 4 (some .int) 3 70 [.ref (jm_a E 0 0), .int p1, .int p2] M (some (.int r.1)) r.2 := by
  refine jm_enter (lv := [some (.ref (jm_a E 0 0)), some (.int p1), some (.int p2), none]) hE (by decide) (Nat.le_of_ble_eq_true rfl) rfl ?_
  intro z w F hz
  have G : jm_G w 0 [some (.ref (jm_a E 0 0)), some (.int p1), some (.int p2), none] [] M (sM_titles M p1 p2) (fun e => z (some (.int e.1)) e.2) := by
    unfold sM_titles
    refine jm_aload_n (i := 0) F dX9_titles_0 rfl rfl ?_
    refine jm_iload_n (i := 1) F dX9_titles_1 rfl rfl ?_
    refine jm_callV (As := [.int p1]) (st := []) (rv := fun r => some (.int r)) (mm := fun _ => M) F dX9_titles_2 qX9_289 rfl lo_X9 rfl (fun r h => kM_isBook E hE h) rfl (Nat.le_of_ble_eq_true rfl) ⟨Nat.le_of_ble_eq_true rfl, Nat.le_of_ble_eq_true rfl⟩ (fun r1 => ?_)
    refine jm_bind (pcJ := 27) (lvJ := fun e2 => [some (.ref (jm_a E 0 0)), some (.int p1), some (.int p2), none]) (stJ := fun e2 => [.int e2]) (MJ := fun e2 => M) ?_ (fun e2 => ?_)
    · refine jm_if_ne F dX9_titles_5 (fun c3 => ?_) (fun c3 => ?_)
      · refine jm_iconst F dX9_titles_8 kc_m1 ?_
        refine jm_goto F dX9_titles_9 ?_
        exact jm_weakD F (lv' := [some (.ref (jm_a E 0 0)), some (.int p1), some (.int p2), none]) ⟨rfl, rfl, rfl, trivial⟩ (fun h => h)
      · refine jm_iload_n (i := 2) F dX9_titles_12 rfl rfl ?_
        refine jm_iconst F dX9_titles_13 kc_0 ?_
        refine jm_iconst F dX9_titles_14 kc_1 ?_
        refine jm_callS (As := [.int p2, .int 0, .int 1]) (st := []) (rv := fun r => some (.int r)) (mm := fun _ => M) F dX9_titles_15 qX9_98 rfl (fun r h => kM_isIn E hE h) rfl (Nat.le_of_ble_eq_true rfl) ⟨Nat.le_of_ble_eq_true rfl, Nat.le_of_ble_eq_true rfl⟩ (fun r4 => ?_)
        refine jm_if_ne F dX9_titles_18 (fun c5 => ?_) (fun c5 => ?_)
        · refine jm_bipush F dX9_titles_21 kb_m2 ?_
          refine jm_goto F dX9_titles_23 ?_
          exact jm_weakD F (lv' := [some (.ref (jm_a E 0 0)), some (.int p1), some (.int p2), none]) ⟨rfl, rfl, rfl, trivial⟩ (fun h => h)
        · refine jm_iconst F dX9_titles_26 kc_0 ?_
          exact jm_weakD F (lv' := [some (.ref (jm_a E 0 0)), some (.int p1), some (.int p2), none]) ⟨rfl, rfl, rfl, trivial⟩ (fun h => h)
    · refine jm_istore_n (i := 3) (lv' := [some (.ref (jm_a E 0 0)), some (.int p1), some (.int p2), some (.int e2)]) F dX9_titles_27 rfl (by decide) rfl rfl ?_
      refine jm_iload_n (i := 3) F dX9_titles_28 rfl rfl ?_
      refine jm_if_eq F dX9_titles_29 (fun c6 => ?_) (fun c6 => ?_)
      · refine jm_iload_n (i := 2) F dX9_titles_40 rfl rfl ?_
        refine jm_if_ne F dX9_titles_41 (fun c7 => ?_) (fun c7 => ?_)
        · refine jm_aload_n (i := 0) F dX9_titles_44 rfl rfl ?_
          refine jm_iload_n (i := 1) F dX9_titles_45 rfl rfl ?_
          refine jm_callV (As := [.int p1]) (st := []) (rv := fun r => some (.int r)) (mm := fun _ => M) F dX9_titles_46 qX9_149 rfl lo_X9 rfl (fun r h => kM_rankOf E hE h) rfl (Nat.le_of_ble_eq_true rfl) ⟨Nat.le_of_ble_eq_true rfl, Nat.le_of_ble_eq_true rfl⟩ (fun r8 => ?_)
          refine jm_goto F dX9_titles_49 ?_
          exact jm_iret F dX9_titles_63 (fun h => h)
        · refine jm_aload_n (i := 0) F dX9_titles_52 rfl rfl ?_
          refine jm_aload_n (i := 0) F dX9_titles_53 rfl rfl ?_
          refine jm_iload_n (i := 1) F dX9_titles_54 rfl rfl ?_
          refine jm_callV (As := [.int p1]) (st := [.ref (jm_a E 0 0)]) (rv := fun r => some (.int r)) (mm := fun _ => M) F dX9_titles_55 qX9_149 rfl lo_X9 rfl (fun r h => kM_rankOf E hE h) rfl (Nat.le_of_ble_eq_true rfl) ⟨Nat.le_of_ble_eq_true rfl, Nat.le_of_ble_eq_true rfl⟩ (fun r9 => ?_)
          refine jm_iconst F dX9_titles_58 kc_1 ?_
          refine jm_iadd F dX9_titles_59 ?_
          refine jm_callV (As := [.int (r9 + 1)]) (st := []) (rv := fun r => some (.int r)) (mm := fun _ => M) F dX9_titles_60 qX9_377 rfl lo_X9 rfl (fun r h => kM_ofRank E hE h) rfl (Nat.le_of_ble_eq_true rfl) ⟨Nat.le_of_ble_eq_true rfl, Nat.le_of_ble_eq_true rfl⟩ (fun r10 => ?_)
          exact jm_iret F dX9_titles_63 (fun h => h)
      · refine jm_aload_n (i := 0) F dX9_titles_32 rfl rfl ?_
        refine jm_iload_n (i := 3) F dX9_titles_33 rfl rfl ?_
        refine jm_callV (As := [.int e2]) (st := []) (rv := fun r => some (.int r.1)) (mm := fun r => r.2) F dX9_titles_34 qX9_172 rfl lo_X9 rfl (fun r h => kM_no E hE h) rfl (Nat.le_of_ble_eq_true rfl) ⟨Nat.le_of_ble_eq_true rfl, Nat.le_of_ble_eq_true rfl⟩ (fun r11 => ?_)
        refine jm_goto F dX9_titles_37 ?_
        exact jm_iret F dX9_titles_63 (fun h => h)
  exact G r h hz
theorem dX9_from_0 : jm_d cX9_from 0 (.iload_n 1) 1 1 := ⟨by decide +kernel, rfl⟩
theorem dX9_from_1 : jm_d cX9_from 1 (.iconst 0) 1 2 := ⟨by decide +kernel, rfl⟩
theorem dX9_from_2 : jm_d cX9_from 2 (.bipush 25) 2 4 := ⟨by decide +kernel, rfl⟩
theorem dX9_from_4 : jm_d cX9_from 4 (.invokestatic 166) 3 7 := ⟨by decide +kernel, rfl⟩
theorem dX9_from_7 : jm_d cX9_from 7 (.istore_n 2) 1 8 := ⟨by decide +kernel, rfl⟩
theorem dX9_from_8 : jm_d cX9_from 8 (.iload_n 2) 1 9 := ⟨by decide +kernel, rfl⟩
theorem dX9_from_9 : jm_b cX9_from 9 (.ifCond .eq) 12 18 := ⟨9, by decide +kernel, rfl, by decide⟩
theorem dX9_from_18 : jm_d cX9_from 18 (.iconst 0) 1 19 := ⟨by decide +kernel, rfl⟩
theorem dX9_from_19 : jm_d cX9_from 19 (.istore_n 3) 1 20 := ⟨by decide +kernel, rfl⟩
theorem dX9_from_20 : jm_d cX9_from 20 (.iconst 0) 1 21 := ⟨by decide +kernel, rfl⟩
theorem dX9_from_21 : jm_d cX9_from 21 (.istore 4) 2 23 := ⟨by decide +kernel, rfl⟩
theorem dX9_from_23 : jm_d cX9_from 23 (.iload 4) 2 25 := ⟨by decide +kernel, rfl⟩
theorem dX9_from_25 : jm_d cX9_from 25 (.aload_n 0) 1 26 := ⟨by decide +kernel, rfl⟩
theorem dX9_from_26 : jm_d cX9_from 26 (.getfield 106) 3 29 := ⟨by decide +kernel, rfl⟩
theorem dX9_from_29 : jm_b cX9_from 29 (.if_icmp .ge) 32 59 := ⟨30, by decide +kernel, rfl, by decide⟩
theorem dX9_from_32 : jm_d cX9_from 32 (.iload_n 3) 1 33 := ⟨by decide +kernel, rfl⟩
theorem dX9_from_33 : jm_d cX9_from 33 (.aload_n 0) 1 34 := ⟨by decide +kernel, rfl⟩
theorem dX9_from_34 : jm_d cX9_from 34 (.getfield 40) 3 37 := ⟨by decide +kernel, rfl⟩
theorem dX9_from_37 : jm_d cX9_from 37 (.iconst 4) 1 38 := ⟨by decide +kernel, rfl⟩
theorem dX9_from_38 : jm_d cX9_from 38 (.iload 4) 2 40 := ⟨by decide +kernel, rfl⟩
theorem dX9_from_40 : jm_d cX9_from 40 (.imul) 1 41 := ⟨by decide +kernel, rfl⟩
theorem dX9_from_41 : jm_d cX9_from 41 (.iaload) 1 42 := ⟨by decide +kernel, rfl⟩
theorem dX9_from_42 : jm_d cX9_from 42 (.iload_n 1) 1 43 := ⟨by decide +kernel, rfl⟩
theorem dX9_from_43 : jm_b cX9_from 43 (.if_icmp .ge) 46 50 := ⟨7, by decide +kernel, rfl, by decide⟩
theorem dX9_from_50 : jm_d cX9_from 50 (.iconst 0) 1 51 := ⟨by decide +kernel, rfl⟩
theorem dX9_from_51 : jm_d cX9_from 51 (.iadd) 1 52 := ⟨by decide +kernel, rfl⟩
theorem dX9_from_52 : jm_d cX9_from 52 (.istore_n 3) 1 53 := ⟨by decide +kernel, rfl⟩
theorem dX9_from_53 : jm_d cX9_from 53 (.iinc 4 1) 3 56 := ⟨by decide +kernel, rfl⟩
theorem dX9_from_56 : jm_b cX9_from 56 .goto 59 23 := ⟨(-33), by decide +kernel, rfl, by decide⟩
theorem dX9_from_46 : jm_d cX9_from 46 (.iconst 1) 1 47 := ⟨by decide +kernel, rfl⟩
theorem dX9_from_47 : jm_b cX9_from 47 .goto 50 51 := ⟨4, by decide +kernel, rfl, by decide⟩
theorem dX9_from_59 : jm_d cX9_from 59 (.aload_n 0) 1 60 := ⟨by decide +kernel, rfl⟩
theorem dX9_from_60 : jm_d cX9_from 60 (.iload_n 3) 1 61 := ⟨by decide +kernel, rfl⟩
theorem dX9_from_61 : jm_d cX9_from 61 (.invokevirtual 377) 3 64 := ⟨by decide +kernel, rfl⟩
theorem dX9_from_64 : jm_d cX9_from 64 (.ireturn) 1 65 := ⟨by decide +kernel, rfl⟩
theorem dX9_from_12 : jm_d cX9_from 12 (.aload_n 0) 1 13 := ⟨by decide +kernel, rfl⟩
theorem dX9_from_13 : jm_d cX9_from 13 (.iload_n 2) 1 14 := ⟨by decide +kernel, rfl⟩
theorem dX9_from_14 : jm_d cX9_from 14 (.invokevirtual 172) 3 17 := ⟨by decide +kernel, rfl⟩
theorem dX9_from_17 : jm_d cX9_from 17 (.ireturn) 1 18 := ⟨by decide +kernel, rfl⟩
set_option maxHeartbeats 4000000 in
set_option maxRecDepth 100000 in
theorem kM_from (E : jm_Ev) (hE : jm_dj E jm_LM) {M : jm_M} {p1 : Int32}  {r : Int32 × jm_M} (h : sM_from M p1 = some r) : jm_Ct E jm_LM yX9_from cX9_from 5 (some .int) 3 70 [.ref (jm_a E 0 0), .int p1] M (some (.int r.1)) r.2 := by
  refine jm_enter (lv := [some (.ref (jm_a E 0 0)), some (.int p1), none, none, none]) hE (by decide) (Nat.le_of_ble_eq_true rfl) rfl ?_
  intro z w F hz
  have G : jm_G w 0 [some (.ref (jm_a E 0 0)), some (.int p1), none, none, none] [] M (sM_from M p1) (fun e => z (some (.int e.1)) e.2) := by
    unfold sM_from
    refine jm_iload_n (i := 1) F dX9_from_0 rfl rfl ?_
    refine jm_iconst F dX9_from_1 kc_0 ?_
    refine jm_bipush F dX9_from_2 kb_25 ?_
    refine jm_callS (As := [.int p1, .int 0, .int 25]) (st := []) (rv := fun r => some (.int r)) (mm := fun _ => M) F dX9_from_4 qX9_166 rfl (fun r h => kM_bound E hE h) rfl (Nat.le_of_ble_eq_true rfl) ⟨Nat.le_of_ble_eq_true rfl, Nat.le_of_ble_eq_true rfl⟩ (fun r1 => ?_)
    refine jm_istore_n (i := 2) (lv' := [some (.ref (jm_a E 0 0)), some (.int p1), some (.int r1), none, none]) F dX9_from_7 rfl (by decide) rfl rfl ?_
    refine jm_iload_n (i := 2) F dX9_from_8 rfl rfl ?_
    refine jm_if_eq F dX9_from_9 (fun c2 => ?_) (fun c2 => ?_)
    · refine jm_iconst F dX9_from_18 kc_0 ?_
      refine jm_istore_n (i := 3) (lv' := [some (.ref (jm_a E 0 0)), some (.int p1), some (.int r1), some (.int 0), none]) F dX9_from_19 rfl (by decide) rfl rfl ?_
      refine jm_iconst F dX9_from_20 kc_0 ?_
      refine jm_istore (i := 4) (lv' := [some (.ref (jm_a E 0 0)), some (.int p1), some (.int r1), some (.int 0), some (.int 0)]) F dX9_from_21 (by decide) rfl rfl ?_
      refine jm_bind (pcJ := 59) (lvJ := fun e9 => [some (.ref (jm_a E 0 0)), none, none, some (.int e9), none]) (stJ := fun _ => []) (MJ := fun e9 => M) ?_ (fun e9 => ?_)
      · refine jm_weak F (lv' := [some (.ref (jm_a E 0 0)), some (.int p1), none, some (.int 0), some (.int 0)]) ⟨rfl, rfl, rfl, rfl, trivial⟩ ?_
        refine jm_loopR (lvH := fun s3 => [some (.ref (jm_a E 0 0)), some (.int p1), none, some (.int s3.1), some (.int s3.2)]) (MH := fun s3 => M) (fun s3 => ?_) jm_N (0, 0)
        unfold sM_from_L23
        refine jm_iload F dX9_from_23 rfl ?_
        refine jm_aload_n (i := 0) F dX9_from_25 rfl rfl ?_
        refine jm_getI F dX9_from_26 fl_X9_106 lo_X9 rfl ?_
        refine jm_icmp_ge F dX9_from_29 (fun c4 => ?_) (fun c4 => ?_)
        · exact jm_weakD F (lv' := [some (.ref (jm_a E 0 0)), none, none, some (.int s3.1), none]) ⟨rfl, rfl, trivial⟩ (fun h => h)
        · refine jm_iload_n (i := 3) F dX9_from_32 rfl rfl ?_
          refine jm_aload_n (i := 0) F dX9_from_33 rfl rfl ?_
          refine jm_getR F dX9_from_34 fl_X9_40 lo_X9 rfl ?_
          refine jm_iconst F dX9_from_37 kc_4 ?_
          refine jm_iload F dX9_from_38 rfl ?_
          refine jm_imul F dX9_from_40 ?_
          refine jm_iald F dX9_from_41 la_X9_11 (fun v5 => ?_)
          refine jm_iload_n (i := 1) F dX9_from_42 rfl rfl ?_
          refine jm_icmp_ge F dX9_from_43 (fun c6 => ?_) (fun c6 => ?_)
          · refine jm_iconst F dX9_from_50 kc_0 ?_
            refine jm_iadd F dX9_from_51 ?_
            refine jm_nameI (f := fun x7 => [.int x7]) (fun x7 => ?_) rfl
            refine jm_istore_n (i := 3) (lv' := [some (.ref (jm_a E 0 0)), some (.int p1), none, some (.int x7), some (.int s3.2)]) F dX9_from_52 rfl (by decide) rfl rfl ?_
            refine jm_iinc (i := 4) (lv' := [some (.ref (jm_a E 0 0)), some (.int p1), none, some (.int x7), some (.int (s3.2 + 1))]) F dX9_from_53 kc_1 rfl (by decide) rfl rfl ?_
            refine jm_goto F dX9_from_56 ?_
            exact jm_weakD F (lv' := [some (.ref (jm_a E 0 0)), some (.int p1), none, some (.int x7), some (.int (s3.2 + 1))]) ⟨rfl, rfl, rfl, rfl, trivial⟩ (fun h => h)
          · refine jm_iconst F dX9_from_46 kc_1 ?_
            refine jm_goto F dX9_from_47 ?_
            refine jm_iadd F dX9_from_51 ?_
            refine jm_nameI (f := fun x8 => [.int x8]) (fun x8 => ?_) rfl
            refine jm_istore_n (i := 3) (lv' := [some (.ref (jm_a E 0 0)), some (.int p1), none, some (.int x8), some (.int s3.2)]) F dX9_from_52 rfl (by decide) rfl rfl ?_
            refine jm_iinc (i := 4) (lv' := [some (.ref (jm_a E 0 0)), some (.int p1), none, some (.int x8), some (.int (s3.2 + 1))]) F dX9_from_53 kc_1 rfl (by decide) rfl rfl ?_
            refine jm_goto F dX9_from_56 ?_
            exact jm_weakD F (lv' := [some (.ref (jm_a E 0 0)), some (.int p1), none, some (.int x8), some (.int (s3.2 + 1))]) ⟨rfl, rfl, rfl, rfl, trivial⟩ (fun h => h)
      · refine jm_aload_n (i := 0) F dX9_from_59 rfl rfl ?_
        refine jm_iload_n (i := 3) F dX9_from_60 rfl rfl ?_
        refine jm_callV (As := [.int e9]) (st := []) (rv := fun r => some (.int r)) (mm := fun _ => M) F dX9_from_61 qX9_377 rfl lo_X9 rfl (fun r h => kM_ofRank E hE h) rfl (Nat.le_of_ble_eq_true rfl) ⟨Nat.le_of_ble_eq_true rfl, Nat.le_of_ble_eq_true rfl⟩ (fun r10 => ?_)
        exact jm_iret F dX9_from_64 (fun h => h)
    · refine jm_aload_n (i := 0) F dX9_from_12 rfl rfl ?_
      refine jm_iload_n (i := 2) F dX9_from_13 rfl rfl ?_
      refine jm_callV (As := [.int r1]) (st := []) (rv := fun r => some (.int r.1)) (mm := fun r => r.2) F dX9_from_14 qX9_172 rfl lo_X9 rfl (fun r h => kM_no E hE h) rfl (Nat.le_of_ble_eq_true rfl) ⟨Nat.le_of_ble_eq_true rfl, Nat.le_of_ble_eq_true rfl⟩ (fun r11 => ?_)
      exact jm_iret F dX9_from_17 (fun h => h)
  exact G r h hz
