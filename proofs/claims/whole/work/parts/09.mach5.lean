theorem dX7_leastTownPrice_0 : jm_d cX7_leastTownPrice 0 (.iconst 0) 1 1 := ⟨by decide +kernel, rfl⟩
theorem dX7_leastTownPrice_1 : jm_d cX7_leastTownPrice 1 (.istore_n 1) 1 2 := ⟨by decide +kernel, rfl⟩
theorem dX7_leastTownPrice_2 : jm_d cX7_leastTownPrice 2 (.iconst 0) 1 3 := ⟨by decide +kernel, rfl⟩
theorem dX7_leastTownPrice_3 : jm_d cX7_leastTownPrice 3 (.istore_n 2) 1 4 := ⟨by decide +kernel, rfl⟩
theorem dX7_leastTownPrice_4 : jm_d cX7_leastTownPrice 4 (.iconst 0) 1 5 := ⟨by decide +kernel, rfl⟩
theorem dX7_leastTownPrice_5 : jm_d cX7_leastTownPrice 5 (.istore_n 3) 1 6 := ⟨by decide +kernel, rfl⟩
theorem dX7_leastTownPrice_6 : jm_d cX7_leastTownPrice 6 (.iload_n 3) 1 7 := ⟨by decide +kernel, rfl⟩
theorem dX7_leastTownPrice_7 : jm_d cX7_leastTownPrice 7 (.aload_n 0) 1 8 := ⟨by decide +kernel, rfl⟩
theorem dX7_leastTownPrice_8 : jm_d cX7_leastTownPrice 8 (.getfield 55) 3 11 := ⟨by decide +kernel, rfl⟩
theorem dX7_leastTownPrice_11 : jm_b cX7_leastTownPrice 11 (.if_icmp .ge) 14 52 := ⟨41, by decide +kernel, rfl, by decide⟩
theorem dX7_leastTownPrice_14 : jm_d cX7_leastTownPrice 14 (.aload_n 0) 1 15 := ⟨by decide +kernel, rfl⟩
theorem dX7_leastTownPrice_15 : jm_d cX7_leastTownPrice 15 (.getfield 27) 3 18 := ⟨by decide +kernel, rfl⟩
theorem dX7_leastTownPrice_18 : jm_d cX7_leastTownPrice 18 (.iload_n 3) 1 19 := ⟨by decide +kernel, rfl⟩
theorem dX7_leastTownPrice_19 : jm_d cX7_leastTownPrice 19 (.iaload) 1 20 := ⟨by decide +kernel, rfl⟩
theorem dX7_leastTownPrice_20 : jm_d cX7_leastTownPrice 20 (.bipush 9) 2 22 := ⟨by decide +kernel, rfl⟩
theorem dX7_leastTownPrice_22 : jm_b cX7_leastTownPrice 22 (.if_icmp .ne) 25 46 := ⟨24, by decide +kernel, rfl, by decide⟩
theorem dX7_leastTownPrice_25 : jm_d cX7_leastTownPrice 25 (.iload_n 2) 1 26 := ⟨by decide +kernel, rfl⟩
theorem dX7_leastTownPrice_26 : jm_b cX7_leastTownPrice 26 (.ifCond .eq) 29 38 := ⟨12, by decide +kernel, rfl, by decide⟩
theorem dX7_leastTownPrice_38 : jm_d cX7_leastTownPrice 38 (.aload_n 0) 1 39 := ⟨by decide +kernel, rfl⟩
theorem dX7_leastTownPrice_39 : jm_d cX7_leastTownPrice 39 (.iload_n 3) 1 40 := ⟨by decide +kernel, rfl⟩
theorem dX7_leastTownPrice_40 : jm_d cX7_leastTownPrice 40 (.invokevirtual 126) 3 43 := ⟨by decide +kernel, rfl⟩
theorem dX7_leastTownPrice_43 : jm_d cX7_leastTownPrice 43 (.istore_n 1) 1 44 := ⟨by decide +kernel, rfl⟩
theorem dX7_leastTownPrice_44 : jm_d cX7_leastTownPrice 44 (.iconst 1) 1 45 := ⟨by decide +kernel, rfl⟩
theorem dX7_leastTownPrice_45 : jm_d cX7_leastTownPrice 45 (.istore_n 2) 1 46 := ⟨by decide +kernel, rfl⟩
theorem dX7_leastTownPrice_46 : jm_d cX7_leastTownPrice 46 (.iinc 3 1) 3 49 := ⟨by decide +kernel, rfl⟩
theorem dX7_leastTownPrice_49 : jm_b cX7_leastTownPrice 49 .goto 52 6 := ⟨(-43), by decide +kernel, rfl, by decide⟩
theorem dX7_leastTownPrice_29 : jm_d cX7_leastTownPrice 29 (.aload_n 0) 1 30 := ⟨by decide +kernel, rfl⟩
theorem dX7_leastTownPrice_30 : jm_d cX7_leastTownPrice 30 (.iload_n 3) 1 31 := ⟨by decide +kernel, rfl⟩
theorem dX7_leastTownPrice_31 : jm_d cX7_leastTownPrice 31 (.invokevirtual 126) 3 34 := ⟨by decide +kernel, rfl⟩
theorem dX7_leastTownPrice_34 : jm_d cX7_leastTownPrice 34 (.iload_n 1) 1 35 := ⟨by decide +kernel, rfl⟩
theorem dX7_leastTownPrice_35 : jm_b cX7_leastTownPrice 35 (.if_icmp .ge) 38 46 := ⟨11, by decide +kernel, rfl, by decide⟩
theorem dX7_leastTownPrice_52 : jm_d cX7_leastTownPrice 52 (.iload_n 1) 1 53 := ⟨by decide +kernel, rfl⟩
theorem dX7_leastTownPrice_53 : jm_d cX7_leastTownPrice 53 (.ireturn) 1 54 := ⟨by decide +kernel, rfl⟩
set_option maxHeartbeats 4000000 in
set_option maxRecDepth 100000 in
theorem kT_leastTownPrice (E : jm_Ev) (hE : jm_dj E jm_LC) {M : jm_M} {t : Nat} (ht : jm_isT t) {r : Int32} (h : sT_leastTownPrice M t = some r) : jm_Ct E jm_LC yX7_leastTownPrice cX7_leastTownPrice 4 (some .int) 2 65 [.ref (jm_a E t 0)] M (some (.int r)) M := by
  refine jm_enter (lv := [some (.ref (jm_a E t 0)), none, none, none]) hE (by decide) (Nat.le_of_ble_eq_true rfl) rfl ?_
  intro z w F hz
  have G : jm_G w 0 [some (.ref (jm_a E t 0)), none, none, none] [] M (sT_leastTownPrice M t) (fun e => z (some (.int e)) M) := by
    unfold sT_leastTownPrice
    refine jm_iconst F dX7_leastTownPrice_0 kc_0 ?_
    refine jm_istore_n (i := 1) (lv' := [some (.ref (jm_a E t 0)), some (.int 0), none, none]) F dX7_leastTownPrice_1 rfl (by decide) rfl rfl ?_
    refine jm_iconst F dX7_leastTownPrice_2 kc_0 ?_
    refine jm_istore_n (i := 2) (lv' := [some (.ref (jm_a E t 0)), some (.int 0), some (.int 0), none]) F dX7_leastTownPrice_3 rfl (by decide) rfl rfl ?_
    refine jm_iconst F dX7_leastTownPrice_4 kc_0 ?_
    refine jm_istore_n (i := 3) (lv' := [some (.ref (jm_a E t 0)), some (.int 0), some (.int 0), some (.int 0)]) F dX7_leastTownPrice_5 rfl (by decide) rfl rfl ?_
    refine jm_bind (pcJ := 52) (lvJ := fun e10 => [none, some (.int e10), none, none]) (stJ := fun _ => []) (MJ := fun e10 => M) ?_ (fun e10 => ?_)
    · refine jm_weak F (lv' := [some (.ref (jm_a E t 0)), some (.int 0), some (.int 0), some (.int 0)]) ⟨rfl, rfl, rfl, rfl, trivial⟩ ?_
      refine jm_loopR (lvH := fun s1 => [some (.ref (jm_a E t 0)), some (.int s1.1), some (.int s1.2.1), some (.int s1.2.2)]) (MH := fun s1 => M) (fun s1 => ?_) jm_N (0, 0, 0)
      unfold sT_leastTownPrice_L6
      refine jm_iload_n (i := 3) F dX7_leastTownPrice_6 rfl rfl ?_
      refine jm_aload_n (i := 0) F dX7_leastTownPrice_7 rfl rfl ?_
      refine jm_getI F dX7_leastTownPrice_8 fl_X7_55 (lo_T ht) rfl ?_
      refine jm_icmp_ge F dX7_leastTownPrice_11 (fun c2 => ?_) (fun c2 => ?_)
      · exact jm_weakD F (lv' := [none, some (.int s1.1), none, none]) ⟨rfl, trivial⟩ (fun h => h)
      · refine jm_aload_n (i := 0) F dX7_leastTownPrice_14 rfl rfl ?_
        refine jm_getR F dX7_leastTownPrice_15 fl_X7_27 (lo_T ht) rfl ?_
        refine jm_iload_n (i := 3) F dX7_leastTownPrice_18 rfl rfl ?_
        refine jm_iald F dX7_leastTownPrice_19 (la_T_8 ht) (fun v3 => ?_)
        refine jm_bipush F dX7_leastTownPrice_20 kb_9 ?_
        refine jm_icmp_ne F dX7_leastTownPrice_22 (fun c4 => ?_) (fun c4 => ?_)
        · refine jm_iload_n (i := 2) F dX7_leastTownPrice_25 rfl rfl ?_
          refine jm_if_eq F dX7_leastTownPrice_26 (fun c5 => ?_) (fun c5 => ?_)
          · refine jm_aload_n (i := 0) F dX7_leastTownPrice_38 rfl rfl ?_
            refine jm_iload_n (i := 3) F dX7_leastTownPrice_39 rfl rfl ?_
            refine jm_callV (As := [.int s1.2.2]) (st := []) (rv := fun r => some (.int r)) (mm := fun _ => M) F dX7_leastTownPrice_40 qX7_126 rfl (lo_T ht) rfl (fun r h => kT_priceOf E hE ht h) rfl (Nat.le_of_ble_eq_true rfl) ⟨Nat.le_of_ble_eq_true rfl, Nat.le_of_ble_eq_true rfl⟩ (fun r6 => ?_)
            refine jm_istore_n (i := 1) (lv' := [some (.ref (jm_a E t 0)), some (.int r6), some (.int s1.2.1), some (.int s1.2.2)]) F dX7_leastTownPrice_43 rfl (by decide) rfl rfl ?_
            refine jm_iconst F dX7_leastTownPrice_44 kc_1 ?_
            refine jm_istore_n (i := 2) (lv' := [some (.ref (jm_a E t 0)), some (.int r6), some (.int 1), some (.int s1.2.2)]) F dX7_leastTownPrice_45 rfl (by decide) rfl rfl ?_
            refine jm_iinc (i := 3) (lv' := [some (.ref (jm_a E t 0)), some (.int r6), some (.int 1), some (.int (s1.2.2 + 1))]) F dX7_leastTownPrice_46 kc_1 rfl (by decide) rfl rfl ?_
            refine jm_goto F dX7_leastTownPrice_49 ?_
            exact jm_weakD F (lv' := [some (.ref (jm_a E t 0)), some (.int r6), some (.int 1), some (.int (s1.2.2 + 1))]) ⟨rfl, rfl, rfl, rfl, trivial⟩ (fun h => h)
          · refine jm_aload_n (i := 0) F dX7_leastTownPrice_29 rfl rfl ?_
            refine jm_iload_n (i := 3) F dX7_leastTownPrice_30 rfl rfl ?_
            refine jm_callV (As := [.int s1.2.2]) (st := []) (rv := fun r => some (.int r)) (mm := fun _ => M) F dX7_leastTownPrice_31 qX7_126 rfl (lo_T ht) rfl (fun r h => kT_priceOf E hE ht h) rfl (Nat.le_of_ble_eq_true rfl) ⟨Nat.le_of_ble_eq_true rfl, Nat.le_of_ble_eq_true rfl⟩ (fun r7 => ?_)
            refine jm_iload_n (i := 1) F dX7_leastTownPrice_34 rfl rfl ?_
            refine jm_icmp_ge F dX7_leastTownPrice_35 (fun c8 => ?_) (fun c8 => ?_)
            · refine jm_iinc (i := 3) (lv' := [some (.ref (jm_a E t 0)), some (.int s1.1), some (.int s1.2.1), some (.int (s1.2.2 + 1))]) F dX7_leastTownPrice_46 kc_1 rfl (by decide) rfl rfl ?_
              refine jm_goto F dX7_leastTownPrice_49 ?_
              exact jm_weakD F (lv' := [some (.ref (jm_a E t 0)), some (.int s1.1), some (.int s1.2.1), some (.int (s1.2.2 + 1))]) ⟨rfl, rfl, rfl, rfl, trivial⟩ (fun h => h)
            · refine jm_aload_n (i := 0) F dX7_leastTownPrice_38 rfl rfl ?_
              refine jm_iload_n (i := 3) F dX7_leastTownPrice_39 rfl rfl ?_
              refine jm_callV (As := [.int s1.2.2]) (st := []) (rv := fun r => some (.int r)) (mm := fun _ => M) F dX7_leastTownPrice_40 qX7_126 rfl (lo_T ht) rfl (fun r h => kT_priceOf E hE ht h) rfl (Nat.le_of_ble_eq_true rfl) ⟨Nat.le_of_ble_eq_true rfl, Nat.le_of_ble_eq_true rfl⟩ (fun r9 => ?_)
              refine jm_istore_n (i := 1) (lv' := [some (.ref (jm_a E t 0)), some (.int r9), some (.int s1.2.1), some (.int s1.2.2)]) F dX7_leastTownPrice_43 rfl (by decide) rfl rfl ?_
              refine jm_iconst F dX7_leastTownPrice_44 kc_1 ?_
              refine jm_istore_n (i := 2) (lv' := [some (.ref (jm_a E t 0)), some (.int r9), some (.int 1), some (.int s1.2.2)]) F dX7_leastTownPrice_45 rfl (by decide) rfl rfl ?_
              refine jm_iinc (i := 3) (lv' := [some (.ref (jm_a E t 0)), some (.int r9), some (.int 1), some (.int (s1.2.2 + 1))]) F dX7_leastTownPrice_46 kc_1 rfl (by decide) rfl rfl ?_
              refine jm_goto F dX7_leastTownPrice_49 ?_
              exact jm_weakD F (lv' := [some (.ref (jm_a E t 0)), some (.int r9), some (.int 1), some (.int (s1.2.2 + 1))]) ⟨rfl, rfl, rfl, rfl, trivial⟩ (fun h => h)
        · refine jm_iinc (i := 3) (lv' := [some (.ref (jm_a E t 0)), some (.int s1.1), some (.int s1.2.1), some (.int (s1.2.2 + 1))]) F dX7_leastTownPrice_46 kc_1 rfl (by decide) rfl rfl ?_
          refine jm_goto F dX7_leastTownPrice_49 ?_
          exact jm_weakD F (lv' := [some (.ref (jm_a E t 0)), some (.int s1.1), some (.int s1.2.1), some (.int (s1.2.2 + 1))]) ⟨rfl, rfl, rfl, rfl, trivial⟩ (fun h => h)
    · refine jm_iload_n (i := 1) F dX7_leastTownPrice_52 rfl rfl ?_
      exact jm_iret F dX7_leastTownPrice_53 (fun h => h)
  exact G r h hz
theorem dX7_poorPeople_0 : jm_d cX7_poorPeople 0 (.aload_n 0) 1 1 := ⟨by decide +kernel, rfl⟩
theorem dX7_poorPeople_1 : jm_d cX7_poorPeople 1 (.invokevirtual 129) 3 4 := ⟨by decide +kernel, rfl⟩
theorem dX7_poorPeople_4 : jm_d cX7_poorPeople 4 (.istore_n 1) 1 5 := ⟨by decide +kernel, rfl⟩
theorem dX7_poorPeople_5 : jm_d cX7_poorPeople 5 (.iconst 0) 1 6 := ⟨by decide +kernel, rfl⟩
theorem dX7_poorPeople_6 : jm_d cX7_poorPeople 6 (.istore_n 2) 1 7 := ⟨by decide +kernel, rfl⟩
theorem dX7_poorPeople_7 : jm_d cX7_poorPeople 7 (.iconst 0) 1 8 := ⟨by decide +kernel, rfl⟩
theorem dX7_poorPeople_8 : jm_d cX7_poorPeople 8 (.istore_n 3) 1 9 := ⟨by decide +kernel, rfl⟩
theorem dX7_poorPeople_9 : jm_d cX7_poorPeople 9 (.iload_n 3) 1 10 := ⟨by decide +kernel, rfl⟩
theorem dX7_poorPeople_10 : jm_d cX7_poorPeople 10 (.aload_n 0) 1 11 := ⟨by decide +kernel, rfl⟩
theorem dX7_poorPeople_11 : jm_d cX7_poorPeople 11 (.getfield 45) 3 14 := ⟨by decide +kernel, rfl⟩
theorem dX7_poorPeople_14 : jm_b cX7_poorPeople 14 (.if_icmp .ge) 17 36 := ⟨22, by decide +kernel, rfl, by decide⟩
theorem dX7_poorPeople_17 : jm_d cX7_poorPeople 17 (.aload_n 0) 1 18 := ⟨by decide +kernel, rfl⟩
theorem dX7_poorPeople_18 : jm_d cX7_poorPeople 18 (.getfield 18) 3 21 := ⟨by decide +kernel, rfl⟩
theorem dX7_poorPeople_21 : jm_d cX7_poorPeople 21 (.iload_n 3) 1 22 := ⟨by decide +kernel, rfl⟩
theorem dX7_poorPeople_22 : jm_d cX7_poorPeople 22 (.iaload) 1 23 := ⟨by decide +kernel, rfl⟩
theorem dX7_poorPeople_23 : jm_d cX7_poorPeople 23 (.iload_n 1) 1 24 := ⟨by decide +kernel, rfl⟩
theorem dX7_poorPeople_24 : jm_b cX7_poorPeople 24 (.if_icmp .ge) 27 30 := ⟨6, by decide +kernel, rfl, by decide⟩
theorem dX7_poorPeople_30 : jm_d cX7_poorPeople 30 (.iinc 3 1) 3 33 := ⟨by decide +kernel, rfl⟩
theorem dX7_poorPeople_33 : jm_b cX7_poorPeople 33 .goto 36 9 := ⟨(-24), by decide +kernel, rfl, by decide⟩
theorem dX7_poorPeople_27 : jm_d cX7_poorPeople 27 (.iinc 2 1) 3 30 := ⟨by decide +kernel, rfl⟩
theorem dX7_poorPeople_36 : jm_d cX7_poorPeople 36 (.iload_n 2) 1 37 := ⟨by decide +kernel, rfl⟩
theorem dX7_poorPeople_37 : jm_d cX7_poorPeople 37 (.ireturn) 1 38 := ⟨by decide +kernel, rfl⟩
set_option maxHeartbeats 4000000 in
set_option maxRecDepth 100000 in
theorem kT_poorPeople (E : jm_Ev) (hE : jm_dj E jm_LC) {M : jm_M} {t : Nat} (ht : jm_isT t) {r : Int32} (h : sT_poorPeople M t = some r) : jm_Ct E jm_LC yX7_poorPeople cX7_poorPeople 4 (some .int) 3 88 [.ref (jm_a E t 0)] M (some (.int r)) M := by
  refine jm_enter (lv := [some (.ref (jm_a E t 0)), none, none, none]) hE (by decide) (Nat.le_of_ble_eq_true rfl) rfl ?_
  intro z w F hz
  have G : jm_G w 0 [some (.ref (jm_a E t 0)), none, none, none] [] M (sT_poorPeople M t) (fun e => z (some (.int e)) M) := by
    unfold sT_poorPeople
    refine jm_aload_n (i := 0) F dX7_poorPeople_0 rfl rfl ?_
    refine jm_callV (As := []) (st := []) (rv := fun r => some (.int r)) (mm := fun _ => M) F dX7_poorPeople_1 qX7_129 rfl (lo_T ht) rfl (fun r h => kT_leastTownPrice E hE ht h) rfl (Nat.le_of_ble_eq_true rfl) ⟨Nat.le_of_ble_eq_true rfl, Nat.le_of_ble_eq_true rfl⟩ (fun r1 => ?_)
    refine jm_istore_n (i := 1) (lv' := [some (.ref (jm_a E t 0)), some (.int r1), none, none]) F dX7_poorPeople_4 rfl (by decide) rfl rfl ?_
    refine jm_iconst F dX7_poorPeople_5 kc_0 ?_
    refine jm_istore_n (i := 2) (lv' := [some (.ref (jm_a E t 0)), some (.int r1), some (.int 0), none]) F dX7_poorPeople_6 rfl (by decide) rfl rfl ?_
    refine jm_iconst F dX7_poorPeople_7 kc_0 ?_
    refine jm_istore_n (i := 3) (lv' := [some (.ref (jm_a E t 0)), some (.int r1), some (.int 0), some (.int 0)]) F dX7_poorPeople_8 rfl (by decide) rfl rfl ?_
    refine jm_bind (pcJ := 36) (lvJ := fun e6 => [none, none, some (.int e6), none]) (stJ := fun _ => []) (MJ := fun e6 => M) ?_ (fun e6 => ?_)
    · refine jm_weak F (lv' := [some (.ref (jm_a E t 0)), some (.int r1), some (.int 0), some (.int 0)]) ⟨rfl, rfl, rfl, rfl, trivial⟩ ?_
      refine jm_loopR (lvH := fun s2 => [some (.ref (jm_a E t 0)), some (.int r1), some (.int s2.1), some (.int s2.2)]) (MH := fun s2 => M) (fun s2 => ?_) jm_N (0, 0)
      unfold sT_poorPeople_L9
      refine jm_iload_n (i := 3) F dX7_poorPeople_9 rfl rfl ?_
      refine jm_aload_n (i := 0) F dX7_poorPeople_10 rfl rfl ?_
      refine jm_getI F dX7_poorPeople_11 fl_X7_45 (lo_T ht) rfl ?_
      refine jm_icmp_ge F dX7_poorPeople_14 (fun c3 => ?_) (fun c3 => ?_)
      · exact jm_weakD F (lv' := [none, none, some (.int s2.1), none]) ⟨rfl, trivial⟩ (fun h => h)
      · refine jm_aload_n (i := 0) F dX7_poorPeople_17 rfl rfl ?_
        refine jm_getR F dX7_poorPeople_18 fl_X7_18 (lo_T ht) rfl ?_
        refine jm_iload_n (i := 3) F dX7_poorPeople_21 rfl rfl ?_
        refine jm_iald F dX7_poorPeople_22 (la_T_4 ht) (fun v4 => ?_)
        refine jm_iload_n (i := 1) F dX7_poorPeople_23 rfl rfl ?_
        refine jm_icmp_ge F dX7_poorPeople_24 (fun c5 => ?_) (fun c5 => ?_)
        · refine jm_iinc (i := 3) (lv' := [some (.ref (jm_a E t 0)), some (.int r1), some (.int s2.1), some (.int (s2.2 + 1))]) F dX7_poorPeople_30 kc_1 rfl (by decide) rfl rfl ?_
          refine jm_goto F dX7_poorPeople_33 ?_
          exact jm_weakD F (lv' := [some (.ref (jm_a E t 0)), some (.int r1), some (.int s2.1), some (.int (s2.2 + 1))]) ⟨rfl, rfl, rfl, rfl, trivial⟩ (fun h => h)
        · refine jm_iinc (i := 2) (lv' := [some (.ref (jm_a E t 0)), some (.int r1), some (.int (s2.1 + 1)), some (.int s2.2)]) F dX7_poorPeople_27 kc_1 rfl (by decide) rfl rfl ?_
          refine jm_iinc (i := 3) (lv' := [some (.ref (jm_a E t 0)), some (.int r1), some (.int (s2.1 + 1)), some (.int (s2.2 + 1))]) F dX7_poorPeople_30 kc_1 rfl (by decide) rfl rfl ?_
          refine jm_goto F dX7_poorPeople_33 ?_
          exact jm_weakD F (lv' := [some (.ref (jm_a E t 0)), some (.int r1), some (.int (s2.1 + 1)), some (.int (s2.2 + 1))]) ⟨rfl, rfl, rfl, rfl, trivial⟩ (fun h => h)
    · refine jm_iload_n (i := 2) F dX7_poorPeople_36 rfl rfl ?_
      exact jm_iret F dX7_poorPeople_37 (fun h => h)
  exact G r h hz
theorem dX7_unreadBooks_0 : jm_d cX7_unreadBooks 0 (.iconst 0) 1 1 := ⟨by decide +kernel, rfl⟩
theorem dX7_unreadBooks_1 : jm_d cX7_unreadBooks 1 (.istore_n 1) 1 2 := ⟨by decide +kernel, rfl⟩
theorem dX7_unreadBooks_2 : jm_d cX7_unreadBooks 2 (.iconst 0) 1 3 := ⟨by decide +kernel, rfl⟩
theorem dX7_unreadBooks_3 : jm_d cX7_unreadBooks 3 (.istore_n 2) 1 4 := ⟨by decide +kernel, rfl⟩
theorem dX7_unreadBooks_4 : jm_d cX7_unreadBooks 4 (.iload_n 2) 1 5 := ⟨by decide +kernel, rfl⟩
theorem dX7_unreadBooks_5 : jm_d cX7_unreadBooks 5 (.aload_n 0) 1 6 := ⟨by decide +kernel, rfl⟩
theorem dX7_unreadBooks_6 : jm_d cX7_unreadBooks 6 (.getfield 55) 3 9 := ⟨by decide +kernel, rfl⟩
theorem dX7_unreadBooks_9 : jm_b cX7_unreadBooks 9 (.if_icmp .ge) 12 33 := ⟨24, by decide +kernel, rfl, by decide⟩
theorem dX7_unreadBooks_12 : jm_d cX7_unreadBooks 12 (.aload_n 0) 1 13 := ⟨by decide +kernel, rfl⟩
theorem dX7_unreadBooks_13 : jm_d cX7_unreadBooks 13 (.getfield 33) 3 16 := ⟨by decide +kernel, rfl⟩
theorem dX7_unreadBooks_16 : jm_d cX7_unreadBooks 16 (.iload_n 2) 1 17 := ⟨by decide +kernel, rfl⟩
theorem dX7_unreadBooks_17 : jm_d cX7_unreadBooks 17 (.iaload) 1 18 := ⟨by decide +kernel, rfl⟩
theorem dX7_unreadBooks_18 : jm_b cX7_unreadBooks 18 (.ifCond .ne) 21 27 := ⟨9, by decide +kernel, rfl, by decide⟩
theorem dX7_unreadBooks_21 : jm_d cX7_unreadBooks 21 (.iload_n 1) 1 22 := ⟨by decide +kernel, rfl⟩
theorem dX7_unreadBooks_22 : jm_d cX7_unreadBooks 22 (.iconst 1) 1 23 := ⟨by decide +kernel, rfl⟩
theorem dX7_unreadBooks_23 : jm_d cX7_unreadBooks 23 (.iload_n 2) 1 24 := ⟨by decide +kernel, rfl⟩
theorem dX7_unreadBooks_24 : jm_d cX7_unreadBooks 24 (.ishl) 1 25 := ⟨by decide +kernel, rfl⟩
theorem dX7_unreadBooks_25 : jm_d cX7_unreadBooks 25 (.ior) 1 26 := ⟨by decide +kernel, rfl⟩
theorem dX7_unreadBooks_26 : jm_d cX7_unreadBooks 26 (.istore_n 1) 1 27 := ⟨by decide +kernel, rfl⟩
theorem dX7_unreadBooks_27 : jm_d cX7_unreadBooks 27 (.iinc 2 1) 3 30 := ⟨by decide +kernel, rfl⟩
theorem dX7_unreadBooks_30 : jm_b cX7_unreadBooks 30 .goto 33 4 := ⟨(-26), by decide +kernel, rfl, by decide⟩
theorem dX7_unreadBooks_33 : jm_d cX7_unreadBooks 33 (.iload_n 1) 1 34 := ⟨by decide +kernel, rfl⟩
theorem dX7_unreadBooks_34 : jm_d cX7_unreadBooks 34 (.ireturn) 1 35 := ⟨by decide +kernel, rfl⟩
set_option maxHeartbeats 4000000 in
set_option maxRecDepth 100000 in
theorem kT_unreadBooks (E : jm_Ev) (hE : jm_dj E jm_LC) {M : jm_M} {t : Nat} (ht : jm_isT t) {r : Int32} (h : sT_unreadBooks M t = some r) : jm_Ct E jm_LC yX7_unreadBooks cX7_unreadBooks 3 (some .int) 0 0 [.ref (jm_a E t 0)] M (some (.int r)) M := by
  refine jm_enter (lv := [some (.ref (jm_a E t 0)), none, none]) hE (by decide) (Nat.le_of_ble_eq_true rfl) rfl ?_
  intro z w F hz
  have G : jm_G w 0 [some (.ref (jm_a E t 0)), none, none] [] M (sT_unreadBooks M t) (fun e => z (some (.int e)) M) := by
    unfold sT_unreadBooks
    refine jm_iconst F dX7_unreadBooks_0 kc_0 ?_
    refine jm_istore_n (i := 1) (lv' := [some (.ref (jm_a E t 0)), some (.int 0), none]) F dX7_unreadBooks_1 rfl (by decide) rfl rfl ?_
    refine jm_iconst F dX7_unreadBooks_2 kc_0 ?_
    refine jm_istore_n (i := 2) (lv' := [some (.ref (jm_a E t 0)), some (.int 0), some (.int 0)]) F dX7_unreadBooks_3 rfl (by decide) rfl rfl ?_
    refine jm_bind (pcJ := 33) (lvJ := fun e6 => [none, some (.int e6), none]) (stJ := fun _ => []) (MJ := fun e6 => M) ?_ (fun e6 => ?_)
    · refine jm_weak F (lv' := [some (.ref (jm_a E t 0)), some (.int 0), some (.int 0)]) ⟨rfl, rfl, rfl, trivial⟩ ?_
      refine jm_loopR (lvH := fun s1 => [some (.ref (jm_a E t 0)), some (.int s1.1), some (.int s1.2)]) (MH := fun s1 => M) (fun s1 => ?_) jm_N (0, 0)
      unfold sT_unreadBooks_L4
      refine jm_iload_n (i := 2) F dX7_unreadBooks_4 rfl rfl ?_
      refine jm_aload_n (i := 0) F dX7_unreadBooks_5 rfl rfl ?_
      refine jm_getI F dX7_unreadBooks_6 fl_X7_55 (lo_T ht) rfl ?_
      refine jm_icmp_ge F dX7_unreadBooks_9 (fun c2 => ?_) (fun c2 => ?_)
      · exact jm_weakD F (lv' := [none, some (.int s1.1), none]) ⟨rfl, trivial⟩ (fun h => h)
      · refine jm_aload_n (i := 0) F dX7_unreadBooks_12 rfl rfl ?_
        refine jm_getR F dX7_unreadBooks_13 fl_X7_33 (lo_T ht) rfl ?_
        refine jm_iload_n (i := 2) F dX7_unreadBooks_16 rfl rfl ?_
        refine jm_iald F dX7_unreadBooks_17 (la_T_10 ht) (fun v3 => ?_)
        refine jm_if_ne F dX7_unreadBooks_18 (fun c4 => ?_) (fun c4 => ?_)
        · refine jm_iload_n (i := 1) F dX7_unreadBooks_21 rfl rfl ?_
          refine jm_iconst F dX7_unreadBooks_22 kc_1 ?_
          refine jm_iload_n (i := 2) F dX7_unreadBooks_23 rfl rfl ?_
          refine jm_ishl F dX7_unreadBooks_24 ?_
          refine jm_ior F dX7_unreadBooks_25 ?_
          refine jm_nameI (f := fun x5 => [.int x5]) (fun x5 => ?_) rfl
          refine jm_istore_n (i := 1) (lv' := [some (.ref (jm_a E t 0)), some (.int x5), some (.int s1.2)]) F dX7_unreadBooks_26 rfl (by decide) rfl rfl ?_
          refine jm_iinc (i := 2) (lv' := [some (.ref (jm_a E t 0)), some (.int x5), some (.int (s1.2 + 1))]) F dX7_unreadBooks_27 kc_1 rfl (by decide) rfl rfl ?_
          refine jm_goto F dX7_unreadBooks_30 ?_
          exact jm_weakD F (lv' := [some (.ref (jm_a E t 0)), some (.int x5), some (.int (s1.2 + 1))]) ⟨rfl, rfl, rfl, trivial⟩ (fun h => h)
        · refine jm_iinc (i := 2) (lv' := [some (.ref (jm_a E t 0)), some (.int s1.1), some (.int (s1.2 + 1))]) F dX7_unreadBooks_27 kc_1 rfl (by decide) rfl rfl ?_
          refine jm_goto F dX7_unreadBooks_30 ?_
          exact jm_weakD F (lv' := [some (.ref (jm_a E t 0)), some (.int s1.1), some (.int (s1.2 + 1))]) ⟨rfl, rfl, rfl, trivial⟩ (fun h => h)
    · refine jm_iload_n (i := 1) F dX7_unreadBooks_33 rfl rfl ?_
      exact jm_iret F dX7_unreadBooks_34 (fun h => h)
  exact G r h hz
theorem dX7_lentBooks_0 : jm_d cX7_lentBooks 0 (.iconst 0) 1 1 := ⟨by decide +kernel, rfl⟩
theorem dX7_lentBooks_1 : jm_d cX7_lentBooks 1 (.istore_n 1) 1 2 := ⟨by decide +kernel, rfl⟩
theorem dX7_lentBooks_2 : jm_d cX7_lentBooks 2 (.iconst 0) 1 3 := ⟨by decide +kernel, rfl⟩
theorem dX7_lentBooks_3 : jm_d cX7_lentBooks 3 (.istore_n 2) 1 4 := ⟨by decide +kernel, rfl⟩
theorem dX7_lentBooks_4 : jm_d cX7_lentBooks 4 (.iload_n 2) 1 5 := ⟨by decide +kernel, rfl⟩
theorem dX7_lentBooks_5 : jm_d cX7_lentBooks 5 (.aload_n 0) 1 6 := ⟨by decide +kernel, rfl⟩
theorem dX7_lentBooks_6 : jm_d cX7_lentBooks 6 (.getfield 55) 3 9 := ⟨by decide +kernel, rfl⟩
theorem dX7_lentBooks_9 : jm_b cX7_lentBooks 9 (.if_icmp .ge) 12 39 := ⟨30, by decide +kernel, rfl, by decide⟩
theorem dX7_lentBooks_12 : jm_d cX7_lentBooks 12 (.aload_n 0) 1 13 := ⟨by decide +kernel, rfl⟩
theorem dX7_lentBooks_13 : jm_d cX7_lentBooks 13 (.getfield 30) 3 16 := ⟨by decide +kernel, rfl⟩
theorem dX7_lentBooks_16 : jm_d cX7_lentBooks 16 (.iload_n 2) 1 17 := ⟨by decide +kernel, rfl⟩
theorem dX7_lentBooks_17 : jm_d cX7_lentBooks 17 (.iaload) 1 18 := ⟨by decide +kernel, rfl⟩
theorem dX7_lentBooks_18 : jm_d cX7_lentBooks 18 (.aload_n 0) 1 19 := ⟨by decide +kernel, rfl⟩
theorem dX7_lentBooks_19 : jm_d cX7_lentBooks 19 (.getfield 27) 3 22 := ⟨by decide +kernel, rfl⟩
theorem dX7_lentBooks_22 : jm_d cX7_lentBooks 22 (.iload_n 2) 1 23 := ⟨by decide +kernel, rfl⟩
theorem dX7_lentBooks_23 : jm_d cX7_lentBooks 23 (.iaload) 1 24 := ⟨by decide +kernel, rfl⟩
theorem dX7_lentBooks_24 : jm_b cX7_lentBooks 24 (.if_icmp .eq) 27 33 := ⟨9, by decide +kernel, rfl, by decide⟩
theorem dX7_lentBooks_33 : jm_d cX7_lentBooks 33 (.iinc 2 1) 3 36 := ⟨by decide +kernel, rfl⟩
theorem dX7_lentBooks_36 : jm_b cX7_lentBooks 36 .goto 39 4 := ⟨(-32), by decide +kernel, rfl, by decide⟩
theorem dX7_lentBooks_27 : jm_d cX7_lentBooks 27 (.iload_n 1) 1 28 := ⟨by decide +kernel, rfl⟩
theorem dX7_lentBooks_28 : jm_d cX7_lentBooks 28 (.iconst 1) 1 29 := ⟨by decide +kernel, rfl⟩
theorem dX7_lentBooks_29 : jm_d cX7_lentBooks 29 (.iload_n 2) 1 30 := ⟨by decide +kernel, rfl⟩
theorem dX7_lentBooks_30 : jm_d cX7_lentBooks 30 (.ishl) 1 31 := ⟨by decide +kernel, rfl⟩
theorem dX7_lentBooks_31 : jm_d cX7_lentBooks 31 (.ior) 1 32 := ⟨by decide +kernel, rfl⟩
theorem dX7_lentBooks_32 : jm_d cX7_lentBooks 32 (.istore_n 1) 1 33 := ⟨by decide +kernel, rfl⟩
theorem dX7_lentBooks_39 : jm_d cX7_lentBooks 39 (.iload_n 1) 1 40 := ⟨by decide +kernel, rfl⟩
theorem dX7_lentBooks_40 : jm_d cX7_lentBooks 40 (.ireturn) 1 41 := ⟨by decide +kernel, rfl⟩
set_option maxHeartbeats 4000000 in
set_option maxRecDepth 100000 in
theorem kT_lentBooks (E : jm_Ev) (hE : jm_dj E jm_LC) {M : jm_M} {t : Nat} (ht : jm_isT t) {r : Int32} (h : sT_lentBooks M t = some r) : jm_Ct E jm_LC yX7_lentBooks cX7_lentBooks 3 (some .int) 0 0 [.ref (jm_a E t 0)] M (some (.int r)) M := by
  refine jm_enter (lv := [some (.ref (jm_a E t 0)), none, none]) hE (by decide) (Nat.le_of_ble_eq_true rfl) rfl ?_
  intro z w F hz
  have G : jm_G w 0 [some (.ref (jm_a E t 0)), none, none] [] M (sT_lentBooks M t) (fun e => z (some (.int e)) M) := by
    unfold sT_lentBooks
    refine jm_iconst F dX7_lentBooks_0 kc_0 ?_
    refine jm_istore_n (i := 1) (lv' := [some (.ref (jm_a E t 0)), some (.int 0), none]) F dX7_lentBooks_1 rfl (by decide) rfl rfl ?_
    refine jm_iconst F dX7_lentBooks_2 kc_0 ?_
    refine jm_istore_n (i := 2) (lv' := [some (.ref (jm_a E t 0)), some (.int 0), some (.int 0)]) F dX7_lentBooks_3 rfl (by decide) rfl rfl ?_
    refine jm_bind (pcJ := 39) (lvJ := fun e7 => [none, some (.int e7), none]) (stJ := fun _ => []) (MJ := fun e7 => M) ?_ (fun e7 => ?_)
    · refine jm_weak F (lv' := [some (.ref (jm_a E t 0)), some (.int 0), some (.int 0)]) ⟨rfl, rfl, rfl, trivial⟩ ?_
      refine jm_loopR (lvH := fun s1 => [some (.ref (jm_a E t 0)), some (.int s1.1), some (.int s1.2)]) (MH := fun s1 => M) (fun s1 => ?_) jm_N (0, 0)
      unfold sT_lentBooks_L4
      refine jm_iload_n (i := 2) F dX7_lentBooks_4 rfl rfl ?_
      refine jm_aload_n (i := 0) F dX7_lentBooks_5 rfl rfl ?_
      refine jm_getI F dX7_lentBooks_6 fl_X7_55 (lo_T ht) rfl ?_
      refine jm_icmp_ge F dX7_lentBooks_9 (fun c2 => ?_) (fun c2 => ?_)
      · exact jm_weakD F (lv' := [none, some (.int s1.1), none]) ⟨rfl, trivial⟩ (fun h => h)
      · refine jm_aload_n (i := 0) F dX7_lentBooks_12 rfl rfl ?_
        refine jm_getR F dX7_lentBooks_13 fl_X7_30 (lo_T ht) rfl ?_
        refine jm_iload_n (i := 2) F dX7_lentBooks_16 rfl rfl ?_
        refine jm_iald F dX7_lentBooks_17 (la_T_9 ht) (fun v3 => ?_)
        refine jm_aload_n (i := 0) F dX7_lentBooks_18 rfl rfl ?_
        refine jm_getR F dX7_lentBooks_19 fl_X7_27 (lo_T ht) rfl ?_
        refine jm_iload_n (i := 2) F dX7_lentBooks_22 rfl rfl ?_
        refine jm_iald F dX7_lentBooks_23 (la_T_8 ht) (fun v4 => ?_)
        refine jm_icmp_eq F dX7_lentBooks_24 (fun c5 => ?_) (fun c5 => ?_)
        · refine jm_iinc (i := 2) (lv' := [some (.ref (jm_a E t 0)), some (.int s1.1), some (.int (s1.2 + 1))]) F dX7_lentBooks_33 kc_1 rfl (by decide) rfl rfl ?_
          refine jm_goto F dX7_lentBooks_36 ?_
          exact jm_weakD F (lv' := [some (.ref (jm_a E t 0)), some (.int s1.1), some (.int (s1.2 + 1))]) ⟨rfl, rfl, rfl, trivial⟩ (fun h => h)
        · refine jm_iload_n (i := 1) F dX7_lentBooks_27 rfl rfl ?_
          refine jm_iconst F dX7_lentBooks_28 kc_1 ?_
          refine jm_iload_n (i := 2) F dX7_lentBooks_29 rfl rfl ?_
          refine jm_ishl F dX7_lentBooks_30 ?_
          refine jm_ior F dX7_lentBooks_31 ?_
          refine jm_nameI (f := fun x6 => [.int x6]) (fun x6 => ?_) rfl
          refine jm_istore_n (i := 1) (lv' := [some (.ref (jm_a E t 0)), some (.int x6), some (.int s1.2)]) F dX7_lentBooks_32 rfl (by decide) rfl rfl ?_
          refine jm_iinc (i := 2) (lv' := [some (.ref (jm_a E t 0)), some (.int x6), some (.int (s1.2 + 1))]) F dX7_lentBooks_33 kc_1 rfl (by decide) rfl rfl ?_
          refine jm_goto F dX7_lentBooks_36 ?_
          exact jm_weakD F (lv' := [some (.ref (jm_a E t 0)), some (.int x6), some (.int (s1.2 + 1))]) ⟨rfl, rfl, rfl, trivial⟩ (fun h => h)
    · refine jm_iload_n (i := 1) F dX7_lentBooks_39 rfl rfl ?_
      exact jm_iret F dX7_lentBooks_40 (fun h => h)
  exact G r h hz
theorem dX8_sight_0 : jm_d cX8_sight 0 (.iload_n 1) 1 1 := ⟨by decide +kernel, rfl⟩
theorem dX8_sight_1 : decode cX8_sight 1 = .ok (.tableswitch 63 0 3 #[31, 39, 47, 55], 31) := by decide +kernel
theorem dX8_sight_32 : jm_d cX8_sight 32 (.aload_n 0) 1 33 := ⟨by decide +kernel, rfl⟩
theorem dX8_sight_33 : jm_d cX8_sight 33 (.getfield 10) 3 36 := ⟨by decide +kernel, rfl⟩
theorem dX8_sight_36 : jm_d cX8_sight 36 (.invokevirtual 305) 3 39 := ⟨by decide +kernel, rfl⟩
theorem dX8_sight_39 : jm_d cX8_sight 39 (.ireturn) 1 40 := ⟨by decide +kernel, rfl⟩
theorem dX8_sight_40 : jm_d cX8_sight 40 (.aload_n 0) 1 41 := ⟨by decide +kernel, rfl⟩
theorem dX8_sight_41 : jm_d cX8_sight 41 (.getfield 10) 3 44 := ⟨by decide +kernel, rfl⟩
theorem dX8_sight_44 : jm_d cX8_sight 44 (.invokevirtual 309) 3 47 := ⟨by decide +kernel, rfl⟩
theorem dX8_sight_47 : jm_d cX8_sight 47 (.ireturn) 1 48 := ⟨by decide +kernel, rfl⟩
theorem dX8_sight_48 : jm_d cX8_sight 48 (.aload_n 0) 1 49 := ⟨by decide +kernel, rfl⟩
theorem dX8_sight_49 : jm_d cX8_sight 49 (.getfield 10) 3 52 := ⟨by decide +kernel, rfl⟩
theorem dX8_sight_52 : jm_d cX8_sight 52 (.invokevirtual 312) 3 55 := ⟨by decide +kernel, rfl⟩
theorem dX8_sight_55 : jm_d cX8_sight 55 (.ireturn) 1 56 := ⟨by decide +kernel, rfl⟩
theorem dX8_sight_56 : jm_d cX8_sight 56 (.aload_n 0) 1 57 := ⟨by decide +kernel, rfl⟩
theorem dX8_sight_57 : jm_d cX8_sight 57 (.getfield 10) 3 60 := ⟨by decide +kernel, rfl⟩
theorem dX8_sight_60 : jm_d cX8_sight 60 (.invokevirtual 315) 3 63 := ⟨by decide +kernel, rfl⟩
theorem dX8_sight_63 : jm_d cX8_sight 63 (.ireturn) 1 64 := ⟨by decide +kernel, rfl⟩
theorem dX8_sight_64 : jm_d cX8_sight 64 (.aload_n 0) 1 65 := ⟨by decide +kernel, rfl⟩
theorem dX8_sight_65 : jm_d cX8_sight 65 (.bipush (-2)) 2 67 := ⟨by decide +kernel, rfl⟩
theorem dX8_sight_67 : jm_d cX8_sight 67 (.invokevirtual 64) 3 70 := ⟨by decide +kernel, rfl⟩
theorem dX8_sight_70 : jm_d cX8_sight 70 (.ireturn) 1 71 := ⟨by decide +kernel, rfl⟩
set_option maxHeartbeats 4000000 in
set_option maxRecDepth 100000 in
theorem kW_sight (E : jm_Ev) (hE : jm_dj E jm_LC) {M : jm_M} {p1 : Int32}  {r : Int32 × jm_M} (h : sW_sight M p1 = some r) : jm_Ct E jm_LC yX8_sight cX8_sight 2 (some .int) 5 142 [.ref (jm_a E 0 0), .int p1] M (some (.int r.1)) r.2 := by
  refine jm_enter (lv := [some (.ref (jm_a E 0 0)), some (.int p1)]) hE (by decide) (Nat.le_of_ble_eq_true rfl) rfl ?_
  intro z w F hz
  have G : jm_G w 0 [some (.ref (jm_a E 0 0)), some (.int p1)] [] M (sW_sight M p1) (fun e => z (some (.int e.1)) e.2) := by
    unfold sW_sight
    refine jm_iload_n (i := 1) F dX8_sight_0 rfl rfl ?_
    refine jm_ite (fun c1 => ?_) (fun c1 => ?_)
    · refine jm_tsw (tgt := 32) F dX8_sight_1 c1 (by decide) (by decide) rfl (by decide) ?_
      refine jm_aload_n (i := 0) F dX8_sight_32 rfl rfl ?_
      refine jm_getR F dX8_sight_33 fl_X8_10 lo_X8 rfl ?_
      refine jm_callV (As := []) (st := []) (rv := fun r => some (.int r)) (mm := fun _ => M) F dX8_sight_36 qX8_305 rfl (lo_T isT_1) rfl (fun r h => kT_closestTwo E hE isT_1 h) rfl (Nat.le_of_ble_eq_true rfl) ⟨Nat.le_of_ble_eq_true rfl, Nat.le_of_ble_eq_true rfl⟩ (fun r2 => ?_)
      exact jm_iret F dX8_sight_39 (fun h => h)
    · refine jm_ite (fun c3 => ?_) (fun c3 => ?_)
      · refine jm_tsw (tgt := 40) F dX8_sight_1 c3 (by decide) (by decide) rfl (by decide) ?_
        refine jm_aload_n (i := 0) F dX8_sight_40 rfl rfl ?_
        refine jm_getR F dX8_sight_41 fl_X8_10 lo_X8 rfl ?_
        refine jm_callV (As := []) (st := []) (rv := fun r => some (.int r)) (mm := fun _ => M) F dX8_sight_44 qX8_309 rfl (lo_T isT_1) rfl (fun r h => kT_poorPeople E hE isT_1 h) rfl (Nat.le_of_ble_eq_true rfl) ⟨Nat.le_of_ble_eq_true rfl, Nat.le_of_ble_eq_true rfl⟩ (fun r4 => ?_)
        exact jm_iret F dX8_sight_47 (fun h => h)
      · refine jm_ite (fun c5 => ?_) (fun c5 => ?_)
        · refine jm_tsw (tgt := 48) F dX8_sight_1 c5 (by decide) (by decide) rfl (by decide) ?_
          refine jm_aload_n (i := 0) F dX8_sight_48 rfl rfl ?_
          refine jm_getR F dX8_sight_49 fl_X8_10 lo_X8 rfl ?_
          refine jm_callV (As := []) (st := []) (rv := fun r => some (.int r)) (mm := fun _ => M) F dX8_sight_52 qX8_312 rfl (lo_T isT_1) rfl (fun r h => kT_unreadBooks E hE isT_1 h) rfl (Nat.le_of_ble_eq_true rfl) ⟨Nat.le_of_ble_eq_true rfl, Nat.le_of_ble_eq_true rfl⟩ (fun r6 => ?_)
          exact jm_iret F dX8_sight_55 (fun h => h)
        · refine jm_ite (fun c7 => ?_) (fun c7 => ?_)
          · refine jm_tsw (tgt := 56) F dX8_sight_1 c7 (by decide) (by decide) rfl (by decide) ?_
            refine jm_aload_n (i := 0) F dX8_sight_56 rfl rfl ?_
            refine jm_getR F dX8_sight_57 fl_X8_10 lo_X8 rfl ?_
            refine jm_callV (As := []) (st := []) (rv := fun r => some (.int r)) (mm := fun _ => M) F dX8_sight_60 qX8_315 rfl (lo_T isT_1) rfl (fun r h => kT_lentBooks E hE isT_1 h) rfl (Nat.le_of_ble_eq_true rfl) ⟨Nat.le_of_ble_eq_true rfl, Nat.le_of_ble_eq_true rfl⟩ (fun r8 => ?_)
            exact jm_iret F dX8_sight_63 (fun h => h)
          · refine jm_tsd (tgt := 64) F dX8_sight_1 (by
                have e0 := jm_ne c1 (a := 0) (by decide)
                have e1 := jm_ne c3 (a := 1) (by decide)
                have e2 := jm_ne c5 (a := 2) (by decide)
                have e3 := jm_ne c7 (a := 3) (by decide)
                omega) (by decide) ?_
            refine jm_aload_n (i := 0) F dX8_sight_64 rfl rfl ?_
            refine jm_bipush F dX8_sight_65 kb_m2 ?_
            refine jm_callV (As := [.int (-2)]) (st := []) (rv := fun r => some (.int r.1)) (mm := fun r => r.2) F dX8_sight_67 qX8_64 rfl lo_X8 rfl (fun r h => kW_refuse E hE h) rfl (Nat.le_of_ble_eq_true rfl) ⟨Nat.le_of_ble_eq_true rfl, Nat.le_of_ble_eq_true rfl⟩ (fun r9 => ?_)
            exact jm_iret F dX8_sight_70 (fun h => h)
  exact G r h hz
theorem dX8_share_0 : jm_d cX8_share 0 (.aload_n 0) 1 1 := ⟨by decide +kernel, rfl⟩
theorem dX8_share_1 : jm_d cX8_share 1 (.getfield 10) 3 4 := ⟨by decide +kernel, rfl⟩
theorem dX8_share_4 : jm_d cX8_share 4 (.iload_n 1) 1 5 := ⟨by decide +kernel, rfl⟩
theorem dX8_share_5 : jm_d cX8_share 5 (.invokevirtual 108) 3 8 := ⟨by decide +kernel, rfl⟩
theorem dX8_share_8 : jm_b cX8_share 8 (.ifCond .ne) 11 22 := ⟨14, by decide +kernel, rfl, by decide⟩
theorem dX8_share_11 : jm_d cX8_share 11 (.ldc2_w 265) 3 14 := ⟨by decide +kernel, rfl⟩
theorem dX8_share_14 : jm_d cX8_share 14 (.aload_n 0) 1 15 := ⟨by decide +kernel, rfl⟩
theorem dX8_share_15 : jm_d cX8_share 15 (.iconst (-1)) 1 16 := ⟨by decide +kernel, rfl⟩
theorem dX8_share_16 : jm_d cX8_share 16 (.invokevirtual 64) 3 19 := ⟨by decide +kernel, rfl⟩
theorem dX8_share_19 : jm_d cX8_share 19 (.i2l) 1 20 := ⟨by decide +kernel, rfl⟩
theorem dX8_share_20 : jm_d cX8_share 20 (.lsub) 1 21 := ⟨by decide +kernel, rfl⟩
theorem dX8_share_21 : jm_d cX8_share 21 (.lreturn) 1 22 := ⟨by decide +kernel, rfl⟩
theorem dX8_share_22 : jm_d cX8_share 22 (.aload_n 0) 1 23 := ⟨by decide +kernel, rfl⟩
theorem dX8_share_23 : jm_d cX8_share 23 (.iload_n 2) 1 24 := ⟨by decide +kernel, rfl⟩
theorem dX8_share_24 : jm_d cX8_share 24 (.invokevirtual 199) 3 27 := ⟨by decide +kernel, rfl⟩
theorem dX8_share_27 : jm_b cX8_share 27 (.ifCond .eq) 30 42 := ⟨15, by decide +kernel, rfl, by decide⟩
theorem dX8_share_42 : jm_d cX8_share 42 (.aload_n 0) 1 43 := ⟨by decide +kernel, rfl⟩
theorem dX8_share_43 : jm_d cX8_share 43 (.getfield 10) 3 46 := ⟨by decide +kernel, rfl⟩
theorem dX8_share_46 : jm_d cX8_share 46 (.iload_n 1) 1 47 := ⟨by decide +kernel, rfl⟩
theorem dX8_share_47 : jm_d cX8_share 47 (.invokevirtual 120) 3 50 := ⟨by decide +kernel, rfl⟩
theorem dX8_share_50 : jm_d cX8_share 50 (.i2l) 1 51 := ⟨by decide +kernel, rfl⟩
theorem dX8_share_51 : jm_d cX8_share 51 (.aload_n 0) 1 52 := ⟨by decide +kernel, rfl⟩
theorem dX8_share_52 : jm_d cX8_share 52 (.getfield 10) 3 55 := ⟨by decide +kernel, rfl⟩
theorem dX8_share_55 : jm_d cX8_share 55 (.getfield 89) 3 58 := ⟨by decide +kernel, rfl⟩
theorem dX8_share_58 : jm_d cX8_share 58 (.i2l) 1 59 := ⟨by decide +kernel, rfl⟩
theorem dX8_share_59 : jm_d cX8_share 59 (.iload_n 2) 1 60 := ⟨by decide +kernel, rfl⟩
theorem dX8_share_60 : jm_d cX8_share 60 (.invokestatic 277) 3 63 := ⟨by decide +kernel, rfl⟩
theorem dX8_share_63 : jm_d cX8_share 63 (.lreturn) 1 64 := ⟨by decide +kernel, rfl⟩
theorem dX8_share_30 : jm_d cX8_share 30 (.ldc2_w 265) 3 33 := ⟨by decide +kernel, rfl⟩
theorem dX8_share_33 : jm_d cX8_share 33 (.aload_n 0) 1 34 := ⟨by decide +kernel, rfl⟩
theorem dX8_share_34 : jm_d cX8_share 34 (.bipush (-2)) 2 36 := ⟨by decide +kernel, rfl⟩
theorem dX8_share_36 : jm_d cX8_share 36 (.invokevirtual 64) 3 39 := ⟨by decide +kernel, rfl⟩
theorem dX8_share_39 : jm_d cX8_share 39 (.i2l) 1 40 := ⟨by decide +kernel, rfl⟩
theorem dX8_share_40 : jm_d cX8_share 40 (.lsub) 1 41 := ⟨by decide +kernel, rfl⟩
theorem dX8_share_41 : jm_d cX8_share 41 (.lreturn) 1 42 := ⟨by decide +kernel, rfl⟩
set_option maxHeartbeats 4000000 in
set_option maxRecDepth 100000 in
theorem kW_share (E : jm_Ev) (hE : jm_dj E jm_LC) {M : jm_M} {p1 : Int32} {p2 : Int32}  {r : Int64 × jm_M} (h : sW_share M p1 p2 = some r) : jm_Ct E jm_LC yX8_share cX8_share 3 (some .long) 3 66 [.ref (jm_a E 0 0), .int p1, .int p2] M (some (.long r.1)) r.2 := by
  refine jm_enter (lv := [some (.ref (jm_a E 0 0)), some (.int p1), some (.int p2)]) hE (by decide) (Nat.le_of_ble_eq_true rfl) rfl ?_
  intro z w F hz
  have G : jm_G w 0 [some (.ref (jm_a E 0 0)), some (.int p1), some (.int p2)] [] M (sW_share M p1 p2) (fun e => z (some (.long e.1)) e.2) := by
    unfold sW_share
    refine jm_aload_n (i := 0) F dX8_share_0 rfl rfl ?_
    refine jm_getR F dX8_share_1 fl_X8_10 lo_X8 rfl ?_
    refine jm_iload_n (i := 1) F dX8_share_4 rfl rfl ?_
    refine jm_callV (As := [.int p1]) (st := []) (rv := fun r => some (.int r)) (mm := fun _ => M) F dX8_share_5 qX8_108 rfl (lo_T isT_1) rfl (fun r h => kT_hasPerson E hE isT_1 h) rfl (Nat.le_of_ble_eq_true rfl) ⟨Nat.le_of_ble_eq_true rfl, Nat.le_of_ble_eq_true rfl⟩ (fun r1 => ?_)
    refine jm_if_ne F dX8_share_8 (fun c2 => ?_) (fun c2 => ?_)
    · refine jm_ldc2 F dX8_share_11 tw_811 ?_
      refine jm_aload_n (i := 0) F dX8_share_14 rfl rfl ?_
      refine jm_iconst F dX8_share_15 kc_m1 ?_
      refine jm_callV (As := [.int (-1)]) (st := [.long 4000000000000000000]) (rv := fun r => some (.int r.1)) (mm := fun r => r.2) F dX8_share_16 qX8_64 rfl lo_X8 rfl (fun r h => kW_refuse E hE h) rfl (Nat.le_of_ble_eq_true rfl) ⟨Nat.le_of_ble_eq_true rfl, Nat.le_of_ble_eq_true rfl⟩ (fun r3 => ?_)
      refine jm_i2l F dX8_share_19 ?_
      refine jm_lsub F dX8_share_20 ?_
      exact jm_lret F dX8_share_21 (fun h => h)
    · refine jm_aload_n (i := 0) F dX8_share_22 rfl rfl ?_
      refine jm_iload_n (i := 2) F dX8_share_23 rfl rfl ?_
      refine jm_callV (As := [.int p2]) (st := []) (rv := fun r => some (.int r)) (mm := fun _ => M) F dX8_share_24 qX8_199 rfl lo_X8 rfl (fun r h => kW_isNeither E hE h) rfl (Nat.le_of_ble_eq_true rfl) ⟨Nat.le_of_ble_eq_true rfl, Nat.le_of_ble_eq_true rfl⟩ (fun r4 => ?_)
      refine jm_if_eq F dX8_share_27 (fun c5 => ?_) (fun c5 => ?_)
      · refine jm_aload_n (i := 0) F dX8_share_42 rfl rfl ?_
        refine jm_getR F dX8_share_43 fl_X8_10 lo_X8 rfl ?_
        refine jm_iload_n (i := 1) F dX8_share_46 rfl rfl ?_
        refine jm_callV (As := [.int p1]) (st := []) (rv := fun r => some (.int r)) (mm := fun _ => M) F dX8_share_47 qX8_120 rfl (lo_T isT_1) rfl (fun r h => kT_readingsOf E hE isT_1 h) rfl (Nat.le_of_ble_eq_true rfl) ⟨Nat.le_of_ble_eq_true rfl, Nat.le_of_ble_eq_true rfl⟩ (fun r6 => ?_)
        refine jm_i2l F dX8_share_50 ?_
        refine jm_aload_n (i := 0) F dX8_share_51 rfl rfl ?_
        refine jm_getR F dX8_share_52 fl_X8_10 lo_X8 rfl ?_
        refine jm_getI F dX8_share_55 fl_X8_89 (lo_T isT_1) rfl ?_
        refine jm_i2l F dX8_share_58 ?_
        refine jm_iload_n (i := 2) F dX8_share_59 rfl rfl ?_
        refine jm_callS (As := [.long ((r6 : Int32).toInt64), .long ((M 1 0 4 : Int32).toInt64), .int p2]) (st := []) (rv := fun r => some (.long r)) (mm := fun _ => M) F dX8_share_60 qX8_277 rfl (fun r h => kQ_part E hE h) rfl (Nat.le_of_ble_eq_true rfl) ⟨Nat.le_of_ble_eq_true rfl, Nat.le_of_ble_eq_true rfl⟩ (fun r7 => ?_)
        exact jm_lret F dX8_share_63 (fun h => h)
      · refine jm_ldc2 F dX8_share_30 tw_811 ?_
        refine jm_aload_n (i := 0) F dX8_share_33 rfl rfl ?_
        refine jm_bipush F dX8_share_34 kb_m2 ?_
        refine jm_callV (As := [.int (-2)]) (st := [.long 4000000000000000000]) (rv := fun r => some (.int r.1)) (mm := fun r => r.2) F dX8_share_36 qX8_64 rfl lo_X8 rfl (fun r h => kW_refuse E hE h) rfl (Nat.le_of_ble_eq_true rfl) ⟨Nat.le_of_ble_eq_true rfl, Nat.le_of_ble_eq_true rfl⟩ (fun r8 => ?_)
        refine jm_i2l F dX8_share_39 ?_
        refine jm_lsub F dX8_share_40 ?_
        exact jm_lret F dX8_share_41 (fun h => h)
  exact G r h hz
theorem dX8_byHeart_0 : jm_d cX8_byHeart 0 (.aload_n 0) 1 1 := ⟨by decide +kernel, rfl⟩
theorem dX8_byHeart_1 : jm_d cX8_byHeart 1 (.iload_n 1) 1 2 := ⟨by decide +kernel, rfl⟩
theorem dX8_byHeart_2 : jm_d cX8_byHeart 2 (.iload_n 2) 1 3 := ⟨by decide +kernel, rfl⟩
theorem dX8_byHeart_3 : jm_d cX8_byHeart 3 (.invokevirtual 188) 3 6 := ⟨by decide +kernel, rfl⟩
theorem dX8_byHeart_6 : jm_b cX8_byHeart 6 (.ifCond .ne) 9 15 := ⟨9, by decide +kernel, rfl, by decide⟩
theorem dX8_byHeart_9 : jm_d cX8_byHeart 9 (.aload_n 0) 1 10 := ⟨by decide +kernel, rfl⟩
theorem dX8_byHeart_10 : jm_d cX8_byHeart 10 (.iconst (-1)) 1 11 := ⟨by decide +kernel, rfl⟩
theorem dX8_byHeart_11 : jm_d cX8_byHeart 11 (.invokevirtual 64) 3 14 := ⟨by decide +kernel, rfl⟩
theorem dX8_byHeart_14 : jm_d cX8_byHeart 14 (.ireturn) 1 15 := ⟨by decide +kernel, rfl⟩
theorem dX8_byHeart_15 : jm_d cX8_byHeart 15 (.aload_n 0) 1 16 := ⟨by decide +kernel, rfl⟩
theorem dX8_byHeart_16 : jm_d cX8_byHeart 16 (.getfield 10) 3 19 := ⟨by decide +kernel, rfl⟩
theorem dX8_byHeart_19 : jm_d cX8_byHeart 19 (.iload_n 1) 1 20 := ⟨by decide +kernel, rfl⟩
theorem dX8_byHeart_20 : jm_d cX8_byHeart 20 (.invokevirtual 318) 3 23 := ⟨by decide +kernel, rfl⟩
theorem dX8_byHeart_23 : jm_d cX8_byHeart 23 (.aload_n 0) 1 24 := ⟨by decide +kernel, rfl⟩
theorem dX8_byHeart_24 : jm_d cX8_byHeart 24 (.getfield 10) 3 27 := ⟨by decide +kernel, rfl⟩
theorem dX8_byHeart_27 : jm_d cX8_byHeart 27 (.iload_n 2) 1 28 := ⟨by decide +kernel, rfl⟩
theorem dX8_byHeart_28 : jm_d cX8_byHeart 28 (.invokevirtual 318) 3 31 := ⟨by decide +kernel, rfl⟩
theorem dX8_byHeart_31 : jm_d cX8_byHeart 31 (.iand) 1 32 := ⟨by decide +kernel, rfl⟩
theorem dX8_byHeart_32 : jm_d cX8_byHeart 32 (.ireturn) 1 33 := ⟨by decide +kernel, rfl⟩
set_option maxHeartbeats 4000000 in
set_option maxRecDepth 100000 in
theorem kW_byHeart (E : jm_Ev) (hE : jm_dj E jm_LC) {M : jm_M} {p1 : Int32} {p2 : Int32}  {r : Int32 × jm_M} (h : sW_byHeart M p1 p2 = some r) : jm_Ct E jm_LC yX8_byHeart cX8_byHeart 3 (some .int) 2 45 [.ref (jm_a E 0 0), .int p1, .int p2] M (some (.int r.1)) r.2 := by
  refine jm_enter (lv := [some (.ref (jm_a E 0 0)), some (.int p1), some (.int p2)]) hE (by decide) (Nat.le_of_ble_eq_true rfl) rfl ?_
  intro z w F hz
  have G : jm_G w 0 [some (.ref (jm_a E 0 0)), some (.int p1), some (.int p2)] [] M (sW_byHeart M p1 p2) (fun e => z (some (.int e.1)) e.2) := by
    unfold sW_byHeart
    refine jm_aload_n (i := 0) F dX8_byHeart_0 rfl rfl ?_
    refine jm_iload_n (i := 1) F dX8_byHeart_1 rfl rfl ?_
    refine jm_iload_n (i := 2) F dX8_byHeart_2 rfl rfl ?_
    refine jm_callV (As := [.int p1, .int p2]) (st := []) (rv := fun r => some (.int r)) (mm := fun _ => M) F dX8_byHeart_3 qX8_188 rfl lo_X8 rfl (fun r h => kW_areTwo E hE h) rfl (Nat.le_of_ble_eq_true rfl) ⟨Nat.le_of_ble_eq_true rfl, Nat.le_of_ble_eq_true rfl⟩ (fun r1 => ?_)
    refine jm_if_ne F dX8_byHeart_6 (fun c2 => ?_) (fun c2 => ?_)
    · refine jm_aload_n (i := 0) F dX8_byHeart_9 rfl rfl ?_
      refine jm_iconst F dX8_byHeart_10 kc_m1 ?_
      refine jm_callV (As := [.int (-1)]) (st := []) (rv := fun r => some (.int r.1)) (mm := fun r => r.2) F dX8_byHeart_11 qX8_64 rfl lo_X8 rfl (fun r h => kW_refuse E hE h) rfl (Nat.le_of_ble_eq_true rfl) ⟨Nat.le_of_ble_eq_true rfl, Nat.le_of_ble_eq_true rfl⟩ (fun r3 => ?_)
      exact jm_iret F dX8_byHeart_14 (fun h => h)
    · refine jm_aload_n (i := 0) F dX8_byHeart_15 rfl rfl ?_
      refine jm_getR F dX8_byHeart_16 fl_X8_10 lo_X8 rfl ?_
      refine jm_iload_n (i := 1) F dX8_byHeart_19 rfl rfl ?_
      refine jm_callV (As := [.int p1]) (st := []) (rv := fun r => some (.int r)) (mm := fun _ => M) F dX8_byHeart_20 qX8_318 rfl (lo_T isT_1) rfl (fun r h => kT_booksReadBy E hE isT_1 h) rfl (Nat.le_of_ble_eq_true rfl) ⟨Nat.le_of_ble_eq_true rfl, Nat.le_of_ble_eq_true rfl⟩ (fun r4 => ?_)
      refine jm_aload_n (i := 0) F dX8_byHeart_23 rfl rfl ?_
      refine jm_getR F dX8_byHeart_24 fl_X8_10 lo_X8 rfl ?_
      refine jm_iload_n (i := 2) F dX8_byHeart_27 rfl rfl ?_
      refine jm_callV (As := [.int p2]) (st := [.int r4]) (rv := fun r => some (.int r)) (mm := fun _ => M) F dX8_byHeart_28 qX8_318 rfl (lo_T isT_1) rfl (fun r h => kT_booksReadBy E hE isT_1 h) rfl (Nat.le_of_ble_eq_true rfl) ⟨Nat.le_of_ble_eq_true rfl, Nat.le_of_ble_eq_true rfl⟩ (fun r5 => ?_)
      refine jm_iand F dX8_byHeart_31 ?_
      exact jm_iret F dX8_byHeart_32 (fun h => h)
  exact G r h hz
theorem dX8_kinds_0 : jm_d cX8_kinds 0 (.iload_n 1) 1 1 := ⟨by decide +kernel, rfl⟩
theorem dX8_kinds_1 : jm_b cX8_kinds 1 (.ifCond .lt) 4 10 := ⟨9, by decide +kernel, rfl, by decide⟩
theorem dX8_kinds_10 : jm_d cX8_kinds 10 (.aload_n 0) 1 11 := ⟨by decide +kernel, rfl⟩
theorem dX8_kinds_11 : jm_d cX8_kinds 11 (.bipush (-2)) 2 13 := ⟨by decide +kernel, rfl⟩
theorem dX8_kinds_13 : jm_d cX8_kinds 13 (.invokevirtual 64) 3 16 := ⟨by decide +kernel, rfl⟩
theorem dX8_kinds_16 : jm_d cX8_kinds 16 (.ireturn) 1 17 := ⟨by decide +kernel, rfl⟩
theorem dX8_kinds_4 : jm_d cX8_kinds 4 (.iload_n 1) 1 5 := ⟨by decide +kernel, rfl⟩
theorem dX8_kinds_5 : jm_d cX8_kinds 5 (.bipush 8) 2 7 := ⟨by decide +kernel, rfl⟩
theorem dX8_kinds_7 : jm_b cX8_kinds 7 (.if_icmp .lt) 10 17 := ⟨10, by decide +kernel, rfl, by decide⟩
theorem dX8_kinds_17 : jm_d cX8_kinds 17 (.aload_n 0) 1 18 := ⟨by decide +kernel, rfl⟩
theorem dX8_kinds_18 : jm_d cX8_kinds 18 (.getfield 10) 3 21 := ⟨by decide +kernel, rfl⟩
theorem dX8_kinds_21 : jm_d cX8_kinds 21 (.aload_n 0) 1 22 := ⟨by decide +kernel, rfl⟩
theorem dX8_kinds_22 : jm_d cX8_kinds 22 (.getfield 10) 3 25 := ⟨by decide +kernel, rfl⟩
theorem dX8_kinds_25 : jm_d cX8_kinds 25 (.getfield 136) 3 28 := ⟨by decide +kernel, rfl⟩
theorem dX8_kinds_28 : jm_d cX8_kinds 28 (.iload_n 1) 1 29 := ⟨by decide +kernel, rfl⟩
theorem dX8_kinds_29 : jm_d cX8_kinds 29 (.invokevirtual 126) 3 32 := ⟨by decide +kernel, rfl⟩
theorem dX8_kinds_32 : jm_d cX8_kinds 32 (.ireturn) 1 33 := ⟨by decide +kernel, rfl⟩
set_option maxHeartbeats 4000000 in
set_option maxRecDepth 100000 in
theorem kW_kinds (E : jm_Ev) (hE : jm_dj E jm_LC) {M : jm_M} {p1 : Int32}  {r : Int32 × jm_M} (h : sW_kinds M p1 = some r) : jm_Ct E jm_LC yX8_kinds cX8_kinds 2 (some .int) 1 24 [.ref (jm_a E 0 0), .int p1] M (some (.int r.1)) r.2 := by
  refine jm_enter (lv := [some (.ref (jm_a E 0 0)), some (.int p1)]) hE (by decide) (Nat.le_of_ble_eq_true rfl) rfl ?_
  intro z w F hz
  have G : jm_G w 0 [some (.ref (jm_a E 0 0)), some (.int p1)] [] M (sW_kinds M p1) (fun e => z (some (.int e.1)) e.2) := by
    unfold sW_kinds
    refine jm_iload_n (i := 1) F dX8_kinds_0 rfl rfl ?_
    refine jm_if_lt F dX8_kinds_1 (fun c1 => ?_) (fun c1 => ?_)
    · refine jm_aload_n (i := 0) F dX8_kinds_10 rfl rfl ?_
      refine jm_bipush F dX8_kinds_11 kb_m2 ?_
      refine jm_callV (As := [.int (-2)]) (st := []) (rv := fun r => some (.int r.1)) (mm := fun r => r.2) F dX8_kinds_13 qX8_64 rfl lo_X8 rfl (fun r h => kW_refuse E hE h) rfl (Nat.le_of_ble_eq_true rfl) ⟨Nat.le_of_ble_eq_true rfl, Nat.le_of_ble_eq_true rfl⟩ (fun r2 => ?_)
      exact jm_iret F dX8_kinds_16 (fun h => h)
    · refine jm_iload_n (i := 1) F dX8_kinds_4 rfl rfl ?_
      refine jm_bipush F dX8_kinds_5 kb_8 ?_
      refine jm_icmp_lt F dX8_kinds_7 (fun c3 => ?_) (fun c3 => ?_)
      · refine jm_aload_n (i := 0) F dX8_kinds_17 rfl rfl ?_
        refine jm_getR F dX8_kinds_18 fl_X8_10 lo_X8 rfl ?_
        refine jm_aload_n (i := 0) F dX8_kinds_21 rfl rfl ?_
        refine jm_getR F dX8_kinds_22 fl_X8_10 lo_X8 rfl ?_
        refine jm_getR F dX8_kinds_25 fl_X8_136 (lo_T isT_1) rfl ?_
        refine jm_iload_n (i := 1) F dX8_kinds_28 rfl rfl ?_
        refine jm_callV (As := [.ref (jm_a E 1 6), .int p1]) (st := []) (rv := fun r => some (.int r)) (mm := fun _ => M) F dX8_kinds_29 qX8_126 rfl (lo_T isT_1) rfl (fun r h => kT_booksWith E hE isT_1 h) rfl (Nat.le_of_ble_eq_true rfl) ⟨Nat.le_of_ble_eq_true rfl, Nat.le_of_ble_eq_true rfl⟩ (fun r4 => ?_)
        exact jm_iret F dX8_kinds_32 (fun h => h)
      · refine jm_aload_n (i := 0) F dX8_kinds_10 rfl rfl ?_
        refine jm_bipush F dX8_kinds_11 kb_m2 ?_
        refine jm_callV (As := [.int (-2)]) (st := []) (rv := fun r => some (.int r.1)) (mm := fun r => r.2) F dX8_kinds_13 qX8_64 rfl lo_X8 rfl (fun r h => kW_refuse E hE h) rfl (Nat.le_of_ble_eq_true rfl) ⟨Nat.le_of_ble_eq_true rfl, Nat.le_of_ble_eq_true rfl⟩ (fun r5 => ?_)
        exact jm_iret F dX8_kinds_16 (fun h => h)
  exact G r h hz
theorem dX8_row_0 : jm_d cX8_row 0 (.iload_n 1) 1 1 := ⟨by decide +kernel, rfl⟩
theorem dX8_row_1 : jm_d cX8_row 1 (.bipush (-99)) 2 3 := ⟨by decide +kernel, rfl⟩
theorem dX8_row_3 : jm_b cX8_row 3 (.if_icmp .ge) 6 13 := ⟨10, by decide +kernel, rfl, by decide⟩
theorem dX8_row_13 : jm_d cX8_row 13 (.iload_n 1) 1 14 := ⟨by decide +kernel, rfl⟩
theorem dX8_row_14 : jm_d cX8_row 14 (.bipush 99) 2 16 := ⟨by decide +kernel, rfl⟩
theorem dX8_row_16 : jm_b cX8_row 16 (.if_icmp .gt) 19 28 := ⟨12, by decide +kernel, rfl, by decide⟩
theorem dX8_row_28 : jm_d cX8_row 28 (.aload_n 0) 1 29 := ⟨by decide +kernel, rfl⟩
theorem dX8_row_29 : jm_d cX8_row 29 (.bipush (-6)) 2 31 := ⟨by decide +kernel, rfl⟩
theorem dX8_row_31 : jm_d cX8_row 31 (.invokevirtual 64) 3 34 := ⟨by decide +kernel, rfl⟩
theorem dX8_row_34 : jm_d cX8_row 34 (.ireturn) 1 35 := ⟨by decide +kernel, rfl⟩
theorem dX8_row_19 : jm_d cX8_row 19 (.aload_n 0) 1 20 := ⟨by decide +kernel, rfl⟩
theorem dX8_row_20 : jm_d cX8_row 20 (.getfield 254) 3 23 := ⟨by decide +kernel, rfl⟩
theorem dX8_row_23 : jm_d cX8_row 23 (.bipush 12) 2 25 := ⟨by decide +kernel, rfl⟩
theorem dX8_row_25 : jm_b cX8_row 25 (.if_icmp .lt) 28 35 := ⟨10, by decide +kernel, rfl, by decide⟩
theorem dX8_row_35 : jm_d cX8_row 35 (.aload_n 0) 1 36 := ⟨by decide +kernel, rfl⟩
theorem dX8_row_36 : jm_d cX8_row 36 (.getfield 58) 3 39 := ⟨by decide +kernel, rfl⟩
theorem dX8_row_39 : jm_d cX8_row 39 (.aload_n 0) 1 40 := ⟨by decide +kernel, rfl⟩
theorem dX8_row_40 : jm_d cX8_row 40 (.getfield 254) 3 43 := ⟨by decide +kernel, rfl⟩
theorem dX8_row_43 : jm_d cX8_row 43 (.iload_n 1) 1 44 := ⟨by decide +kernel, rfl⟩
theorem dX8_row_44 : jm_d cX8_row 44 (.iastore) 1 45 := ⟨by decide +kernel, rfl⟩
theorem dX8_row_45 : jm_d cX8_row 45 (.aload_n 0) 1 46 := ⟨by decide +kernel, rfl⟩
theorem dX8_row_46 : jm_d cX8_row 46 (.dup) 1 47 := ⟨by decide +kernel, rfl⟩
theorem dX8_row_47 : jm_d cX8_row 47 (.getfield 254) 3 50 := ⟨by decide +kernel, rfl⟩
theorem dX8_row_50 : jm_d cX8_row 50 (.iconst 1) 1 51 := ⟨by decide +kernel, rfl⟩
theorem dX8_row_51 : jm_d cX8_row 51 (.iadd) 1 52 := ⟨by decide +kernel, rfl⟩
theorem dX8_row_52 : jm_d cX8_row 52 (.putfield 254) 3 55 := ⟨by decide +kernel, rfl⟩
theorem dX8_row_55 : jm_d cX8_row 55 (.aload_n 0) 1 56 := ⟨by decide +kernel, rfl⟩
theorem dX8_row_56 : jm_d cX8_row 56 (.getfield 254) 3 59 := ⟨by decide +kernel, rfl⟩
theorem dX8_row_59 : jm_d cX8_row 59 (.ireturn) 1 60 := ⟨by decide +kernel, rfl⟩
theorem dX8_row_6 : jm_d cX8_row 6 (.aload_n 0) 1 7 := ⟨by decide +kernel, rfl⟩
theorem dX8_row_7 : jm_d cX8_row 7 (.bipush (-4)) 2 9 := ⟨by decide +kernel, rfl⟩
theorem dX8_row_9 : jm_d cX8_row 9 (.invokevirtual 64) 3 12 := ⟨by decide +kernel, rfl⟩
theorem dX8_row_12 : jm_d cX8_row 12 (.ireturn) 1 13 := ⟨by decide +kernel, rfl⟩
set_option maxHeartbeats 4000000 in
set_option maxRecDepth 100000 in
theorem kW_row (E : jm_Ev) (hE : jm_dj E jm_LC) {M : jm_M} {p1 : Int32}  {r : Int32 × jm_M} (h : sW_row M p1 = some r) : jm_Ct E jm_LC yX8_row cX8_row 2 (some .int) 1 21 [.ref (jm_a E 0 0), .int p1] M (some (.int r.1)) r.2 := by
  refine jm_enter (lv := [some (.ref (jm_a E 0 0)), some (.int p1)]) hE (by decide) (Nat.le_of_ble_eq_true rfl) rfl ?_
  intro z w F hz
  have G : jm_G w 0 [some (.ref (jm_a E 0 0)), some (.int p1)] [] M (sW_row M p1) (fun e => z (some (.int e.1)) e.2) := by
    unfold sW_row
    refine jm_iload_n (i := 1) F dX8_row_0 rfl rfl ?_
    refine jm_bipush F dX8_row_1 kb_m99 ?_
    refine jm_icmp_ge F dX8_row_3 (fun c1 => ?_) (fun c1 => ?_)
    · refine jm_iload_n (i := 1) F dX8_row_13 rfl rfl ?_
      refine jm_bipush F dX8_row_14 kb_99 ?_
      refine jm_icmp_gt F dX8_row_16 (fun c2 => ?_) (fun c2 => ?_)
      · refine jm_aload_n (i := 0) F dX8_row_28 rfl rfl ?_
        refine jm_bipush F dX8_row_29 kb_m6 ?_
        refine jm_callV (As := [.int (-6)]) (st := []) (rv := fun r => some (.int r.1)) (mm := fun r => r.2) F dX8_row_31 qX8_64 rfl lo_X8 rfl (fun r h => kW_refuse E hE h) rfl (Nat.le_of_ble_eq_true rfl) ⟨Nat.le_of_ble_eq_true rfl, Nat.le_of_ble_eq_true rfl⟩ (fun r3 => ?_)
        exact jm_iret F dX8_row_34 (fun h => h)
      · refine jm_aload_n (i := 0) F dX8_row_19 rfl rfl ?_
        refine jm_getI F dX8_row_20 fl_X8_254 lo_X8 rfl ?_
        refine jm_bipush F dX8_row_23 kb_12 ?_
        refine jm_icmp_lt F dX8_row_25 (fun c4 => ?_) (fun c4 => ?_)
        · refine jm_aload_n (i := 0) F dX8_row_35 rfl rfl ?_
          refine jm_getR F dX8_row_36 fl_X8_58 lo_X8 rfl ?_
          refine jm_aload_n (i := 0) F dX8_row_39 rfl rfl ?_
          refine jm_getI F dX8_row_40 fl_X8_254 lo_X8 rfl ?_
          refine jm_iload_n (i := 1) F dX8_row_43 rfl rfl ?_
          refine jm_iast F dX8_row_44 la_X8_10 (fun M5 => ?_)
          refine jm_aload_n (i := 0) F dX8_row_45 rfl rfl ?_
          refine jm_dup F dX8_row_46 rfl ?_
          refine jm_getI F dX8_row_47 fl_X8_254 lo_X8 rfl ?_
          refine jm_iconst F dX8_row_50 kc_1 ?_
          refine jm_iadd F dX8_row_51 ?_
          refine jm_putI F dX8_row_52 fp_X8_254 lo_X8 rfl (fun M6 => ?_)
          refine jm_aload_n (i := 0) F dX8_row_55 rfl rfl ?_
          refine jm_getI F dX8_row_56 fl_X8_254 lo_X8 rfl ?_
          exact jm_iret F dX8_row_59 (fun h => h)
        · refine jm_aload_n (i := 0) F dX8_row_28 rfl rfl ?_
          refine jm_bipush F dX8_row_29 kb_m6 ?_
          refine jm_callV (As := [.int (-6)]) (st := []) (rv := fun r => some (.int r.1)) (mm := fun r => r.2) F dX8_row_31 qX8_64 rfl lo_X8 rfl (fun r h => kW_refuse E hE h) rfl (Nat.le_of_ble_eq_true rfl) ⟨Nat.le_of_ble_eq_true rfl, Nat.le_of_ble_eq_true rfl⟩ (fun r7 => ?_)
          exact jm_iret F dX8_row_34 (fun h => h)
    · refine jm_aload_n (i := 0) F dX8_row_6 rfl rfl ?_
      refine jm_bipush F dX8_row_7 kb_m4 ?_
      refine jm_callV (As := [.int (-4)]) (st := []) (rv := fun r => some (.int r.1)) (mm := fun r => r.2) F dX8_row_9 qX8_64 rfl lo_X8 rfl (fun r h => kW_refuse E hE h) rfl (Nat.le_of_ble_eq_true rfl) ⟨Nat.le_of_ble_eq_true rfl, Nat.le_of_ble_eq_true rfl⟩ (fun r8 => ?_)
      exact jm_iret F dX8_row_12 (fun h => h)
  exact G r h hz
theorem dX8_judge_0 : jm_d cX8_judge 0 (.bipush (-9)) 2 2 := ⟨by decide +kernel, rfl⟩
theorem dX8_judge_2 : jm_d cX8_judge 2 (.istore_n 1) 1 3 := ⟨by decide +kernel, rfl⟩
theorem dX8_judge_3 : jm_d cX8_judge 3 (.aload_n 0) 1 4 := ⟨by decide +kernel, rfl⟩
theorem dX8_judge_4 : jm_d cX8_judge 4 (.getfield 254) 3 7 := ⟨by decide +kernel, rfl⟩
theorem dX8_judge_7 : jm_d cX8_judge 7 (.iconst 1) 1 8 := ⟨by decide +kernel, rfl⟩
theorem dX8_judge_8 : jm_d cX8_judge 8 (.isub) 1 9 := ⟨by decide +kernel, rfl⟩
theorem dX8_judge_9 : jm_d cX8_judge 9 (.istore_n 2) 1 10 := ⟨by decide +kernel, rfl⟩
theorem dX8_judge_10 : jm_d cX8_judge 10 (.iload_n 2) 1 11 := ⟨by decide +kernel, rfl⟩
theorem dX8_judge_11 : jm_b cX8_judge 11 (.ifCond .lt) 14 51 := ⟨40, by decide +kernel, rfl, by decide⟩
theorem dX8_judge_14 : jm_d cX8_judge 14 (.aload_n 0) 1 15 := ⟨by decide +kernel, rfl⟩
theorem dX8_judge_15 : jm_d cX8_judge 15 (.getfield 10) 3 18 := ⟨by decide +kernel, rfl⟩
theorem dX8_judge_18 : jm_d cX8_judge 18 (.iload_n 2) 1 19 := ⟨by decide +kernel, rfl⟩
theorem dX8_judge_19 : jm_d cX8_judge 19 (.invokevirtual 108) 3 22 := ⟨by decide +kernel, rfl⟩
theorem dX8_judge_22 : jm_b cX8_judge 22 (.ifCond .eq) 25 43 := ⟨21, by decide +kernel, rfl, by decide⟩
theorem dX8_judge_43 : jm_d cX8_judge 43 (.iload_n 2) 1 44 := ⟨by decide +kernel, rfl⟩
theorem dX8_judge_44 : jm_d cX8_judge 44 (.istore_n 1) 1 45 := ⟨by decide +kernel, rfl⟩
theorem dX8_judge_45 : jm_d cX8_judge 45 (.iinc 2 (-1)) 3 48 := ⟨by decide +kernel, rfl⟩
theorem dX8_judge_48 : jm_b cX8_judge 48 .goto 51 10 := ⟨(-38), by decide +kernel, rfl, by decide⟩
theorem dX8_judge_25 : jm_d cX8_judge 25 (.aload_n 0) 1 26 := ⟨by decide +kernel, rfl⟩
theorem dX8_judge_26 : jm_d cX8_judge 26 (.getfield 10) 3 29 := ⟨by decide +kernel, rfl⟩
theorem dX8_judge_29 : jm_d cX8_judge 29 (.getfield 111) 3 32 := ⟨by decide +kernel, rfl⟩
theorem dX8_judge_32 : jm_d cX8_judge 32 (.iload_n 2) 1 33 := ⟨by decide +kernel, rfl⟩
theorem dX8_judge_33 : jm_d cX8_judge 33 (.iaload) 1 34 := ⟨by decide +kernel, rfl⟩
theorem dX8_judge_34 : jm_d cX8_judge 34 (.aload_n 0) 1 35 := ⟨by decide +kernel, rfl⟩
theorem dX8_judge_35 : jm_d cX8_judge 35 (.getfield 58) 3 38 := ⟨by decide +kernel, rfl⟩
theorem dX8_judge_38 : jm_d cX8_judge 38 (.iload_n 2) 1 39 := ⟨by decide +kernel, rfl⟩
theorem dX8_judge_39 : jm_d cX8_judge 39 (.iaload) 1 40 := ⟨by decide +kernel, rfl⟩
theorem dX8_judge_40 : jm_b cX8_judge 40 (.if_icmp .eq) 43 45 := ⟨5, by decide +kernel, rfl, by decide⟩
theorem dX8_judge_51 : jm_d cX8_judge 51 (.aload_n 0) 1 52 := ⟨by decide +kernel, rfl⟩
theorem dX8_judge_52 : jm_d cX8_judge 52 (.iconst 0) 1 53 := ⟨by decide +kernel, rfl⟩
theorem dX8_judge_53 : jm_d cX8_judge 53 (.putfield 254) 3 56 := ⟨by decide +kernel, rfl⟩
theorem dX8_judge_56 : jm_d cX8_judge 56 (.iload_n 1) 1 57 := ⟨by decide +kernel, rfl⟩
theorem dX8_judge_57 : jm_d cX8_judge 57 (.ireturn) 1 58 := ⟨by decide +kernel, rfl⟩
set_option maxHeartbeats 4000000 in
set_option maxRecDepth 100000 in
theorem kW_judge (E : jm_Ev) (hE : jm_dj E jm_LC) {M : jm_M}  {r : Int32 × jm_M} (h : sW_judge M = some r) : jm_Ct E jm_LC yX8_judge cX8_judge 3 (some .int) 1 21 [.ref (jm_a E 0 0)] M (some (.int r.1)) r.2 := by
  refine jm_enter (lv := [some (.ref (jm_a E 0 0)), none, none]) hE (by decide) (Nat.le_of_ble_eq_true rfl) rfl ?_
  intro z w F hz
  have G : jm_G w 0 [some (.ref (jm_a E 0 0)), none, none] [] M (sW_judge M) (fun e => z (some (.int e.1)) e.2) := by
    unfold sW_judge
    refine jm_bipush F dX8_judge_0 kb_m9 ?_
    refine jm_istore_n (i := 1) (lv' := [some (.ref (jm_a E 0 0)), some (.int (-9)), none]) F dX8_judge_2 rfl (by decide) rfl rfl ?_
    refine jm_aload_n (i := 0) F dX8_judge_3 rfl rfl ?_
    refine jm_getI F dX8_judge_4 fl_X8_254 lo_X8 rfl ?_
    refine jm_iconst F dX8_judge_7 kc_1 ?_
    refine jm_isub F dX8_judge_8 ?_
    refine jm_nameI (f := fun x1 => [.int x1]) (fun x1 => ?_) rfl
    refine jm_istore_n (i := 2) (lv' := [some (.ref (jm_a E 0 0)), some (.int (-9)), some (.int x1)]) F dX8_judge_9 rfl (by decide) rfl rfl ?_
    refine jm_bind (pcJ := 51) (lvJ := fun e9 => [some (.ref (jm_a E 0 0)), some (.int e9), none]) (stJ := fun _ => []) (MJ := fun e9 => M) ?_ (fun e9 => ?_)
    · refine jm_weak F (lv' := [some (.ref (jm_a E 0 0)), some (.int (-9)), some (.int x1)]) ⟨rfl, rfl, rfl, trivial⟩ ?_
      refine jm_loopR (lvH := fun s2 => [some (.ref (jm_a E 0 0)), some (.int s2.1), some (.int s2.2)]) (MH := fun s2 => M) (fun s2 => ?_) jm_N ((-9), x1)
      unfold sW_judge_L10
      refine jm_iload_n (i := 2) F dX8_judge_10 rfl rfl ?_
      refine jm_if_lt F dX8_judge_11 (fun c3 => ?_) (fun c3 => ?_)
      · exact jm_weakD F (lv' := [some (.ref (jm_a E 0 0)), some (.int s2.1), none]) ⟨rfl, rfl, trivial⟩ (fun h => h)
      · refine jm_aload_n (i := 0) F dX8_judge_14 rfl rfl ?_
        refine jm_getR F dX8_judge_15 fl_X8_10 lo_X8 rfl ?_
        refine jm_iload_n (i := 2) F dX8_judge_18 rfl rfl ?_
        refine jm_callV (As := [.int s2.2]) (st := []) (rv := fun r => some (.int r)) (mm := fun _ => M) F dX8_judge_19 qX8_108 rfl (lo_T isT_1) rfl (fun r h => kT_hasPerson E hE isT_1 h) rfl (Nat.le_of_ble_eq_true rfl) ⟨Nat.le_of_ble_eq_true rfl, Nat.le_of_ble_eq_true rfl⟩ (fun r4 => ?_)
        refine jm_if_eq F dX8_judge_22 (fun c5 => ?_) (fun c5 => ?_)
        · refine jm_iload_n (i := 2) F dX8_judge_43 rfl rfl ?_
          refine jm_istore_n (i := 1) (lv' := [some (.ref (jm_a E 0 0)), some (.int s2.2), some (.int s2.2)]) F dX8_judge_44 rfl (by decide) rfl rfl ?_
          refine jm_iinc (i := 2) (lv' := [some (.ref (jm_a E 0 0)), some (.int s2.2), some (.int (s2.2 + (-1)))]) F dX8_judge_45 kc_m1 rfl (by decide) rfl rfl ?_
          refine jm_goto F dX8_judge_48 ?_
          exact jm_weakD F (lv' := [some (.ref (jm_a E 0 0)), some (.int s2.2), some (.int (s2.2 + (-1)))]) ⟨rfl, rfl, rfl, trivial⟩ (fun h => h)
        · refine jm_aload_n (i := 0) F dX8_judge_25 rfl rfl ?_
          refine jm_getR F dX8_judge_26 fl_X8_10 lo_X8 rfl ?_
          refine jm_getR F dX8_judge_29 fl_X8_111 (lo_T isT_1) rfl ?_
          refine jm_iload_n (i := 2) F dX8_judge_32 rfl rfl ?_
          refine jm_iald F dX8_judge_33 (la_T_2 isT_1) (fun v6 => ?_)
          refine jm_aload_n (i := 0) F dX8_judge_34 rfl rfl ?_
          refine jm_getR F dX8_judge_35 fl_X8_58 lo_X8 rfl ?_
          refine jm_iload_n (i := 2) F dX8_judge_38 rfl rfl ?_
          refine jm_iald F dX8_judge_39 la_X8_10 (fun v7 => ?_)
          refine jm_icmp_eq F dX8_judge_40 (fun c8 => ?_) (fun c8 => ?_)
          · refine jm_iinc (i := 2) (lv' := [some (.ref (jm_a E 0 0)), some (.int s2.1), some (.int (s2.2 + (-1)))]) F dX8_judge_45 kc_m1 rfl (by decide) rfl rfl ?_
            refine jm_goto F dX8_judge_48 ?_
            exact jm_weakD F (lv' := [some (.ref (jm_a E 0 0)), some (.int s2.1), some (.int (s2.2 + (-1)))]) ⟨rfl, rfl, rfl, trivial⟩ (fun h => h)
          · refine jm_iload_n (i := 2) F dX8_judge_43 rfl rfl ?_
            refine jm_istore_n (i := 1) (lv' := [some (.ref (jm_a E 0 0)), some (.int s2.2), some (.int s2.2)]) F dX8_judge_44 rfl (by decide) rfl rfl ?_
            refine jm_iinc (i := 2) (lv' := [some (.ref (jm_a E 0 0)), some (.int s2.2), some (.int (s2.2 + (-1)))]) F dX8_judge_45 kc_m1 rfl (by decide) rfl rfl ?_
            refine jm_goto F dX8_judge_48 ?_
            exact jm_weakD F (lv' := [some (.ref (jm_a E 0 0)), some (.int s2.2), some (.int (s2.2 + (-1)))]) ⟨rfl, rfl, rfl, trivial⟩ (fun h => h)
    · refine jm_aload_n (i := 0) F dX8_judge_51 rfl rfl ?_
      refine jm_iconst F dX8_judge_52 kc_0 ?_
      refine jm_putI F dX8_judge_53 fp_X8_254 lo_X8 rfl (fun M10 => ?_)
      refine jm_iload_n (i := 1) F dX8_judge_56 rfl rfl ?_
      exact jm_iret F dX8_judge_57 (fun h => h)
  exact G r h hz
theorem dX8_clear_0 : jm_d cX8_clear 0 (.aload_n 0) 1 1 := ⟨by decide +kernel, rfl⟩
theorem dX8_clear_1 : jm_d cX8_clear 1 (.getfield 254) 3 4 := ⟨by decide +kernel, rfl⟩
theorem dX8_clear_4 : jm_d cX8_clear 4 (.istore_n 1) 1 5 := ⟨by decide +kernel, rfl⟩
theorem dX8_clear_5 : jm_d cX8_clear 5 (.aload_n 0) 1 6 := ⟨by decide +kernel, rfl⟩
theorem dX8_clear_6 : jm_d cX8_clear 6 (.iconst 0) 1 7 := ⟨by decide +kernel, rfl⟩
theorem dX8_clear_7 : jm_d cX8_clear 7 (.putfield 254) 3 10 := ⟨by decide +kernel, rfl⟩
theorem dX8_clear_10 : jm_d cX8_clear 10 (.iload_n 1) 1 11 := ⟨by decide +kernel, rfl⟩
theorem dX8_clear_11 : jm_d cX8_clear 11 (.ireturn) 1 12 := ⟨by decide +kernel, rfl⟩
set_option maxHeartbeats 4000000 in
set_option maxRecDepth 100000 in
theorem kW_clear (E : jm_Ev) (hE : jm_dj E jm_LC) {M : jm_M}  {r : Int32 × jm_M} (h : sW_clear M = some r) : jm_Ct E jm_LC yX8_clear cX8_clear 2 (some .int) 0 0 [.ref (jm_a E 0 0)] M (some (.int r.1)) r.2 := by
  refine jm_enter (lv := [some (.ref (jm_a E 0 0)), none]) hE (by decide) (Nat.le_of_ble_eq_true rfl) rfl ?_
  intro z w F hz
  have G : jm_G w 0 [some (.ref (jm_a E 0 0)), none] [] M (sW_clear M) (fun e => z (some (.int e.1)) e.2) := by
    unfold sW_clear
    refine jm_aload_n (i := 0) F dX8_clear_0 rfl rfl ?_
    refine jm_getI F dX8_clear_1 fl_X8_254 lo_X8 rfl ?_
    refine jm_nameI (f := fun x1 => [.int x1]) (fun x1 => ?_) rfl
    refine jm_istore_n (i := 1) (lv' := [some (.ref (jm_a E 0 0)), some (.int x1)]) F dX8_clear_4 rfl (by decide) rfl rfl ?_
    refine jm_aload_n (i := 0) F dX8_clear_5 rfl rfl ?_
    refine jm_iconst F dX8_clear_6 kc_0 ?_
    refine jm_putI F dX8_clear_7 fp_X8_254 lo_X8 rfl (fun M2 => ?_)
    refine jm_iload_n (i := 1) F dX8_clear_10 rfl rfl ?_
    exact jm_iret F dX8_clear_11 (fun h => h)
  exact G r h hz
theorem dX8_image_0 : jm_d cX8_image 0 (.aload_n 0) 1 1 := ⟨by decide +kernel, rfl⟩
theorem dX8_image_1 : jm_d cX8_image 1 (.getfield 23) 3 4 := ⟨by decide +kernel, rfl⟩
theorem dX8_image_4 : jm_d cX8_image 4 (.aload_n 0) 1 5 := ⟨by decide +kernel, rfl⟩
theorem dX8_image_5 : jm_d cX8_image 5 (.getfield 10) 3 8 := ⟨by decide +kernel, rfl⟩
theorem dX8_image_8 : jm_d cX8_image 8 (.invokevirtual 321) 3 11 := ⟨by decide +kernel, rfl⟩
theorem dX8_image_11 : jm_d cX8_image 11 (.aload_n 0) 1 12 := ⟨by decide +kernel, rfl⟩
theorem dX8_image_12 : jm_d cX8_image 12 (.iconst 1) 1 13 := ⟨by decide +kernel, rfl⟩
theorem dX8_image_13 : jm_d cX8_image 13 (.putfield 324) 3 16 := ⟨by decide +kernel, rfl⟩
theorem dX8_image_16 : jm_d cX8_image 16 (.aload_n 0) 1 17 := ⟨by decide +kernel, rfl⟩
theorem dX8_image_17 : jm_d cX8_image 17 (.getfield 10) 3 20 := ⟨by decide +kernel, rfl⟩
theorem dX8_image_20 : jm_d cX8_image 20 (.getfield 175) 3 23 := ⟨by decide +kernel, rfl⟩
theorem dX8_image_23 : jm_d cX8_image 23 (.ireturn) 1 24 := ⟨by decide +kernel, rfl⟩
set_option maxHeartbeats 4000000 in
set_option maxRecDepth 100000 in
theorem kW_image (E : jm_Ev) (hE : jm_dj E jm_LC) {M : jm_M}  {r : Int32 × jm_M} (h : sW_image M = some r) : jm_Ct E jm_LC yX8_image cX8_image 1 (some .int) 2 61 [.ref (jm_a E 0 0)] M (some (.int r.1)) r.2 := by
  refine jm_enter (lv := [some (.ref (jm_a E 0 0))]) hE (by decide) (Nat.le_of_ble_eq_true rfl) rfl ?_
  intro z w F hz
  have G : jm_G w 0 [some (.ref (jm_a E 0 0))] [] M (sW_image M) (fun e => z (some (.int e.1)) e.2) := by
    unfold sW_image
    refine jm_aload_n (i := 0) F dX8_image_0 rfl rfl ?_
    refine jm_getR F dX8_image_1 fl_X8_23 lo_X8 rfl ?_
    refine jm_aload_n (i := 0) F dX8_image_4 rfl rfl ?_
    refine jm_getR F dX8_image_5 fl_X8_10 lo_X8 rfl ?_
    refine jm_callV (As := [.ref (jm_a E 1 0)]) (st := []) (rv := fun _ => none) (mm := fun r => r) F dX8_image_8 qX8_321 rfl (lo_T isT_2) rfl (fun r h => kT_copyFrom E hE isT_2 isT_1 h) rfl (Nat.le_of_ble_eq_true rfl) ⟨Nat.le_of_ble_eq_true rfl, Nat.le_of_ble_eq_true rfl⟩ (fun r1 => ?_)
    refine jm_aload_n (i := 0) F dX8_image_11 rfl rfl ?_
    refine jm_iconst F dX8_image_12 kc_1 ?_
    refine jm_putZ F dX8_image_13 fp_X8_324 lo_X8 rfl (fun M2 => ?_)
    refine jm_aload_n (i := 0) F dX8_image_16 rfl rfl ?_
    refine jm_getR F dX8_image_17 fl_X8_10 lo_X8 rfl ?_
    refine jm_getI F dX8_image_20 fl_X8_175 (lo_T isT_1) rfl ?_
    exact jm_iret F dX8_image_23 (fun h => h)
  exact G r h hz
theorem dX8_restore_0 : jm_d cX8_restore 0 (.aload_n 0) 1 1 := ⟨by decide +kernel, rfl⟩
theorem dX8_restore_1 : jm_d cX8_restore 1 (.getfield 324) 3 4 := ⟨by decide +kernel, rfl⟩
theorem dX8_restore_4 : jm_b cX8_restore 4 (.ifCond .ne) 7 14 := ⟨10, by decide +kernel, rfl, by decide⟩
theorem dX8_restore_7 : jm_d cX8_restore 7 (.aload_n 0) 1 8 := ⟨by decide +kernel, rfl⟩
theorem dX8_restore_8 : jm_d cX8_restore 8 (.bipush (-3)) 2 10 := ⟨by decide +kernel, rfl⟩
theorem dX8_restore_10 : jm_d cX8_restore 10 (.invokevirtual 64) 3 13 := ⟨by decide +kernel, rfl⟩
theorem dX8_restore_13 : jm_d cX8_restore 13 (.ireturn) 1 14 := ⟨by decide +kernel, rfl⟩
theorem dX8_restore_14 : jm_d cX8_restore 14 (.aload_n 0) 1 15 := ⟨by decide +kernel, rfl⟩
theorem dX8_restore_15 : jm_d cX8_restore 15 (.getfield 10) 3 18 := ⟨by decide +kernel, rfl⟩
theorem dX8_restore_18 : jm_d cX8_restore 18 (.aload_n 0) 1 19 := ⟨by decide +kernel, rfl⟩
theorem dX8_restore_19 : jm_d cX8_restore 19 (.getfield 23) 3 22 := ⟨by decide +kernel, rfl⟩
theorem dX8_restore_22 : jm_d cX8_restore 22 (.invokevirtual 321) 3 25 := ⟨by decide +kernel, rfl⟩
theorem dX8_restore_25 : jm_d cX8_restore 25 (.aload_n 0) 1 26 := ⟨by decide +kernel, rfl⟩
theorem dX8_restore_26 : jm_d cX8_restore 26 (.getfield 19) 3 29 := ⟨by decide +kernel, rfl⟩
theorem dX8_restore_29 : jm_d cX8_restore 29 (.invokevirtual 79) 3 32 := ⟨by decide +kernel, rfl⟩
theorem dX8_restore_32 : jm_d cX8_restore 32 (.aload_n 0) 1 33 := ⟨by decide +kernel, rfl⟩
theorem dX8_restore_33 : jm_d cX8_restore 33 (.getfield 10) 3 36 := ⟨by decide +kernel, rfl⟩
theorem dX8_restore_36 : jm_d cX8_restore 36 (.getfield 175) 3 39 := ⟨by decide +kernel, rfl⟩
theorem dX8_restore_39 : jm_d cX8_restore 39 (.ireturn) 1 40 := ⟨by decide +kernel, rfl⟩
set_option maxHeartbeats 4000000 in
set_option maxRecDepth 100000 in
theorem kW_restore (E : jm_Ev) (hE : jm_dj E jm_LC) {M : jm_M}  {r : Int32 × jm_M} (h : sW_restore M = some r) : jm_Ct E jm_LC yX8_restore cX8_restore 1 (some .int) 2 61 [.ref (jm_a E 0 0)] M (some (.int r.1)) r.2 := by
  refine jm_enter (lv := [some (.ref (jm_a E 0 0))]) hE (by decide) (Nat.le_of_ble_eq_true rfl) rfl ?_
  intro z w F hz
  have G : jm_G w 0 [some (.ref (jm_a E 0 0))] [] M (sW_restore M) (fun e => z (some (.int e.1)) e.2) := by
    unfold sW_restore
    refine jm_aload_n (i := 0) F dX8_restore_0 rfl rfl ?_
    refine jm_getI F dX8_restore_1 fl_X8_324 lo_X8 rfl ?_
    refine jm_if_ne F dX8_restore_4 (fun c1 => ?_) (fun c1 => ?_)
    · refine jm_aload_n (i := 0) F dX8_restore_7 rfl rfl ?_
      refine jm_bipush F dX8_restore_8 kb_m3 ?_
      refine jm_callV (As := [.int (-3)]) (st := []) (rv := fun r => some (.int r.1)) (mm := fun r => r.2) F dX8_restore_10 qX8_64 rfl lo_X8 rfl (fun r h => kW_refuse E hE h) rfl (Nat.le_of_ble_eq_true rfl) ⟨Nat.le_of_ble_eq_true rfl, Nat.le_of_ble_eq_true rfl⟩ (fun r2 => ?_)
      exact jm_iret F dX8_restore_13 (fun h => h)
    · refine jm_aload_n (i := 0) F dX8_restore_14 rfl rfl ?_
      refine jm_getR F dX8_restore_15 fl_X8_10 lo_X8 rfl ?_
      refine jm_aload_n (i := 0) F dX8_restore_18 rfl rfl ?_
      refine jm_getR F dX8_restore_19 fl_X8_23 lo_X8 rfl ?_
      refine jm_callV (As := [.ref (jm_a E 2 0)]) (st := []) (rv := fun _ => none) (mm := fun r => r) F dX8_restore_22 qX8_321 rfl (lo_T isT_1) rfl (fun r h => kT_copyFrom E hE isT_1 isT_2 h) rfl (Nat.le_of_ble_eq_true rfl) ⟨Nat.le_of_ble_eq_true rfl, Nat.le_of_ble_eq_true rfl⟩ (fun r3 => ?_)
      refine jm_aload_n (i := 0) F dX8_restore_25 rfl rfl ?_
      refine jm_getR F dX8_restore_26 fl_X8_19 lo_X8 rfl ?_
      refine jm_callV (As := []) (st := []) (rv := fun _ => none) (mm := fun r => r) F dX8_restore_29 qX8_79 rfl lo_X4 rfl (fun r h => kP_forget E hE h) rfl (Nat.le_of_ble_eq_true rfl) ⟨Nat.le_of_ble_eq_true rfl, Nat.le_of_ble_eq_true rfl⟩ (fun r4 => ?_)
      refine jm_aload_n (i := 0) F dX8_restore_32 rfl rfl ?_
      refine jm_getR F dX8_restore_33 fl_X8_10 lo_X8 rfl ?_
      refine jm_getI F dX8_restore_36 fl_X8_175 (lo_T isT_1) rfl ?_
      exact jm_iret F dX8_restore_39 (fun h => h)
  exact G r h hz
theorem dX7_weightOfAll_0 : jm_d cX7_weightOfAll 0 (.iconst 0) 1 1 := ⟨by decide +kernel, rfl⟩
theorem dX7_weightOfAll_1 : jm_d cX7_weightOfAll 1 (.istore_n 1) 1 2 := ⟨by decide +kernel, rfl⟩
theorem dX7_weightOfAll_2 : jm_d cX7_weightOfAll 2 (.iconst 0) 1 3 := ⟨by decide +kernel, rfl⟩
theorem dX7_weightOfAll_3 : jm_d cX7_weightOfAll 3 (.istore_n 2) 1 4 := ⟨by decide +kernel, rfl⟩
theorem dX7_weightOfAll_4 : jm_d cX7_weightOfAll 4 (.iload_n 2) 1 5 := ⟨by decide +kernel, rfl⟩
theorem dX7_weightOfAll_5 : jm_d cX7_weightOfAll 5 (.aload_n 0) 1 6 := ⟨by decide +kernel, rfl⟩
theorem dX7_weightOfAll_6 : jm_d cX7_weightOfAll 6 (.getfield 45) 3 9 := ⟨by decide +kernel, rfl⟩
theorem dX7_weightOfAll_9 : jm_b cX7_weightOfAll 9 (.if_icmp .ge) 12 27 := ⟨18, by decide +kernel, rfl, by decide⟩
theorem dX7_weightOfAll_12 : jm_d cX7_weightOfAll 12 (.iload_n 1) 1 13 := ⟨by decide +kernel, rfl⟩
theorem dX7_weightOfAll_13 : jm_d cX7_weightOfAll 13 (.aload_n 0) 1 14 := ⟨by decide +kernel, rfl⟩
theorem dX7_weightOfAll_14 : jm_d cX7_weightOfAll 14 (.getfield 9) 3 17 := ⟨by decide +kernel, rfl⟩
theorem dX7_weightOfAll_17 : jm_d cX7_weightOfAll 17 (.iload_n 2) 1 18 := ⟨by decide +kernel, rfl⟩
theorem dX7_weightOfAll_18 : jm_d cX7_weightOfAll 18 (.iaload) 1 19 := ⟨by decide +kernel, rfl⟩
theorem dX7_weightOfAll_19 : jm_d cX7_weightOfAll 19 (.iadd) 1 20 := ⟨by decide +kernel, rfl⟩
theorem dX7_weightOfAll_20 : jm_d cX7_weightOfAll 20 (.istore_n 1) 1 21 := ⟨by decide +kernel, rfl⟩
theorem dX7_weightOfAll_21 : jm_d cX7_weightOfAll 21 (.iinc 2 1) 3 24 := ⟨by decide +kernel, rfl⟩
theorem dX7_weightOfAll_24 : jm_b cX7_weightOfAll 24 .goto 27 4 := ⟨(-20), by decide +kernel, rfl, by decide⟩
theorem dX7_weightOfAll_27 : jm_d cX7_weightOfAll 27 (.iload_n 1) 1 28 := ⟨by decide +kernel, rfl⟩
theorem dX7_weightOfAll_28 : jm_d cX7_weightOfAll 28 (.ireturn) 1 29 := ⟨by decide +kernel, rfl⟩
set_option maxHeartbeats 4000000 in
set_option maxRecDepth 100000 in
theorem kT_weightOfAll (E : jm_Ev) (hE : jm_dj E jm_LC) {M : jm_M} {t : Nat} (ht : jm_isT t) {r : Int32} (h : sT_weightOfAll M t = some r) : jm_Ct E jm_LC yX7_weightOfAll cX7_weightOfAll 3 (some .int) 0 0 [.ref (jm_a E t 0)] M (some (.int r)) M := by
  refine jm_enter (lv := [some (.ref (jm_a E t 0)), none, none]) hE (by decide) (Nat.le_of_ble_eq_true rfl) rfl ?_
  intro z w F hz
  have G : jm_G w 0 [some (.ref (jm_a E t 0)), none, none] [] M (sT_weightOfAll M t) (fun e => z (some (.int e)) M) := by
    unfold sT_weightOfAll
    refine jm_iconst F dX7_weightOfAll_0 kc_0 ?_
    refine jm_istore_n (i := 1) (lv' := [some (.ref (jm_a E t 0)), some (.int 0), none]) F dX7_weightOfAll_1 rfl (by decide) rfl rfl ?_
    refine jm_iconst F dX7_weightOfAll_2 kc_0 ?_
    refine jm_istore_n (i := 2) (lv' := [some (.ref (jm_a E t 0)), some (.int 0), some (.int 0)]) F dX7_weightOfAll_3 rfl (by decide) rfl rfl ?_
    refine jm_bind (pcJ := 27) (lvJ := fun e5 => [none, some (.int e5), none]) (stJ := fun _ => []) (MJ := fun e5 => M) ?_ (fun e5 => ?_)
    · refine jm_weak F (lv' := [some (.ref (jm_a E t 0)), some (.int 0), some (.int 0)]) ⟨rfl, rfl, rfl, trivial⟩ ?_
      refine jm_loopR (lvH := fun s1 => [some (.ref (jm_a E t 0)), some (.int s1.1), some (.int s1.2)]) (MH := fun s1 => M) (fun s1 => ?_) jm_N (0, 0)
      unfold sT_weightOfAll_L4
      refine jm_iload_n (i := 2) F dX7_weightOfAll_4 rfl rfl ?_
      refine jm_aload_n (i := 0) F dX7_weightOfAll_5 rfl rfl ?_
      refine jm_getI F dX7_weightOfAll_6 fl_X7_45 (lo_T ht) rfl ?_
      refine jm_icmp_ge F dX7_weightOfAll_9 (fun c2 => ?_) (fun c2 => ?_)
      · exact jm_weakD F (lv' := [none, some (.int s1.1), none]) ⟨rfl, trivial⟩ (fun h => h)
      · refine jm_iload_n (i := 1) F dX7_weightOfAll_12 rfl rfl ?_
        refine jm_aload_n (i := 0) F dX7_weightOfAll_13 rfl rfl ?_
        refine jm_getR F dX7_weightOfAll_14 fl_X7_9 (lo_T ht) rfl ?_
        refine jm_iload_n (i := 2) F dX7_weightOfAll_17 rfl rfl ?_
        refine jm_iald F dX7_weightOfAll_18 (la_T_2 ht) (fun v3 => ?_)
        refine jm_iadd F dX7_weightOfAll_19 ?_
        refine jm_nameI (f := fun x4 => [.int x4]) (fun x4 => ?_) rfl
        refine jm_istore_n (i := 1) (lv' := [some (.ref (jm_a E t 0)), some (.int x4), some (.int s1.2)]) F dX7_weightOfAll_20 rfl (by decide) rfl rfl ?_
        refine jm_iinc (i := 2) (lv' := [some (.ref (jm_a E t 0)), some (.int x4), some (.int (s1.2 + 1))]) F dX7_weightOfAll_21 kc_1 rfl (by decide) rfl rfl ?_
        refine jm_goto F dX7_weightOfAll_24 ?_
        exact jm_weakD F (lv' := [some (.ref (jm_a E t 0)), some (.int x4), some (.int (s1.2 + 1))]) ⟨rfl, rfl, rfl, trivial⟩ (fun h => h)
    · refine jm_iload_n (i := 1) F dX7_weightOfAll_27 rfl rfl ?_
      exact jm_iret F dX7_weightOfAll_28 (fun h => h)
  exact G r h hz
theorem dX8_count_0 : jm_d cX8_count 0 (.iload_n 1) 1 1 := ⟨by decide +kernel, rfl⟩
theorem dX8_count_1 : decode cX8_count 1 = .ok (.tableswitch 120 0 8 #[51, 59, 67, 75, 83, 91, 99, 104, 112], 51) := by decide +kernel
theorem dX8_count_52 : jm_d cX8_count 52 (.aload_n 0) 1 53 := ⟨by decide +kernel, rfl⟩
theorem dX8_count_53 : jm_d cX8_count 53 (.getfield 10) 3 56 := ⟨by decide +kernel, rfl⟩
theorem dX8_count_56 : jm_d cX8_count 56 (.getfield 82) 3 59 := ⟨by decide +kernel, rfl⟩
theorem dX8_count_59 : jm_d cX8_count 59 (.ireturn) 1 60 := ⟨by decide +kernel, rfl⟩
theorem dX8_count_60 : jm_d cX8_count 60 (.aload_n 0) 1 61 := ⟨by decide +kernel, rfl⟩
theorem dX8_count_61 : jm_d cX8_count 61 (.getfield 10) 3 64 := ⟨by decide +kernel, rfl⟩
theorem dX8_count_64 : jm_d cX8_count 64 (.getfield 89) 3 67 := ⟨by decide +kernel, rfl⟩
theorem dX8_count_67 : jm_d cX8_count 67 (.ireturn) 1 68 := ⟨by decide +kernel, rfl⟩
theorem dX8_count_68 : jm_d cX8_count 68 (.aload_n 0) 1 69 := ⟨by decide +kernel, rfl⟩
theorem dX8_count_69 : jm_d cX8_count 69 (.getfield 10) 3 72 := ⟨by decide +kernel, rfl⟩
theorem dX8_count_72 : jm_d cX8_count 72 (.getfield 175) 3 75 := ⟨by decide +kernel, rfl⟩
theorem dX8_count_75 : jm_d cX8_count 75 (.ireturn) 1 76 := ⟨by decide +kernel, rfl⟩
theorem dX8_count_76 : jm_d cX8_count 76 (.aload_n 0) 1 77 := ⟨by decide +kernel, rfl⟩
theorem dX8_count_77 : jm_d cX8_count 77 (.getfield 10) 3 80 := ⟨by decide +kernel, rfl⟩
theorem dX8_count_80 : jm_d cX8_count 80 (.getfield 168) 3 83 := ⟨by decide +kernel, rfl⟩
theorem dX8_count_83 : jm_d cX8_count 83 (.ireturn) 1 84 := ⟨by decide +kernel, rfl⟩
theorem dX8_count_84 : jm_d cX8_count 84 (.aload_n 0) 1 85 := ⟨by decide +kernel, rfl⟩
theorem dX8_count_85 : jm_d cX8_count 85 (.getfield 10) 3 88 := ⟨by decide +kernel, rfl⟩
theorem dX8_count_88 : jm_d cX8_count 88 (.invokevirtual 328) 3 91 := ⟨by decide +kernel, rfl⟩
theorem dX8_count_91 : jm_d cX8_count 91 (.ireturn) 1 92 := ⟨by decide +kernel, rfl⟩
theorem dX8_count_92 : jm_d cX8_count 92 (.aload_n 0) 1 93 := ⟨by decide +kernel, rfl⟩
theorem dX8_count_93 : jm_d cX8_count 93 (.getfield 29) 3 96 := ⟨by decide +kernel, rfl⟩
theorem dX8_count_96 : jm_d cX8_count 96 (.getfield 68) 3 99 := ⟨by decide +kernel, rfl⟩
theorem dX8_count_99 : jm_d cX8_count 99 (.ireturn) 1 100 := ⟨by decide +kernel, rfl⟩
theorem dX8_count_100 : jm_d cX8_count 100 (.aload_n 0) 1 101 := ⟨by decide +kernel, rfl⟩
theorem dX8_count_101 : jm_d cX8_count 101 (.getfield 254) 3 104 := ⟨by decide +kernel, rfl⟩
theorem dX8_count_104 : jm_d cX8_count 104 (.ireturn) 1 105 := ⟨by decide +kernel, rfl⟩
theorem dX8_count_105 : jm_d cX8_count 105 (.aload_n 0) 1 106 := ⟨by decide +kernel, rfl⟩
theorem dX8_count_106 : jm_d cX8_count 106 (.getfield 19) 3 109 := ⟨by decide +kernel, rfl⟩
theorem dX8_count_109 : jm_d cX8_count 109 (.getfield 182) 3 112 := ⟨by decide +kernel, rfl⟩
theorem dX8_count_112 : jm_d cX8_count 112 (.ireturn) 1 113 := ⟨by decide +kernel, rfl⟩
theorem dX8_count_113 : jm_d cX8_count 113 (.aload_n 0) 1 114 := ⟨by decide +kernel, rfl⟩
theorem dX8_count_114 : jm_d cX8_count 114 (.getfield 10) 3 117 := ⟨by decide +kernel, rfl⟩
theorem dX8_count_117 : jm_d cX8_count 117 (.invokevirtual 331) 3 120 := ⟨by decide +kernel, rfl⟩
theorem dX8_count_120 : jm_d cX8_count 120 (.ireturn) 1 121 := ⟨by decide +kernel, rfl⟩
theorem dX8_count_121 : jm_d cX8_count 121 (.iload_n 1) 1 122 := ⟨by decide +kernel, rfl⟩
theorem dX8_count_122 : jm_d cX8_count 122 (.bipush 11) 2 124 := ⟨by decide +kernel, rfl⟩
theorem dX8_count_124 : jm_b cX8_count 124 (.if_icmp .lt) 127 145 := ⟨21, by decide +kernel, rfl, by decide⟩
theorem dX8_count_145 : jm_d cX8_count 145 (.bipush (-9)) 2 147 := ⟨by decide +kernel, rfl⟩
theorem dX8_count_147 : jm_d cX8_count 147 (.ireturn) 1 148 := ⟨by decide +kernel, rfl⟩
theorem dX8_count_127 : jm_d cX8_count 127 (.iload_n 1) 1 128 := ⟨by decide +kernel, rfl⟩
theorem dX8_count_128 : jm_d cX8_count 128 (.bipush 16) 2 130 := ⟨by decide +kernel, rfl⟩
theorem dX8_count_130 : jm_b cX8_count 130 (.if_icmp .gt) 133 145 := ⟨15, by decide +kernel, rfl, by decide⟩
theorem dX8_count_133 : jm_d cX8_count 133 (.aload_n 0) 1 134 := ⟨by decide +kernel, rfl⟩
theorem dX8_count_134 : jm_d cX8_count 134 (.getfield 61) 3 137 := ⟨by decide +kernel, rfl⟩
theorem dX8_count_137 : jm_d cX8_count 137 (.iload_n 1) 1 138 := ⟨by decide +kernel, rfl⟩
theorem dX8_count_138 : jm_d cX8_count 138 (.bipush 10) 2 140 := ⟨by decide +kernel, rfl⟩
theorem dX8_count_140 : jm_d cX8_count 140 (.isub) 1 141 := ⟨by decide +kernel, rfl⟩
theorem dX8_count_141 : jm_d cX8_count 141 (.iaload) 1 142 := ⟨by decide +kernel, rfl⟩
theorem dX8_count_142 : jm_b cX8_count 142 .goto 145 147 := ⟨5, by decide +kernel, rfl, by decide⟩
set_option maxHeartbeats 4000000 in
set_option maxRecDepth 100000 in
theorem kW_count (E : jm_Ev) (hE : jm_dj E jm_LC) {M : jm_M} {p1 : Int32}  {r : Int32} (h : sW_count M p1 = some r) : jm_Ct E jm_LC yX8_count cX8_count 2 (some .int) 6 162 [.ref (jm_a E 0 0), .int p1] M (some (.int r)) M := by
  refine jm_enter (lv := [some (.ref (jm_a E 0 0)), some (.int p1)]) hE (by decide) (Nat.le_of_ble_eq_true rfl) rfl ?_
  intro z w F hz
  have G : jm_G w 0 [some (.ref (jm_a E 0 0)), some (.int p1)] [] M (sW_count M p1) (fun e => z (some (.int e)) M) := by
    unfold sW_count
    refine jm_iload_n (i := 1) F dX8_count_0 rfl rfl ?_
    refine jm_ite (fun c1 => ?_) (fun c1 => ?_)
    · refine jm_tsw (tgt := 52) F dX8_count_1 c1 (by decide) (by decide) rfl (by decide) ?_
      refine jm_aload_n (i := 0) F dX8_count_52 rfl rfl ?_
      refine jm_getR F dX8_count_53 fl_X8_10 lo_X8 rfl ?_
      refine jm_getI F dX8_count_56 fl_X8_82 (lo_T isT_1) rfl ?_
      exact jm_iret F dX8_count_59 (fun h => h)
    · refine jm_ite (fun c2 => ?_) (fun c2 => ?_)
      · refine jm_tsw (tgt := 60) F dX8_count_1 c2 (by decide) (by decide) rfl (by decide) ?_
        refine jm_aload_n (i := 0) F dX8_count_60 rfl rfl ?_
        refine jm_getR F dX8_count_61 fl_X8_10 lo_X8 rfl ?_
        refine jm_getI F dX8_count_64 fl_X8_89 (lo_T isT_1) rfl ?_
        exact jm_iret F dX8_count_67 (fun h => h)
      · refine jm_ite (fun c3 => ?_) (fun c3 => ?_)
        · refine jm_tsw (tgt := 68) F dX8_count_1 c3 (by decide) (by decide) rfl (by decide) ?_
          refine jm_aload_n (i := 0) F dX8_count_68 rfl rfl ?_
          refine jm_getR F dX8_count_69 fl_X8_10 lo_X8 rfl ?_
          refine jm_getI F dX8_count_72 fl_X8_175 (lo_T isT_1) rfl ?_
          exact jm_iret F dX8_count_75 (fun h => h)
        · refine jm_ite (fun c4 => ?_) (fun c4 => ?_)
          · refine jm_tsw (tgt := 76) F dX8_count_1 c4 (by decide) (by decide) rfl (by decide) ?_
            refine jm_aload_n (i := 0) F dX8_count_76 rfl rfl ?_
            refine jm_getR F dX8_count_77 fl_X8_10 lo_X8 rfl ?_
            refine jm_getI F dX8_count_80 fl_X8_168 (lo_T isT_1) rfl ?_
            exact jm_iret F dX8_count_83 (fun h => h)
          · refine jm_ite (fun c5 => ?_) (fun c5 => ?_)
            · refine jm_tsw (tgt := 84) F dX8_count_1 c5 (by decide) (by decide) rfl (by decide) ?_
              refine jm_aload_n (i := 0) F dX8_count_84 rfl rfl ?_
              refine jm_getR F dX8_count_85 fl_X8_10 lo_X8 rfl ?_
              refine jm_callV (As := []) (st := []) (rv := fun r => some (.int r)) (mm := fun _ => M) F dX8_count_88 qX8_328 rfl (lo_T isT_1) rfl (fun r h => kT_weightOfAll E hE isT_1 h) rfl (Nat.le_of_ble_eq_true rfl) ⟨Nat.le_of_ble_eq_true rfl, Nat.le_of_ble_eq_true rfl⟩ (fun r6 => ?_)
              exact jm_iret F dX8_count_91 (fun h => h)
            · refine jm_ite (fun c7 => ?_) (fun c7 => ?_)
              · refine jm_tsw (tgt := 92) F dX8_count_1 c7 (by decide) (by decide) rfl (by decide) ?_
                refine jm_aload_n (i := 0) F dX8_count_92 rfl rfl ?_
                refine jm_getR F dX8_count_93 fl_X8_29 lo_X8 rfl ?_
                refine jm_getI F dX8_count_96 fl_X8_68 lo_X5 rfl ?_
                exact jm_iret F dX8_count_99 (fun h => h)
              · refine jm_ite (fun c8 => ?_) (fun c8 => ?_)
                · refine jm_tsw (tgt := 100) F dX8_count_1 c8 (by decide) (by decide) rfl (by decide) ?_
                  refine jm_aload_n (i := 0) F dX8_count_100 rfl rfl ?_
                  refine jm_getI F dX8_count_101 fl_X8_254 lo_X8 rfl ?_
                  exact jm_iret F dX8_count_104 (fun h => h)
                · refine jm_ite (fun c9 => ?_) (fun c9 => ?_)
                  · refine jm_tsw (tgt := 105) F dX8_count_1 c9 (by decide) (by decide) rfl (by decide) ?_
                    refine jm_aload_n (i := 0) F dX8_count_105 rfl rfl ?_
                    refine jm_getR F dX8_count_106 fl_X8_19 lo_X8 rfl ?_
                    refine jm_getI F dX8_count_109 fl_X8_182 lo_X4 rfl ?_
                    exact jm_iret F dX8_count_112 (fun h => h)
                  · refine jm_ite (fun c10 => ?_) (fun c10 => ?_)
                    · refine jm_tsw (tgt := 113) F dX8_count_1 c10 (by decide) (by decide) rfl (by decide) ?_
                      refine jm_aload_n (i := 0) F dX8_count_113 rfl rfl ?_
                      refine jm_getR F dX8_count_114 fl_X8_10 lo_X8 rfl ?_
                      refine jm_callV (As := []) (st := []) (rv := fun r => some (.int r)) (mm := fun _ => M) F dX8_count_117 qX8_331 rfl (lo_T isT_1) rfl (fun r h => kT_twosDown E hE isT_1 h) rfl (Nat.le_of_ble_eq_true rfl) ⟨Nat.le_of_ble_eq_true rfl, Nat.le_of_ble_eq_true rfl⟩ (fun r11 => ?_)
                      exact jm_iret F dX8_count_120 (fun h => h)
                    · refine jm_tsd (tgt := 121) F dX8_count_1 (by
                          have e0 := jm_ne c1 (a := 0) (by decide)
                          have e1 := jm_ne c2 (a := 1) (by decide)
                          have e2 := jm_ne c3 (a := 2) (by decide)
                          have e3 := jm_ne c4 (a := 3) (by decide)
                          have e4 := jm_ne c5 (a := 4) (by decide)
                          have e5 := jm_ne c7 (a := 5) (by decide)
                          have e6 := jm_ne c8 (a := 6) (by decide)
                          have e7 := jm_ne c9 (a := 7) (by decide)
                          have e8 := jm_ne c10 (a := 8) (by decide)
                          omega) (by decide) ?_
                      refine jm_iload_n (i := 1) F dX8_count_121 rfl rfl ?_
                      refine jm_bipush F dX8_count_122 kb_11 ?_
                      refine jm_icmp_lt F dX8_count_124 (fun c12 => ?_) (fun c12 => ?_)
                      · refine jm_bipush F dX8_count_145 kb_m9 ?_
                        exact jm_iret F dX8_count_147 (fun h => h)
                      · refine jm_iload_n (i := 1) F dX8_count_127 rfl rfl ?_
                        refine jm_bipush F dX8_count_128 kb_16 ?_
                        refine jm_icmp_gt F dX8_count_130 (fun c13 => ?_) (fun c13 => ?_)
                        · refine jm_bipush F dX8_count_145 kb_m9 ?_
                          exact jm_iret F dX8_count_147 (fun h => h)
                        · refine jm_aload_n (i := 0) F dX8_count_133 rfl rfl ?_
                          refine jm_getR F dX8_count_134 fl_X8_61 lo_X8 rfl ?_
                          refine jm_iload_n (i := 1) F dX8_count_137 rfl rfl ?_
                          refine jm_bipush F dX8_count_138 kb_10 ?_
                          refine jm_isub F dX8_count_140 ?_
                          refine jm_iald F dX8_count_141 la_X8_12 (fun v14 => ?_)
                          refine jm_goto F dX8_count_142 ?_
                          exact jm_iret F dX8_count_147 (fun h => h)
  exact G r h hz
theorem dX9_no_0 : jm_d cX9_no 0 (.aload_n 0) 1 1 := ⟨by decide +kernel, rfl⟩
theorem dX9_no_1 : jm_d cX9_no 1 (.getfield 7) 3 4 := ⟨by decide +kernel, rfl⟩
theorem dX9_no_4 : jm_d cX9_no 4 (.iload_n 1) 1 5 := ⟨by decide +kernel, rfl⟩
theorem dX9_no_5 : jm_d cX9_no 5 (.ineg) 1 6 := ⟨by decide +kernel, rfl⟩
theorem dX9_no_6 : jm_d cX9_no 6 (.dup2) 1 7 := ⟨by decide +kernel, rfl⟩
theorem dX9_no_7 : jm_d cX9_no 7 (.iaload) 1 8 := ⟨by decide +kernel, rfl⟩
theorem dX9_no_8 : jm_d cX9_no 8 (.iconst 1) 1 9 := ⟨by decide +kernel, rfl⟩
theorem dX9_no_9 : jm_d cX9_no 9 (.iadd) 1 10 := ⟨by decide +kernel, rfl⟩
theorem dX9_no_10 : jm_d cX9_no 10 (.iastore) 1 11 := ⟨by decide +kernel, rfl⟩
theorem dX9_no_11 : jm_d cX9_no 11 (.iload_n 1) 1 12 := ⟨by decide +kernel, rfl⟩
theorem dX9_no_12 : jm_d cX9_no 12 (.ireturn) 1 13 := ⟨by decide +kernel, rfl⟩
set_option maxHeartbeats 4000000 in
set_option maxRecDepth 100000 in
theorem kM_no (E : jm_Ev) (hE : jm_dj E jm_LM) {M : jm_M} {p1 : Int32}  {r : Int32 × jm_M} (h : sM_no M p1 = some r) : jm_Ct E jm_LM yX9_no cX9_no 2 (some .int) 0 0 [.ref (jm_a E 0 0), .int p1] M (some (.int r.1)) r.2 := by
  refine jm_enter (lv := [some (.ref (jm_a E 0 0)), some (.int p1)]) hE (by decide) (Nat.le_of_ble_eq_true rfl) rfl ?_
  intro z w F hz
  have G : jm_G w 0 [some (.ref (jm_a E 0 0)), some (.int p1)] [] M (sM_no M p1) (fun e => z (some (.int e.1)) e.2) := by
    unfold sM_no
    refine jm_aload_n (i := 0) F dX9_no_0 rfl rfl ?_
    refine jm_getR F dX9_no_1 fl_X9_7 lo_X9 rfl ?_
    refine jm_iload_n (i := 1) F dX9_no_4 rfl rfl ?_
    refine jm_ineg F dX9_no_5 ?_
    refine jm_dup2 F dX9_no_6 rfl rfl ?_
    refine jm_iald F dX9_no_7 la_X9_1 (fun v1 => ?_)
    refine jm_iconst F dX9_no_8 kc_1 ?_
    refine jm_iadd F dX9_no_9 ?_
    refine jm_iast F dX9_no_10 la_X9_1 (fun M2 => ?_)
    refine jm_iload_n (i := 1) F dX9_no_11 rfl rfl ?_
    exact jm_iret F dX9_no_12 (fun h => h)
  exact G r h hz
theorem dX9_lower_0 : jm_d cX9_lower 0 (.aload_n 0) 1 1 := ⟨by decide +kernel, rfl⟩
theorem dX9_lower_1 : jm_d cX9_lower 1 (.getfield 7) 3 4 := ⟨by decide +kernel, rfl⟩
theorem dX9_lower_4 : jm_d cX9_lower 4 (.iload_n 1) 1 5 := ⟨by decide +kernel, rfl⟩
theorem dX9_lower_5 : jm_d cX9_lower 5 (.ineg) 1 6 := ⟨by decide +kernel, rfl⟩
theorem dX9_lower_6 : jm_d cX9_lower 6 (.dup2) 1 7 := ⟨by decide +kernel, rfl⟩
theorem dX9_lower_7 : jm_d cX9_lower 7 (.iaload) 1 8 := ⟨by decide +kernel, rfl⟩
theorem dX9_lower_8 : jm_d cX9_lower 8 (.iconst 1) 1 9 := ⟨by decide +kernel, rfl⟩
theorem dX9_lower_9 : jm_d cX9_lower 9 (.iadd) 1 10 := ⟨by decide +kernel, rfl⟩
theorem dX9_lower_10 : jm_d cX9_lower 10 (.iastore) 1 11 := ⟨by decide +kernel, rfl⟩
theorem dX9_lower_11 : jm_d cX9_lower 11 (.ldc 95) 2 13 := ⟨by decide +kernel, rfl⟩
theorem dX9_lower_13 : jm_d cX9_lower 13 (.iload_n 1) 1 14 := ⟨by decide +kernel, rfl⟩
theorem dX9_lower_14 : jm_d cX9_lower 14 (.isub) 1 15 := ⟨by decide +kernel, rfl⟩
theorem dX9_lower_15 : jm_d cX9_lower 15 (.ireturn) 1 16 := ⟨by decide +kernel, rfl⟩
set_option maxHeartbeats 4000000 in
set_option maxRecDepth 100000 in
theorem kM_lower (E : jm_Ev) (hE : jm_dj E jm_LM) {M : jm_M} {p1 : Int32}  {r : Int32 × jm_M} (h : sM_lower M p1 = some r) : jm_Ct E jm_LM yX9_lower cX9_lower 2 (some .int) 0 0 [.ref (jm_a E 0 0), .int p1] M (some (.int r.1)) r.2 := by
  refine jm_enter (lv := [some (.ref (jm_a E 0 0)), some (.int p1)]) hE (by decide) (Nat.le_of_ble_eq_true rfl) rfl ?_
  intro z w F hz
  have G : jm_G w 0 [some (.ref (jm_a E 0 0)), some (.int p1)] [] M (sM_lower M p1) (fun e => z (some (.int e.1)) e.2) := by
    unfold sM_lower
    refine jm_aload_n (i := 0) F dX9_lower_0 rfl rfl ?_
    refine jm_getR F dX9_lower_1 fl_X9_7 lo_X9 rfl ?_
    refine jm_iload_n (i := 1) F dX9_lower_4 rfl rfl ?_
    refine jm_ineg F dX9_lower_5 ?_
    refine jm_dup2 F dX9_lower_6 rfl rfl ?_
    refine jm_iald F dX9_lower_7 la_X9_1 (fun v1 => ?_)
    refine jm_iconst F dX9_lower_8 kc_1 ?_
    refine jm_iadd F dX9_lower_9 ?_
    refine jm_iast F dX9_lower_10 la_X9_1 (fun M2 => ?_)
    refine jm_ldc F dX9_lower_11 tw_1357 ?_
    refine jm_iload_n (i := 1) F dX9_lower_13 rfl rfl ?_
    refine jm_isub F dX9_lower_14 ?_
    exact jm_iret F dX9_lower_15 (fun h => h)
  exact G r h hz
theorem dX9_lowestOf_0 : jm_d cX9_lowestOf 0 (.aload_n 0) 1 1 := ⟨by decide +kernel, rfl⟩
theorem dX9_lowestOf_1 : jm_d cX9_lowestOf 1 (.getfield 7) 3 4 := ⟨by decide +kernel, rfl⟩
theorem dX9_lowestOf_4 : jm_d cX9_lowestOf 4 (.iload_n 1) 1 5 := ⟨by decide +kernel, rfl⟩
theorem dX9_lowestOf_5 : jm_d cX9_lowestOf 5 (.ineg) 1 6 := ⟨by decide +kernel, rfl⟩
theorem dX9_lowestOf_6 : jm_d cX9_lowestOf 6 (.dup2) 1 7 := ⟨by decide +kernel, rfl⟩
theorem dX9_lowestOf_7 : jm_d cX9_lowestOf 7 (.iaload) 1 8 := ⟨by decide +kernel, rfl⟩
theorem dX9_lowestOf_8 : jm_d cX9_lowestOf 8 (.iconst 1) 1 9 := ⟨by decide +kernel, rfl⟩
theorem dX9_lowestOf_9 : jm_d cX9_lowestOf 9 (.iadd) 1 10 := ⟨by decide +kernel, rfl⟩
theorem dX9_lowestOf_10 : jm_d cX9_lowestOf 10 (.iastore) 1 11 := ⟨by decide +kernel, rfl⟩
theorem dX9_lowestOf_11 : jm_d cX9_lowestOf 11 (.ldc2_w 96) 3 14 := ⟨by decide +kernel, rfl⟩
theorem dX9_lowestOf_14 : jm_d cX9_lowestOf 14 (.iload_n 1) 1 15 := ⟨by decide +kernel, rfl⟩
theorem dX9_lowestOf_15 : jm_d cX9_lowestOf 15 (.i2l) 1 16 := ⟨by decide +kernel, rfl⟩
theorem dX9_lowestOf_16 : jm_d cX9_lowestOf 16 (.lsub) 1 17 := ⟨by decide +kernel, rfl⟩
theorem dX9_lowestOf_17 : jm_d cX9_lowestOf 17 (.lreturn) 1 18 := ⟨by decide +kernel, rfl⟩
set_option maxHeartbeats 4000000 in
set_option maxRecDepth 100000 in
theorem kM_lowestOf (E : jm_Ev) (hE : jm_dj E jm_LM) {M : jm_M} {p1 : Int32}  {r : Int64 × jm_M} (h : sM_lowestOf M p1 = some r) : jm_Ct E jm_LM yX9_lowestOf cX9_lowestOf 2 (some .long) 0 0 [.ref (jm_a E 0 0), .int p1] M (some (.long r.1)) r.2 := by
  refine jm_enter (lv := [some (.ref (jm_a E 0 0)), some (.int p1)]) hE (by decide) (Nat.le_of_ble_eq_true rfl) rfl ?_
  intro z w F hz
  have G : jm_G w 0 [some (.ref (jm_a E 0 0)), some (.int p1)] [] M (sM_lowestOf M p1) (fun e => z (some (.long e.1)) e.2) := by
    unfold sM_lowestOf
    refine jm_aload_n (i := 0) F dX9_lowestOf_0 rfl rfl ?_
    refine jm_getR F dX9_lowestOf_1 fl_X9_7 lo_X9 rfl ?_
    refine jm_iload_n (i := 1) F dX9_lowestOf_4 rfl rfl ?_
    refine jm_ineg F dX9_lowestOf_5 ?_
    refine jm_dup2 F dX9_lowestOf_6 rfl rfl ?_
    refine jm_iald F dX9_lowestOf_7 la_X9_1 (fun v1 => ?_)
    refine jm_iconst F dX9_lowestOf_8 kc_1 ?_
    refine jm_iadd F dX9_lowestOf_9 ?_
    refine jm_iast F dX9_lowestOf_10 la_X9_1 (fun M2 => ?_)
    refine jm_ldc2 F dX9_lowestOf_11 tw_1485 ?_
    refine jm_iload_n (i := 1) F dX9_lowestOf_14 rfl rfl ?_
    refine jm_i2l F dX9_lowestOf_15 ?_
    refine jm_lsub F dX9_lowestOf_16 ?_
    exact jm_lret F dX9_lowestOf_17 (fun h => h)
  exact G r h hz
theorem dX9_isIn_0 : jm_d cX9_isIn 0 (.iload_n 0) 1 1 := ⟨by decide +kernel, rfl⟩
theorem dX9_isIn_1 : jm_d cX9_isIn 1 (.iload_n 1) 1 2 := ⟨by decide +kernel, rfl⟩
theorem dX9_isIn_2 : jm_b cX9_isIn 2 (.if_icmp .lt) 5 14 := ⟨12, by decide +kernel, rfl, by decide⟩
theorem dX9_isIn_14 : jm_d cX9_isIn 14 (.iconst 0) 1 15 := ⟨by decide +kernel, rfl⟩
theorem dX9_isIn_15 : jm_d cX9_isIn 15 (.ireturn) 1 16 := ⟨by decide +kernel, rfl⟩
theorem dX9_isIn_5 : jm_d cX9_isIn 5 (.iload_n 0) 1 6 := ⟨by decide +kernel, rfl⟩
theorem dX9_isIn_6 : jm_d cX9_isIn 6 (.iload_n 2) 1 7 := ⟨by decide +kernel, rfl⟩
theorem dX9_isIn_7 : jm_b cX9_isIn 7 (.if_icmp .gt) 10 14 := ⟨7, by decide +kernel, rfl, by decide⟩
theorem dX9_isIn_10 : jm_d cX9_isIn 10 (.iconst 1) 1 11 := ⟨by decide +kernel, rfl⟩
theorem dX9_isIn_11 : jm_b cX9_isIn 11 .goto 14 15 := ⟨4, by decide +kernel, rfl, by decide⟩
set_option maxHeartbeats 4000000 in
set_option maxRecDepth 100000 in
theorem kM_isIn (E : jm_Ev) (hE : jm_dj E jm_LM) {p1 : Int32} {p2 : Int32} {p3 : Int32} {M : jm_M}  {r : Int32} (h : sM_isIn p1 p2 p3 = some r) : jm_Ct E jm_LM yX9_isIn cX9_isIn 3 (some .boolean) 0 0 [.int p1, .int p2, .int p3] M (some (.int r)) M := by
  refine jm_enter (lv := [some (.int p1), some (.int p2), some (.int p3)]) hE (by decide) (Nat.le_of_ble_eq_true rfl) rfl ?_
  intro z w F hz
  have G : jm_G w 0 [some (.int p1), some (.int p2), some (.int p3)] [] M (sM_isIn p1 p2 p3) (fun e => z (some (.int e)) M) := by
    unfold sM_isIn
    refine jm_iload_n (i := 0) F dX9_isIn_0 rfl rfl ?_
    refine jm_iload_n (i := 1) F dX9_isIn_1 rfl rfl ?_
    refine jm_icmp_lt F dX9_isIn_2 (fun c1 => ?_) (fun c1 => ?_)
    · refine jm_iconst F dX9_isIn_14 kc_0 ?_
      exact jm_zret F dX9_isIn_15 (Or.inl rfl) (fun h => h)
    · refine jm_iload_n (i := 0) F dX9_isIn_5 rfl rfl ?_
      refine jm_iload_n (i := 2) F dX9_isIn_6 rfl rfl ?_
      refine jm_icmp_gt F dX9_isIn_7 (fun c2 => ?_) (fun c2 => ?_)
      · refine jm_iconst F dX9_isIn_14 kc_0 ?_
        exact jm_zret F dX9_isIn_15 (Or.inl rfl) (fun h => h)
      · refine jm_iconst F dX9_isIn_10 kc_1 ?_
        refine jm_goto F dX9_isIn_11 ?_
        exact jm_zret F dX9_isIn_15 (Or.inr rfl) (fun h => h)
  exact G r h hz
theorem dX9_bound_0 : jm_d cX9_bound 0 (.iload_n 0) 1 1 := ⟨by decide +kernel, rfl⟩
theorem dX9_bound_1 : jm_d cX9_bound 1 (.iload_n 1) 1 2 := ⟨by decide +kernel, rfl⟩
theorem dX9_bound_2 : jm_b cX9_bound 2 (.if_icmp .ge) 5 10 := ⟨8, by decide +kernel, rfl, by decide⟩
theorem dX9_bound_10 : jm_d cX9_bound 10 (.iload_n 0) 1 11 := ⟨by decide +kernel, rfl⟩
theorem dX9_bound_11 : jm_d cX9_bound 11 (.iload_n 2) 1 12 := ⟨by decide +kernel, rfl⟩
theorem dX9_bound_12 : jm_b cX9_bound 12 (.if_icmp .le) 15 20 := ⟨8, by decide +kernel, rfl, by decide⟩
theorem dX9_bound_20 : jm_d cX9_bound 20 (.iconst 0) 1 21 := ⟨by decide +kernel, rfl⟩
theorem dX9_bound_21 : jm_d cX9_bound 21 (.ireturn) 1 22 := ⟨by decide +kernel, rfl⟩
theorem dX9_bound_15 : jm_d cX9_bound 15 (.bipush (-6)) 2 17 := ⟨by decide +kernel, rfl⟩
theorem dX9_bound_17 : jm_b cX9_bound 17 .goto 20 21 := ⟨4, by decide +kernel, rfl, by decide⟩
theorem dX9_bound_5 : jm_d cX9_bound 5 (.bipush (-4)) 2 7 := ⟨by decide +kernel, rfl⟩
theorem dX9_bound_7 : jm_b cX9_bound 7 .goto 10 21 := ⟨14, by decide +kernel, rfl, by decide⟩
set_option maxHeartbeats 4000000 in
set_option maxRecDepth 100000 in
theorem kM_bound (E : jm_Ev) (hE : jm_dj E jm_LM) {p1 : Int32} {p2 : Int32} {p3 : Int32} {M : jm_M}  {r : Int32} (h : sM_bound p1 p2 p3 = some r) : jm_Ct E jm_LM yX9_bound cX9_bound 3 (some .int) 0 0 [.int p1, .int p2, .int p3] M (some (.int r)) M := by
  refine jm_enter (lv := [some (.int p1), some (.int p2), some (.int p3)]) hE (by decide) (Nat.le_of_ble_eq_true rfl) rfl ?_
  intro z w F hz
  have G : jm_G w 0 [some (.int p1), some (.int p2), some (.int p3)] [] M (sM_bound p1 p2 p3) (fun e => z (some (.int e)) M) := by
    unfold sM_bound
    refine jm_iload_n (i := 0) F dX9_bound_0 rfl rfl ?_
    refine jm_iload_n (i := 1) F dX9_bound_1 rfl rfl ?_
    refine jm_icmp_ge F dX9_bound_2 (fun c1 => ?_) (fun c1 => ?_)
    · refine jm_iload_n (i := 0) F dX9_bound_10 rfl rfl ?_
      refine jm_iload_n (i := 2) F dX9_bound_11 rfl rfl ?_
      refine jm_icmp_le F dX9_bound_12 (fun c2 => ?_) (fun c2 => ?_)
      · refine jm_iconst F dX9_bound_20 kc_0 ?_
        exact jm_iret F dX9_bound_21 (fun h => h)
      · refine jm_bipush F dX9_bound_15 kb_m6 ?_
        refine jm_goto F dX9_bound_17 ?_
        exact jm_iret F dX9_bound_21 (fun h => h)
    · refine jm_bipush F dX9_bound_5 kb_m4 ?_
      refine jm_goto F dX9_bound_7 ?_
      exact jm_iret F dX9_bound_21 (fun h => h)
  exact G r h hz
theorem dX9_has_0 : jm_d cX9_has 0 (.iload_n 0) 1 1 := ⟨by decide +kernel, rfl⟩
theorem dX9_has_1 : jm_d cX9_has 1 (.iload_n 1) 1 2 := ⟨by decide +kernel, rfl⟩
theorem dX9_has_2 : jm_d cX9_has 2 (.ishr) 1 3 := ⟨by decide +kernel, rfl⟩
theorem dX9_has_3 : jm_d cX9_has 3 (.iconst 1) 1 4 := ⟨by decide +kernel, rfl⟩
theorem dX9_has_4 : jm_d cX9_has 4 (.iand) 1 5 := ⟨by decide +kernel, rfl⟩
theorem dX9_has_5 : jm_d cX9_has 5 (.iconst 1) 1 6 := ⟨by decide +kernel, rfl⟩
theorem dX9_has_6 : jm_b cX9_has 6 (.if_icmp .ne) 9 13 := ⟨7, by decide +kernel, rfl, by decide⟩
theorem dX9_has_9 : jm_d cX9_has 9 (.iconst 1) 1 10 := ⟨by decide +kernel, rfl⟩
theorem dX9_has_10 : jm_b cX9_has 10 .goto 13 14 := ⟨4, by decide +kernel, rfl, by decide⟩
theorem dX9_has_14 : jm_d cX9_has 14 (.ireturn) 1 15 := ⟨by decide +kernel, rfl⟩
theorem dX9_has_13 : jm_d cX9_has 13 (.iconst 0) 1 14 := ⟨by decide +kernel, rfl⟩
set_option maxHeartbeats 4000000 in
set_option maxRecDepth 100000 in
theorem kM_has (E : jm_Ev) (hE : jm_dj E jm_LM) {p1 : Int32} {p2 : Int32} {M : jm_M}  {r : Int32} (h : sM_has p1 p2 = some r) : jm_Ct E jm_LM yX9_has cX9_has 2 (some .boolean) 0 0 [.int p1, .int p2] M (some (.int r)) M := by
  refine jm_enter (lv := [some (.int p1), some (.int p2)]) hE (by decide) (Nat.le_of_ble_eq_true rfl) rfl ?_
  intro z w F hz
  have G : jm_G w 0 [some (.int p1), some (.int p2)] [] M (sM_has p1 p2) (fun e => z (some (.int e)) M) := by
    unfold sM_has
    refine jm_iload_n (i := 0) F dX9_has_0 rfl rfl ?_
    refine jm_iload_n (i := 1) F dX9_has_1 rfl rfl ?_
    refine jm_ishr F dX9_has_2 ?_
    refine jm_iconst F dX9_has_3 kc_1 ?_
    refine jm_iand F dX9_has_4 ?_
    refine jm_iconst F dX9_has_5 kc_1 ?_
    refine jm_icmp_ne F dX9_has_6 (fun c1 => ?_) (fun c1 => ?_)
    · refine jm_iconst F dX9_has_9 kc_1 ?_
      refine jm_goto F dX9_has_10 ?_
      exact jm_zret F dX9_has_14 (Or.inr rfl) (fun h => h)
    · refine jm_iconst F dX9_has_13 kc_0 ?_
      exact jm_zret F dX9_has_14 (Or.inl rfl) (fun h => h)
  exact G r h hz
theorem dX9_bits_0 : jm_d cX9_bits 0 (.iconst 0) 1 1 := ⟨by decide +kernel, rfl⟩
theorem dX9_bits_1 : jm_d cX9_bits 1 (.istore_n 1) 1 2 := ⟨by decide +kernel, rfl⟩
theorem dX9_bits_2 : jm_d cX9_bits 2 (.iconst 0) 1 3 := ⟨by decide +kernel, rfl⟩
theorem dX9_bits_3 : jm_d cX9_bits 3 (.istore_n 2) 1 4 := ⟨by decide +kernel, rfl⟩
theorem dX9_bits_4 : jm_d cX9_bits 4 (.iload_n 2) 1 5 := ⟨by decide +kernel, rfl⟩
theorem dX9_bits_5 : jm_d cX9_bits 5 (.bipush 31) 2 7 := ⟨by decide +kernel, rfl⟩
theorem dX9_bits_7 : jm_b cX9_bits 7 (.if_icmp .ge) 10 24 := ⟨17, by decide +kernel, rfl, by decide⟩
theorem dX9_bits_10 : jm_d cX9_bits 10 (.iload_n 1) 1 11 := ⟨by decide +kernel, rfl⟩
theorem dX9_bits_11 : jm_d cX9_bits 11 (.iload_n 0) 1 12 := ⟨by decide +kernel, rfl⟩
theorem dX9_bits_12 : jm_d cX9_bits 12 (.iload_n 2) 1 13 := ⟨by decide +kernel, rfl⟩
theorem dX9_bits_13 : jm_d cX9_bits 13 (.ishr) 1 14 := ⟨by decide +kernel, rfl⟩
theorem dX9_bits_14 : jm_d cX9_bits 14 (.iconst 1) 1 15 := ⟨by decide +kernel, rfl⟩
theorem dX9_bits_15 : jm_d cX9_bits 15 (.iand) 1 16 := ⟨by decide +kernel, rfl⟩
theorem dX9_bits_16 : jm_d cX9_bits 16 (.iadd) 1 17 := ⟨by decide +kernel, rfl⟩
theorem dX9_bits_17 : jm_d cX9_bits 17 (.istore_n 1) 1 18 := ⟨by decide +kernel, rfl⟩
theorem dX9_bits_18 : jm_d cX9_bits 18 (.iinc 2 1) 3 21 := ⟨by decide +kernel, rfl⟩
theorem dX9_bits_21 : jm_b cX9_bits 21 .goto 24 4 := ⟨(-17), by decide +kernel, rfl, by decide⟩
theorem dX9_bits_24 : jm_d cX9_bits 24 (.iload_n 1) 1 25 := ⟨by decide +kernel, rfl⟩
theorem dX9_bits_25 : jm_d cX9_bits 25 (.ireturn) 1 26 := ⟨by decide +kernel, rfl⟩
set_option maxHeartbeats 4000000 in
set_option maxRecDepth 100000 in
theorem kM_bits (E : jm_Ev) (hE : jm_dj E jm_LM) {p1 : Int32} {M : jm_M}  {r : Int32} (h : sM_bits p1 = some r) : jm_Ct E jm_LM yX9_bits cX9_bits 3 (some .int) 0 0 [.int p1] M (some (.int r)) M := by
  refine jm_enter (lv := [some (.int p1), none, none]) hE (by decide) (Nat.le_of_ble_eq_true rfl) rfl ?_
  intro z w F hz
  have G : jm_G w 0 [some (.int p1), none, none] [] M (sM_bits p1) (fun e => z (some (.int e)) M) := by
    unfold sM_bits
    refine jm_iconst F dX9_bits_0 kc_0 ?_
    refine jm_istore_n (i := 1) (lv' := [some (.int p1), some (.int 0), none]) F dX9_bits_1 rfl (by decide) rfl rfl ?_
    refine jm_iconst F dX9_bits_2 kc_0 ?_
    refine jm_istore_n (i := 2) (lv' := [some (.int p1), some (.int 0), some (.int 0)]) F dX9_bits_3 rfl (by decide) rfl rfl ?_
    refine jm_bind (pcJ := 24) (lvJ := fun e4 => [none, some (.int e4), none]) (stJ := fun _ => []) (MJ := fun e4 => M) ?_ (fun e4 => ?_)
    · refine jm_weak F (lv' := [some (.int p1), some (.int 0), some (.int 0)]) ⟨rfl, rfl, rfl, trivial⟩ ?_
      refine jm_loopR (lvH := fun s1 => [some (.int p1), some (.int s1.1), some (.int s1.2)]) (MH := fun s1 => M) (fun s1 => ?_) jm_N (0, 0)
      unfold sM_bits_L4
      refine jm_iload_n (i := 2) F dX9_bits_4 rfl rfl ?_
      refine jm_bipush F dX9_bits_5 kb_31 ?_
      refine jm_icmp_ge F dX9_bits_7 (fun c2 => ?_) (fun c2 => ?_)
      · exact jm_weakD F (lv' := [none, some (.int s1.1), none]) ⟨rfl, trivial⟩ (fun h => h)
      · refine jm_iload_n (i := 1) F dX9_bits_10 rfl rfl ?_
        refine jm_iload_n (i := 0) F dX9_bits_11 rfl rfl ?_
        refine jm_iload_n (i := 2) F dX9_bits_12 rfl rfl ?_
        refine jm_ishr F dX9_bits_13 ?_
        refine jm_iconst F dX9_bits_14 kc_1 ?_
        refine jm_iand F dX9_bits_15 ?_
        refine jm_iadd F dX9_bits_16 ?_
        refine jm_nameI (f := fun x3 => [.int x3]) (fun x3 => ?_) rfl
        refine jm_istore_n (i := 1) (lv' := [some (.int p1), some (.int x3), some (.int s1.2)]) F dX9_bits_17 rfl (by decide) rfl rfl ?_
        refine jm_iinc (i := 2) (lv' := [some (.int p1), some (.int x3), some (.int (s1.2 + 1))]) F dX9_bits_18 kc_1 rfl (by decide) rfl rfl ?_
        refine jm_goto F dX9_bits_21 ?_
        exact jm_weakD F (lv' := [some (.int p1), some (.int x3), some (.int (s1.2 + 1))]) ⟨rfl, rfl, rfl, trivial⟩ (fun h => h)
    · refine jm_iload_n (i := 1) F dX9_bits_24 rfl rfl ?_
      exact jm_iret F dX9_bits_25 (fun h => h)
  exact G r h hz
theorem dX9_isPerson_0 : jm_d cX9_isPerson 0 (.iload_n 1) 1 1 := ⟨by decide +kernel, rfl⟩
theorem dX9_isPerson_1 : jm_d cX9_isPerson 1 (.iconst 0) 1 2 := ⟨by decide +kernel, rfl⟩
theorem dX9_isPerson_2 : jm_d cX9_isPerson 2 (.aload_n 0) 1 3 := ⟨by decide +kernel, rfl⟩
theorem dX9_isPerson_3 : jm_d cX9_isPerson 3 (.getfield 91) 3 6 := ⟨by decide +kernel, rfl⟩
theorem dX9_isPerson_6 : jm_d cX9_isPerson 6 (.iconst 1) 1 7 := ⟨by decide +kernel, rfl⟩
theorem dX9_isPerson_7 : jm_d cX9_isPerson 7 (.isub) 1 8 := ⟨by decide +kernel, rfl⟩
theorem dX9_isPerson_8 : jm_d cX9_isPerson 8 (.invokestatic 98) 3 11 := ⟨by decide +kernel, rfl⟩
theorem dX9_isPerson_11 : jm_d cX9_isPerson 11 (.ireturn) 1 12 := ⟨by decide +kernel, rfl⟩
set_option maxHeartbeats 4000000 in
set_option maxRecDepth 100000 in
theorem kM_isPerson (E : jm_Ev) (hE : jm_dj E jm_LM) {M : jm_M} {p1 : Int32}  {r : Int32} (h : sM_isPerson M p1 = some r) : jm_Ct E jm_LM yX9_isPerson cX9_isPerson 2 (some .boolean) 1 22 [.ref (jm_a E 0 0), .int p1] M (some (.int r)) M := by
  refine jm_enter (lv := [some (.ref (jm_a E 0 0)), some (.int p1)]) hE (by decide) (Nat.le_of_ble_eq_true rfl) rfl ?_
  intro z w F hz
  have G : jm_G w 0 [some (.ref (jm_a E 0 0)), some (.int p1)] [] M (sM_isPerson M p1) (fun e => z (some (.int e)) M) := by
    unfold sM_isPerson
    refine jm_iload_n (i := 1) F dX9_isPerson_0 rfl rfl ?_
    refine jm_iconst F dX9_isPerson_1 kc_0 ?_
    refine jm_aload_n (i := 0) F dX9_isPerson_2 rfl rfl ?_
    refine jm_getI F dX9_isPerson_3 fl_X9_91 lo_X9 rfl ?_
    refine jm_iconst F dX9_isPerson_6 kc_1 ?_
    refine jm_isub F dX9_isPerson_7 ?_
    refine jm_callS (As := [.int p1, .int 0, .int ((M 0 0 13) - 1)]) (st := []) (rv := fun r => some (.int r)) (mm := fun _ => M) F dX9_isPerson_8 qX9_98 rfl (fun r h => kM_isIn E hE h) rfl (Nat.le_of_ble_eq_true rfl) ⟨Nat.le_of_ble_eq_true rfl, Nat.le_of_ble_eq_true rfl⟩ (fun r1 => ?_)
    refine jm_bzB (fun hb3 => ?_)
    exact jm_zret F dX9_isPerson_11 hb3 (fun h => h)
  exact G r h hz
theorem dX9_isPlace_0 : jm_d cX9_isPlace 0 (.iload_n 1) 1 1 := ⟨by decide +kernel, rfl⟩
theorem dX9_isPlace_1 : jm_d cX9_isPlace 1 (.bipush 9) 2 3 := ⟨by decide +kernel, rfl⟩
theorem dX9_isPlace_3 : jm_b cX9_isPlace 3 (.if_icmp .eq) 6 14 := ⟨11, by decide +kernel, rfl, by decide⟩
theorem dX9_isPlace_14 : jm_d cX9_isPlace 14 (.iconst 1) 1 15 := ⟨by decide +kernel, rfl⟩
theorem dX9_isPlace_15 : jm_b cX9_isPlace 15 .goto 18 19 := ⟨4, by decide +kernel, rfl, by decide⟩
theorem dX9_isPlace_19 : jm_d cX9_isPlace 19 (.ireturn) 1 20 := ⟨by decide +kernel, rfl⟩
theorem dX9_isPlace_6 : jm_d cX9_isPlace 6 (.aload_n 0) 1 7 := ⟨by decide +kernel, rfl⟩
theorem dX9_isPlace_7 : jm_d cX9_isPlace 7 (.iload_n 1) 1 8 := ⟨by decide +kernel, rfl⟩
theorem dX9_isPlace_8 : jm_d cX9_isPlace 8 (.invokevirtual 102) 3 11 := ⟨by decide +kernel, rfl⟩
theorem dX9_isPlace_11 : jm_b cX9_isPlace 11 (.ifCond .eq) 14 18 := ⟨7, by decide +kernel, rfl, by decide⟩
theorem dX9_isPlace_18 : jm_d cX9_isPlace 18 (.iconst 0) 1 19 := ⟨by decide +kernel, rfl⟩
set_option maxHeartbeats 4000000 in
set_option maxRecDepth 100000 in
theorem kM_isPlace (E : jm_Ev) (hE : jm_dj E jm_LM) {M : jm_M} {p1 : Int32}  {r : Int32} (h : sM_isPlace M p1 = some r) : jm_Ct E jm_LM yX9_isPlace cX9_isPlace 2 (some .boolean) 2 43 [.ref (jm_a E 0 0), .int p1] M (some (.int r)) M := by
  refine jm_enter (lv := [some (.ref (jm_a E 0 0)), some (.int p1)]) hE (by decide) (Nat.le_of_ble_eq_true rfl) rfl ?_
  intro z w F hz
  have G : jm_G w 0 [some (.ref (jm_a E 0 0)), some (.int p1)] [] M (sM_isPlace M p1) (fun e => z (some (.int e)) M) := by
    unfold sM_isPlace
    refine jm_iload_n (i := 1) F dX9_isPlace_0 rfl rfl ?_
    refine jm_bipush F dX9_isPlace_1 kb_9 ?_
    refine jm_icmp_eq F dX9_isPlace_3 (fun c1 => ?_) (fun c1 => ?_)
    · refine jm_iconst F dX9_isPlace_14 kc_1 ?_
      refine jm_goto F dX9_isPlace_15 ?_
      exact jm_zret F dX9_isPlace_19 (Or.inr rfl) (fun h => h)
    · refine jm_aload_n (i := 0) F dX9_isPlace_6 rfl rfl ?_
      refine jm_iload_n (i := 1) F dX9_isPlace_7 rfl rfl ?_
      refine jm_callV (As := [.int p1]) (st := []) (rv := fun r => some (.int r)) (mm := fun _ => M) F dX9_isPlace_8 qX9_102 rfl lo_X9 rfl (fun r h => kM_isPerson E hE h) rfl (Nat.le_of_ble_eq_true rfl) ⟨Nat.le_of_ble_eq_true rfl, Nat.le_of_ble_eq_true rfl⟩ (fun r2 => ?_)
      refine jm_if_eq F dX9_isPlace_11 (fun c3 => ?_) (fun c3 => ?_)
      · refine jm_iconst F dX9_isPlace_18 kc_0 ?_
        exact jm_zret F dX9_isPlace_19 (Or.inl rfl) (fun h => h)
      · refine jm_iconst F dX9_isPlace_14 kc_1 ?_
        refine jm_goto F dX9_isPlace_15 ?_
        exact jm_zret F dX9_isPlace_19 (Or.inr rfl) (fun h => h)
  exact G r h hz
theorem dX9_isBook_0 : jm_d cX9_isBook 0 (.iload_n 1) 1 1 := ⟨by decide +kernel, rfl⟩
theorem dX9_isBook_1 : jm_d cX9_isBook 1 (.iconst 0) 1 2 := ⟨by decide +kernel, rfl⟩
theorem dX9_isBook_2 : jm_d cX9_isBook 2 (.aload_n 0) 1 3 := ⟨by decide +kernel, rfl⟩
theorem dX9_isBook_3 : jm_d cX9_isBook 3 (.getfield 106) 3 6 := ⟨by decide +kernel, rfl⟩
theorem dX9_isBook_6 : jm_d cX9_isBook 6 (.iconst 1) 1 7 := ⟨by decide +kernel, rfl⟩
theorem dX9_isBook_7 : jm_d cX9_isBook 7 (.isub) 1 8 := ⟨by decide +kernel, rfl⟩
theorem dX9_isBook_8 : jm_d cX9_isBook 8 (.invokestatic 98) 3 11 := ⟨by decide +kernel, rfl⟩
theorem dX9_isBook_11 : jm_d cX9_isBook 11 (.ireturn) 1 12 := ⟨by decide +kernel, rfl⟩
set_option maxHeartbeats 4000000 in
set_option maxRecDepth 100000 in
theorem kM_isBook (E : jm_Ev) (hE : jm_dj E jm_LM) {M : jm_M} {p1 : Int32}  {r : Int32} (h : sM_isBook M p1 = some r) : jm_Ct E jm_LM yX9_isBook cX9_isBook 2 (some .boolean) 1 22 [.ref (jm_a E 0 0), .int p1] M (some (.int r)) M := by
  refine jm_enter (lv := [some (.ref (jm_a E 0 0)), some (.int p1)]) hE (by decide) (Nat.le_of_ble_eq_true rfl) rfl ?_
  intro z w F hz
  have G : jm_G w 0 [some (.ref (jm_a E 0 0)), some (.int p1)] [] M (sM_isBook M p1) (fun e => z (some (.int e)) M) := by
    unfold sM_isBook
    refine jm_iload_n (i := 1) F dX9_isBook_0 rfl rfl ?_
    refine jm_iconst F dX9_isBook_1 kc_0 ?_
    refine jm_aload_n (i := 0) F dX9_isBook_2 rfl rfl ?_
    refine jm_getI F dX9_isBook_3 fl_X9_106 lo_X9 rfl ?_
    refine jm_iconst F dX9_isBook_6 kc_1 ?_
    refine jm_isub F dX9_isBook_7 ?_
    refine jm_callS (As := [.int p1, .int 0, .int ((M 0 0 14) - 1)]) (st := []) (rv := fun r => some (.int r)) (mm := fun _ => M) F dX9_isBook_8 qX9_98 rfl (fun r h => kM_isIn E hE h) rfl (Nat.le_of_ble_eq_true rfl) ⟨Nat.le_of_ble_eq_true rfl, Nat.le_of_ble_eq_true rfl⟩ (fun r1 => ?_)
    refine jm_bzB (fun hb3 => ?_)
    exact jm_zret F dX9_isBook_11 hb3 (fun h => h)
  exact G r h hz
theorem dX9_areTwo_0 : jm_d cX9_areTwo 0 (.aload_n 0) 1 1 := ⟨by decide +kernel, rfl⟩
theorem dX9_areTwo_1 : jm_d cX9_areTwo 1 (.iload_n 1) 1 2 := ⟨by decide +kernel, rfl⟩
theorem dX9_areTwo_2 : jm_d cX9_areTwo 2 (.invokevirtual 102) 3 5 := ⟨by decide +kernel, rfl⟩
theorem dX9_areTwo_5 : jm_b cX9_areTwo 5 (.ifCond .eq) 8 25 := ⟨20, by decide +kernel, rfl, by decide⟩
theorem dX9_areTwo_25 : jm_d cX9_areTwo 25 (.iconst 0) 1 26 := ⟨by decide +kernel, rfl⟩
theorem dX9_areTwo_26 : jm_d cX9_areTwo 26 (.ireturn) 1 27 := ⟨by decide +kernel, rfl⟩
theorem dX9_areTwo_8 : jm_d cX9_areTwo 8 (.aload_n 0) 1 9 := ⟨by decide +kernel, rfl⟩
theorem dX9_areTwo_9 : jm_d cX9_areTwo 9 (.iload_n 2) 1 10 := ⟨by decide +kernel, rfl⟩
theorem dX9_areTwo_10 : jm_d cX9_areTwo 10 (.invokevirtual 102) 3 13 := ⟨by decide +kernel, rfl⟩
theorem dX9_areTwo_13 : jm_b cX9_areTwo 13 (.ifCond .eq) 16 25 := ⟨12, by decide +kernel, rfl, by decide⟩
theorem dX9_areTwo_16 : jm_d cX9_areTwo 16 (.iload_n 1) 1 17 := ⟨by decide +kernel, rfl⟩
theorem dX9_areTwo_17 : jm_d cX9_areTwo 17 (.iload_n 2) 1 18 := ⟨by decide +kernel, rfl⟩
theorem dX9_areTwo_18 : jm_b cX9_areTwo 18 (.if_icmp .eq) 21 25 := ⟨7, by decide +kernel, rfl, by decide⟩
theorem dX9_areTwo_21 : jm_d cX9_areTwo 21 (.iconst 1) 1 22 := ⟨by decide +kernel, rfl⟩
theorem dX9_areTwo_22 : jm_b cX9_areTwo 22 .goto 25 26 := ⟨4, by decide +kernel, rfl, by decide⟩
set_option maxHeartbeats 4000000 in
set_option maxRecDepth 100000 in
theorem kM_areTwo (E : jm_Ev) (hE : jm_dj E jm_LM) {M : jm_M} {p1 : Int32} {p2 : Int32}  {r : Int32} (h : sM_areTwo M p1 p2 = some r) : jm_Ct E jm_LM yX9_areTwo cX9_areTwo 3 (some .boolean) 2 43 [.ref (jm_a E 0 0), .int p1, .int p2] M (some (.int r)) M := by
  refine jm_enter (lv := [some (.ref (jm_a E 0 0)), some (.int p1), some (.int p2)]) hE (by decide) (Nat.le_of_ble_eq_true rfl) rfl ?_
  intro z w F hz
  have G : jm_G w 0 [some (.ref (jm_a E 0 0)), some (.int p1), some (.int p2)] [] M (sM_areTwo M p1 p2) (fun e => z (some (.int e)) M) := by
    unfold sM_areTwo
    refine jm_aload_n (i := 0) F dX9_areTwo_0 rfl rfl ?_
    refine jm_iload_n (i := 1) F dX9_areTwo_1 rfl rfl ?_
    refine jm_callV (As := [.int p1]) (st := []) (rv := fun r => some (.int r)) (mm := fun _ => M) F dX9_areTwo_2 qX9_102 rfl lo_X9 rfl (fun r h => kM_isPerson E hE h) rfl (Nat.le_of_ble_eq_true rfl) ⟨Nat.le_of_ble_eq_true rfl, Nat.le_of_ble_eq_true rfl⟩ (fun r1 => ?_)
    refine jm_if_eq F dX9_areTwo_5 (fun c2 => ?_) (fun c2 => ?_)
    · refine jm_iconst F dX9_areTwo_25 kc_0 ?_
      exact jm_zret F dX9_areTwo_26 (Or.inl rfl) (fun h => h)
    · refine jm_aload_n (i := 0) F dX9_areTwo_8 rfl rfl ?_
      refine jm_iload_n (i := 2) F dX9_areTwo_9 rfl rfl ?_
      refine jm_callV (As := [.int p2]) (st := []) (rv := fun r => some (.int r)) (mm := fun _ => M) F dX9_areTwo_10 qX9_102 rfl lo_X9 rfl (fun r h => kM_isPerson E hE h) rfl (Nat.le_of_ble_eq_true rfl) ⟨Nat.le_of_ble_eq_true rfl, Nat.le_of_ble_eq_true rfl⟩ (fun r3 => ?_)
      refine jm_if_eq F dX9_areTwo_13 (fun c4 => ?_) (fun c4 => ?_)
      · refine jm_iconst F dX9_areTwo_25 kc_0 ?_
        exact jm_zret F dX9_areTwo_26 (Or.inl rfl) (fun h => h)
      · refine jm_iload_n (i := 1) F dX9_areTwo_16 rfl rfl ?_
        refine jm_iload_n (i := 2) F dX9_areTwo_17 rfl rfl ?_
        refine jm_icmp_eq F dX9_areTwo_18 (fun c5 => ?_) (fun c5 => ?_)
        · refine jm_iconst F dX9_areTwo_25 kc_0 ?_
          exact jm_zret F dX9_areTwo_26 (Or.inl rfl) (fun h => h)
        · refine jm_iconst F dX9_areTwo_21 kc_1 ?_
          refine jm_goto F dX9_areTwo_22 ?_
          exact jm_zret F dX9_areTwo_26 (Or.inr rfl) (fun h => h)
  exact G r h hz
theorem dX9_asNovel_0 : jm_d cX9_asNovel 0 (.aload_n 0) 1 1 := ⟨by decide +kernel, rfl⟩
theorem dX9_asNovel_1 : jm_d cX9_asNovel 1 (.getfield 34) 3 4 := ⟨by decide +kernel, rfl⟩
theorem dX9_asNovel_4 : jm_d cX9_asNovel 4 (.iload_n 1) 1 5 := ⟨by decide +kernel, rfl⟩
theorem dX9_asNovel_5 : jm_d cX9_asNovel 5 (.iaload) 1 6 := ⟨by decide +kernel, rfl⟩
theorem dX9_asNovel_6 : jm_d cX9_asNovel 6 (.invokestatic 109) 3 9 := ⟨by decide +kernel, rfl⟩
theorem dX9_asNovel_9 : jm_d cX9_asNovel 9 (.istore_n 2) 1 10 := ⟨by decide +kernel, rfl⟩
theorem dX9_asNovel_10 : jm_d cX9_asNovel 10 (.iload_n 2) 1 11 := ⟨by decide +kernel, rfl⟩
theorem dX9_asNovel_11 : jm_b cX9_asNovel 11 (.ifCond .ne) 14 18 := ⟨7, by decide +kernel, rfl, by decide⟩
theorem dX9_asNovel_14 : jm_d cX9_asNovel 14 (.iconst 0) 1 15 := ⟨by decide +kernel, rfl⟩
theorem dX9_asNovel_15 : jm_b cX9_asNovel 15 .goto 18 26 := ⟨11, by decide +kernel, rfl, by decide⟩
theorem dX9_asNovel_26 : jm_d cX9_asNovel 26 (.ireturn) 1 27 := ⟨by decide +kernel, rfl⟩
theorem dX9_asNovel_18 : jm_d cX9_asNovel 18 (.aload_n 0) 1 19 := ⟨by decide +kernel, rfl⟩
theorem dX9_asNovel_19 : jm_d cX9_asNovel 19 (.getfield 25) 3 22 := ⟨by decide +kernel, rfl⟩
theorem dX9_asNovel_22 : jm_d cX9_asNovel 22 (.iload_n 1) 1 23 := ⟨by decide +kernel, rfl⟩
theorem dX9_asNovel_23 : jm_d cX9_asNovel 23 (.iaload) 1 24 := ⟨by decide +kernel, rfl⟩
theorem dX9_asNovel_24 : jm_d cX9_asNovel 24 (.iload_n 2) 1 25 := ⟨by decide +kernel, rfl⟩
theorem dX9_asNovel_25 : jm_d cX9_asNovel 25 (.iadd) 1 26 := ⟨by decide +kernel, rfl⟩
set_option maxHeartbeats 4000000 in
set_option maxRecDepth 100000 in
theorem kM_asNovel (E : jm_Ev) (hE : jm_dj E jm_LM) {M : jm_M} {p1 : Int32}  {r : Int32} (h : sM_asNovel M p1 = some r) : jm_Ct E jm_LM yX9_asNovel cX9_asNovel 3 (some .int) 1 22 [.ref (jm_a E 0 0), .int p1] M (some (.int r)) M := by
  refine jm_enter (lv := [some (.ref (jm_a E 0 0)), some (.int p1), none]) hE (by decide) (Nat.le_of_ble_eq_true rfl) rfl ?_
  intro z w F hz
  have G : jm_G w 0 [some (.ref (jm_a E 0 0)), some (.int p1), none] [] M (sM_asNovel M p1) (fun e => z (some (.int e)) M) := by
    unfold sM_asNovel
    refine jm_aload_n (i := 0) F dX9_asNovel_0 rfl rfl ?_
    refine jm_getR F dX9_asNovel_1 fl_X9_34 lo_X9 rfl ?_
    refine jm_iload_n (i := 1) F dX9_asNovel_4 rfl rfl ?_
    refine jm_iald F dX9_asNovel_5 la_X9_9 (fun v1 => ?_)
    refine jm_callS (As := [.int v1]) (st := []) (rv := fun r => some (.int r)) (mm := fun _ => M) F dX9_asNovel_6 qX9_109 rfl (fun r h => kM_bits E hE h) rfl (Nat.le_of_ble_eq_true rfl) ⟨Nat.le_of_ble_eq_true rfl, Nat.le_of_ble_eq_true rfl⟩ (fun r2 => ?_)
    refine jm_istore_n (i := 2) (lv' := [some (.ref (jm_a E 0 0)), some (.int p1), some (.int r2)]) F dX9_asNovel_9 rfl (by decide) rfl rfl ?_
    refine jm_iload_n (i := 2) F dX9_asNovel_10 rfl rfl ?_
    refine jm_if_ne F dX9_asNovel_11 (fun c3 => ?_) (fun c3 => ?_)
    · refine jm_iconst F dX9_asNovel_14 kc_0 ?_
      refine jm_goto F dX9_asNovel_15 ?_
      exact jm_iret F dX9_asNovel_26 (fun h => h)
    · refine jm_aload_n (i := 0) F dX9_asNovel_18 rfl rfl ?_
      refine jm_getR F dX9_asNovel_19 fl_X9_25 lo_X9 rfl ?_
      refine jm_iload_n (i := 1) F dX9_asNovel_22 rfl rfl ?_
      refine jm_iald F dX9_asNovel_23 la_X9_6 (fun v4 => ?_)
      refine jm_iload_n (i := 2) F dX9_asNovel_24 rfl rfl ?_
      refine jm_iadd F dX9_asNovel_25 ?_
      exact jm_iret F dX9_asNovel_26 (fun h => h)
  exact G r h hz
theorem dX9_weighs_0 : jm_d cX9_weighs 0 (.aload_n 0) 1 1 := ⟨by decide +kernel, rfl⟩
theorem dX9_weighs_1 : jm_d cX9_weighs 1 (.getfield 25) 3 4 := ⟨by decide +kernel, rfl⟩
theorem dX9_weighs_4 : jm_d cX9_weighs 4 (.iload_n 1) 1 5 := ⟨by decide +kernel, rfl⟩
theorem dX9_weighs_5 : jm_d cX9_weighs 5 (.iaload) 1 6 := ⟨by decide +kernel, rfl⟩
theorem dX9_weighs_6 : jm_d cX9_weighs 6 (.istore_n 2) 1 7 := ⟨by decide +kernel, rfl⟩
theorem dX9_weighs_7 : jm_d cX9_weighs 7 (.aload_n 0) 1 8 := ⟨by decide +kernel, rfl⟩
theorem dX9_weighs_8 : jm_d cX9_weighs 8 (.getfield 34) 3 11 := ⟨by decide +kernel, rfl⟩
theorem dX9_weighs_11 : jm_d cX9_weighs 11 (.iload_n 1) 1 12 := ⟨by decide +kernel, rfl⟩
theorem dX9_weighs_12 : jm_d cX9_weighs 12 (.iaload) 1 13 := ⟨by decide +kernel, rfl⟩
theorem dX9_weighs_13 : jm_d cX9_weighs 13 (.invokestatic 109) 3 16 := ⟨by decide +kernel, rfl⟩
theorem dX9_weighs_16 : jm_d cX9_weighs 16 (.istore_n 3) 1 17 := ⟨by decide +kernel, rfl⟩
theorem dX9_weighs_17 : jm_d cX9_weighs 17 (.aload_n 0) 1 18 := ⟨by decide +kernel, rfl⟩
theorem dX9_weighs_18 : jm_d cX9_weighs 18 (.getfield 22) 3 21 := ⟨by decide +kernel, rfl⟩
theorem dX9_weighs_21 : jm_d cX9_weighs 21 (.iload_n 1) 1 22 := ⟨by decide +kernel, rfl⟩
theorem dX9_weighs_22 : jm_d cX9_weighs 22 (.iaload) 1 23 := ⟨by decide +kernel, rfl⟩
theorem dX9_weighs_23 : decode cX9_weighs 23 = .ok (.tableswitch 145 1 7 #[41, 49, 53, 67, 77, 86, 116], 41) := by decide +kernel
theorem dX9_weighs_64 : jm_d cX9_weighs 64 (.aload_n 0) 1 65 := ⟨by decide +kernel, rfl⟩
theorem dX9_weighs_65 : jm_d cX9_weighs 65 (.iload_n 1) 1 66 := ⟨by decide +kernel, rfl⟩
theorem dX9_weighs_66 : jm_d cX9_weighs 66 (.invokevirtual 113) 3 69 := ⟨by decide +kernel, rfl⟩
theorem dX9_weighs_69 : jm_d cX9_weighs 69 (.iconst 2) 1 70 := ⟨by decide +kernel, rfl⟩
theorem dX9_weighs_70 : jm_d cX9_weighs 70 (.iadd) 1 71 := ⟨by decide +kernel, rfl⟩
theorem dX9_weighs_71 : jm_d cX9_weighs 71 (.ireturn) 1 72 := ⟨by decide +kernel, rfl⟩
theorem dX9_weighs_72 : jm_d cX9_weighs 72 (.iconst 2) 1 73 := ⟨by decide +kernel, rfl⟩
theorem dX9_weighs_73 : jm_d cX9_weighs 73 (.iload_n 2) 1 74 := ⟨by decide +kernel, rfl⟩
theorem dX9_weighs_74 : jm_d cX9_weighs 74 (.imul) 1 75 := ⟨by decide +kernel, rfl⟩
theorem dX9_weighs_75 : jm_d cX9_weighs 75 (.ireturn) 1 76 := ⟨by decide +kernel, rfl⟩
theorem dX9_weighs_76 : jm_d cX9_weighs 76 (.iload_n 3) 1 77 := ⟨by decide +kernel, rfl⟩
theorem dX9_weighs_77 : jm_b cX9_weighs 77 (.ifCond .ne) 80 86 := ⟨9, by decide +kernel, rfl, by decide⟩
theorem dX9_weighs_80 : jm_d cX9_weighs 80 (.iload_n 2) 1 81 := ⟨by decide +kernel, rfl⟩
theorem dX9_weighs_81 : jm_d cX9_weighs 81 (.iconst 5) 1 82 := ⟨by decide +kernel, rfl⟩
theorem dX9_weighs_82 : jm_d cX9_weighs 82 (.iadd) 1 83 := ⟨by decide +kernel, rfl⟩
theorem dX9_weighs_83 : jm_b cX9_weighs 83 .goto 86 89 := ⟨6, by decide +kernel, rfl, by decide⟩
theorem dX9_weighs_89 : jm_d cX9_weighs 89 (.ireturn) 1 90 := ⟨by decide +kernel, rfl⟩
theorem dX9_weighs_86 : jm_d cX9_weighs 86 (.iload_n 2) 1 87 := ⟨by decide +kernel, rfl⟩
theorem dX9_weighs_87 : jm_d cX9_weighs 87 (.iload_n 3) 1 88 := ⟨by decide +kernel, rfl⟩
theorem dX9_weighs_88 : jm_d cX9_weighs 88 (.iadd) 1 89 := ⟨by decide +kernel, rfl⟩
theorem dX9_weighs_90 : jm_d cX9_weighs 90 (.aload_n 0) 1 91 := ⟨by decide +kernel, rfl⟩
theorem dX9_weighs_91 : jm_d cX9_weighs 91 (.iload_n 1) 1 92 := ⟨by decide +kernel, rfl⟩
theorem dX9_weighs_92 : jm_d cX9_weighs 92 (.invokevirtual 113) 3 95 := ⟨by decide +kernel, rfl⟩
theorem dX9_weighs_95 : jm_d cX9_weighs 95 (.iconst 2) 1 96 := ⟨by decide +kernel, rfl⟩
theorem dX9_weighs_96 : jm_d cX9_weighs 96 (.iadd) 1 97 := ⟨by decide +kernel, rfl⟩
theorem dX9_weighs_97 : jm_d cX9_weighs 97 (.iload_n 3) 1 98 := ⟨by decide +kernel, rfl⟩
theorem dX9_weighs_98 : jm_d cX9_weighs 98 (.iadd) 1 99 := ⟨by decide +kernel, rfl⟩
theorem dX9_weighs_99 : jm_d cX9_weighs 99 (.ireturn) 1 100 := ⟨by decide +kernel, rfl⟩
theorem dX9_weighs_100 : jm_d cX9_weighs 100 (.iload_n 2) 1 101 := ⟨by decide +kernel, rfl⟩
theorem dX9_weighs_101 : jm_d cX9_weighs 101 (.aload_n 0) 1 102 := ⟨by decide +kernel, rfl⟩
theorem dX9_weighs_102 : jm_d cX9_weighs 102 (.getfield 37) 3 105 := ⟨by decide +kernel, rfl⟩
theorem dX9_weighs_105 : jm_d cX9_weighs 105 (.iload_n 1) 1 106 := ⟨by decide +kernel, rfl⟩
theorem dX9_weighs_106 : jm_d cX9_weighs 106 (.iaload) 1 107 := ⟨by decide +kernel, rfl⟩
theorem dX9_weighs_107 : jm_d cX9_weighs 107 (.iadd) 1 108 := ⟨by decide +kernel, rfl⟩
theorem dX9_weighs_108 : jm_d cX9_weighs 108 (.ireturn) 1 109 := ⟨by decide +kernel, rfl⟩
theorem dX9_weighs_109 : jm_d cX9_weighs 109 (.iload_n 3) 1 110 := ⟨by decide +kernel, rfl⟩
theorem dX9_weighs_110 : jm_b cX9_weighs 110 (.ifCond .ne) 113 119 := ⟨9, by decide +kernel, rfl, by decide⟩
theorem dX9_weighs_113 : jm_d cX9_weighs 113 (.iload_n 2) 1 114 := ⟨by decide +kernel, rfl⟩
theorem dX9_weighs_114 : jm_d cX9_weighs 114 (.iconst 5) 1 115 := ⟨by decide +kernel, rfl⟩
theorem dX9_weighs_115 : jm_d cX9_weighs 115 (.iadd) 1 116 := ⟨by decide +kernel, rfl⟩
theorem dX9_weighs_116 : jm_b cX9_weighs 116 .goto 119 122 := ⟨6, by decide +kernel, rfl, by decide⟩
theorem dX9_weighs_119 : jm_d cX9_weighs 119 (.iload_n 2) 1 120 := ⟨by decide +kernel, rfl⟩
theorem dX9_weighs_120 : jm_d cX9_weighs 120 (.iload_n 3) 1 121 := ⟨by decide +kernel, rfl⟩
theorem dX9_weighs_121 : jm_d cX9_weighs 121 (.iadd) 1 122 := ⟨by decide +kernel, rfl⟩
theorem dX9_weighs_122 : jm_d cX9_weighs 122 (.aload_n 0) 1 123 := ⟨by decide +kernel, rfl⟩
theorem dX9_weighs_123 : jm_d cX9_weighs 123 (.getfield 116) 3 126 := ⟨by decide +kernel, rfl⟩
theorem dX9_weighs_126 : jm_d cX9_weighs 126 (.iconst 2) 1 127 := ⟨by decide +kernel, rfl⟩
theorem dX9_weighs_127 : jm_d cX9_weighs 127 (.irem) 1 128 := ⟨by decide +kernel, rfl⟩
theorem dX9_weighs_128 : jm_d cX9_weighs 128 (.iconst 1) 1 129 := ⟨by decide +kernel, rfl⟩
theorem dX9_weighs_129 : jm_b cX9_weighs 129 (.if_icmp .ne) 132 136 := ⟨7, by decide +kernel, rfl, by decide⟩
theorem dX9_weighs_132 : jm_d cX9_weighs 132 (.iconst 3) 1 133 := ⟨by decide +kernel, rfl⟩
theorem dX9_weighs_133 : jm_b cX9_weighs 133 .goto 136 137 := ⟨4, by decide +kernel, rfl, by decide⟩
theorem dX9_weighs_137 : jm_d cX9_weighs 137 (.iadd) 1 138 := ⟨by decide +kernel, rfl⟩
theorem dX9_weighs_138 : jm_d cX9_weighs 138 (.ireturn) 1 139 := ⟨by decide +kernel, rfl⟩
theorem dX9_weighs_136 : jm_d cX9_weighs 136 (.iconst 0) 1 137 := ⟨by decide +kernel, rfl⟩
theorem dX9_weighs_139 : jm_d cX9_weighs 139 (.aload_n 0) 1 140 := ⟨by decide +kernel, rfl⟩
theorem dX9_weighs_140 : jm_d cX9_weighs 140 (.iload_n 1) 1 141 := ⟨by decide +kernel, rfl⟩
theorem dX9_weighs_141 : jm_d cX9_weighs 141 (.invokevirtual 113) 3 144 := ⟨by decide +kernel, rfl⟩
theorem dX9_weighs_144 : jm_d cX9_weighs 144 (.iconst 2) 1 145 := ⟨by decide +kernel, rfl⟩
theorem dX9_weighs_145 : jm_d cX9_weighs 145 (.iadd) 1 146 := ⟨by decide +kernel, rfl⟩
theorem dX9_weighs_146 : jm_d cX9_weighs 146 (.iload_n 3) 1 147 := ⟨by decide +kernel, rfl⟩
theorem dX9_weighs_147 : jm_d cX9_weighs 147 (.iadd) 1 148 := ⟨by decide +kernel, rfl⟩
theorem dX9_weighs_148 : jm_d cX9_weighs 148 (.bipush 10) 2 150 := ⟨by decide +kernel, rfl⟩
theorem dX9_weighs_150 : jm_b cX9_weighs 150 (.if_icmp .ge) 153 158 := ⟨8, by decide +kernel, rfl, by decide⟩
theorem dX9_weighs_158 : jm_d cX9_weighs 158 (.aload_n 0) 1 159 := ⟨by decide +kernel, rfl⟩
theorem dX9_weighs_159 : jm_d cX9_weighs 159 (.iload_n 1) 1 160 := ⟨by decide +kernel, rfl⟩
theorem dX9_weighs_160 : jm_d cX9_weighs 160 (.invokevirtual 113) 3 163 := ⟨by decide +kernel, rfl⟩
theorem dX9_weighs_163 : jm_d cX9_weighs 163 (.iconst 2) 1 164 := ⟨by decide +kernel, rfl⟩
theorem dX9_weighs_164 : jm_d cX9_weighs 164 (.iadd) 1 165 := ⟨by decide +kernel, rfl⟩
theorem dX9_weighs_165 : jm_d cX9_weighs 165 (.iload_n 3) 1 166 := ⟨by decide +kernel, rfl⟩
theorem dX9_weighs_166 : jm_d cX9_weighs 166 (.iadd) 1 167 := ⟨by decide +kernel, rfl⟩
theorem dX9_weighs_167 : jm_d cX9_weighs 167 (.ireturn) 1 168 := ⟨by decide +kernel, rfl⟩
theorem dX9_weighs_153 : jm_d cX9_weighs 153 (.bipush 10) 2 155 := ⟨by decide +kernel, rfl⟩
theorem dX9_weighs_155 : jm_b cX9_weighs 155 .goto 158 167 := ⟨12, by decide +kernel, rfl, by decide⟩
theorem dX9_weighs_168 : jm_d cX9_weighs 168 (.aload_n 0) 1 169 := ⟨by decide +kernel, rfl⟩
theorem dX9_weighs_169 : jm_d cX9_weighs 169 (.iload_n 1) 1 170 := ⟨by decide +kernel, rfl⟩
theorem dX9_weighs_170 : jm_d cX9_weighs 170 (.invokevirtual 113) 3 173 := ⟨by decide +kernel, rfl⟩
theorem dX9_weighs_173 : jm_d cX9_weighs 173 (.ireturn) 1 174 := ⟨by decide +kernel, rfl⟩
set_option maxHeartbeats 4000000 in
set_option maxRecDepth 100000 in
theorem kM_weighs (E : jm_Ev) (hE : jm_dj E jm_LM) {M : jm_M} {p1 : Int32}  {r : Int32} (h : sM_weighs M p1 = some r) : jm_Ct E jm_LM yX9_weighs cX9_weighs 4 (some .int) 2 44 [.ref (jm_a E 0 0), .int p1] M (some (.int r)) M := by
  refine jm_enter (lv := [some (.ref (jm_a E 0 0)), some (.int p1), none, none]) hE (by decide) (Nat.le_of_ble_eq_true rfl) rfl ?_
  intro z w F hz
  have G : jm_G w 0 [some (.ref (jm_a E 0 0)), some (.int p1), none, none] [] M (sM_weighs M p1) (fun e => z (some (.int e)) M) := by
    unfold sM_weighs
    refine jm_aload_n (i := 0) F dX9_weighs_0 rfl rfl ?_
    refine jm_getR F dX9_weighs_1 fl_X9_25 lo_X9 rfl ?_
    refine jm_iload_n (i := 1) F dX9_weighs_4 rfl rfl ?_
    refine jm_iald F dX9_weighs_5 la_X9_6 (fun v1 => ?_)
    refine jm_istore_n (i := 2) (lv' := [some (.ref (jm_a E 0 0)), some (.int p1), some (.int v1), none]) F dX9_weighs_6 rfl (by decide) rfl rfl ?_
    refine jm_aload_n (i := 0) F dX9_weighs_7 rfl rfl ?_
    refine jm_getR F dX9_weighs_8 fl_X9_34 lo_X9 rfl ?_
    refine jm_iload_n (i := 1) F dX9_weighs_11 rfl rfl ?_
    refine jm_iald F dX9_weighs_12 la_X9_9 (fun v2 => ?_)
    refine jm_callS (As := [.int v2]) (st := []) (rv := fun r => some (.int r)) (mm := fun _ => M) F dX9_weighs_13 qX9_109 rfl (fun r h => kM_bits E hE h) rfl (Nat.le_of_ble_eq_true rfl) ⟨Nat.le_of_ble_eq_true rfl, Nat.le_of_ble_eq_true rfl⟩ (fun r3 => ?_)
    refine jm_istore_n (i := 3) (lv' := [some (.ref (jm_a E 0 0)), some (.int p1), some (.int v1), some (.int r3)]) F dX9_weighs_16 rfl (by decide) rfl rfl ?_
    refine jm_aload_n (i := 0) F dX9_weighs_17 rfl rfl ?_
    refine jm_getR F dX9_weighs_18 fl_X9_22 lo_X9 rfl ?_
    refine jm_iload_n (i := 1) F dX9_weighs_21 rfl rfl ?_
    refine jm_iald F dX9_weighs_22 la_X9_5 (fun v4 => ?_)
    refine jm_ite (fun c5 => ?_) (fun c5 => ?_)
    · refine jm_tsw (tgt := 64) F dX9_weighs_23 c5 (by decide) (by decide) rfl (by decide) ?_
      refine jm_aload_n (i := 0) F dX9_weighs_64 rfl rfl ?_
      refine jm_iload_n (i := 1) F dX9_weighs_65 rfl rfl ?_
      refine jm_callV (As := [.int p1]) (st := []) (rv := fun r => some (.int r)) (mm := fun _ => M) F dX9_weighs_66 qX9_113 rfl lo_X9 rfl (fun r h => kM_asNovel E hE h) rfl (Nat.le_of_ble_eq_true rfl) ⟨Nat.le_of_ble_eq_true rfl, Nat.le_of_ble_eq_true rfl⟩ (fun r6 => ?_)
      refine jm_iconst F dX9_weighs_69 kc_2 ?_
      refine jm_iadd F dX9_weighs_70 ?_
      exact jm_iret F dX9_weighs_71 (fun h => h)
    · refine jm_ite (fun c7 => ?_) (fun c7 => ?_)
      · refine jm_tsw (tgt := 72) F dX9_weighs_23 c7 (by decide) (by decide) rfl (by decide) ?_
        refine jm_iconst F dX9_weighs_72 kc_2 ?_
        refine jm_iload_n (i := 2) F dX9_weighs_73 rfl rfl ?_
        refine jm_imul F dX9_weighs_74 ?_
        exact jm_iret F dX9_weighs_75 (fun h => h)
      · refine jm_ite (fun c8 => ?_) (fun c8 => ?_)
        · refine jm_tsw (tgt := 76) F dX9_weighs_23 c8 (by decide) (by decide) rfl (by decide) ?_
          refine jm_iload_n (i := 3) F dX9_weighs_76 rfl rfl ?_
          refine jm_if_ne F dX9_weighs_77 (fun c9 => ?_) (fun c9 => ?_)
          · refine jm_iload_n (i := 2) F dX9_weighs_80 rfl rfl ?_
            refine jm_iconst F dX9_weighs_81 kc_5 ?_
            refine jm_iadd F dX9_weighs_82 ?_
            refine jm_goto F dX9_weighs_83 ?_
            exact jm_iret F dX9_weighs_89 (fun h => h)
          · refine jm_iload_n (i := 2) F dX9_weighs_86 rfl rfl ?_
            refine jm_iload_n (i := 3) F dX9_weighs_87 rfl rfl ?_
            refine jm_iadd F dX9_weighs_88 ?_
            exact jm_iret F dX9_weighs_89 (fun h => h)
        · refine jm_ite (fun c10 => ?_) (fun c10 => ?_)
          · refine jm_tsw (tgt := 90) F dX9_weighs_23 c10 (by decide) (by decide) rfl (by decide) ?_
            refine jm_aload_n (i := 0) F dX9_weighs_90 rfl rfl ?_
            refine jm_iload_n (i := 1) F dX9_weighs_91 rfl rfl ?_
            refine jm_callV (As := [.int p1]) (st := []) (rv := fun r => some (.int r)) (mm := fun _ => M) F dX9_weighs_92 qX9_113 rfl lo_X9 rfl (fun r h => kM_asNovel E hE h) rfl (Nat.le_of_ble_eq_true rfl) ⟨Nat.le_of_ble_eq_true rfl, Nat.le_of_ble_eq_true rfl⟩ (fun r11 => ?_)
            refine jm_iconst F dX9_weighs_95 kc_2 ?_
            refine jm_iadd F dX9_weighs_96 ?_
            refine jm_iload_n (i := 3) F dX9_weighs_97 rfl rfl ?_
            refine jm_iadd F dX9_weighs_98 ?_
            exact jm_iret F dX9_weighs_99 (fun h => h)
          · refine jm_ite (fun c12 => ?_) (fun c12 => ?_)
            · refine jm_tsw (tgt := 100) F dX9_weighs_23 c12 (by decide) (by decide) rfl (by decide) ?_
              refine jm_iload_n (i := 2) F dX9_weighs_100 rfl rfl ?_
              refine jm_aload_n (i := 0) F dX9_weighs_101 rfl rfl ?_
              refine jm_getR F dX9_weighs_102 fl_X9_37 lo_X9 rfl ?_
              refine jm_iload_n (i := 1) F dX9_weighs_105 rfl rfl ?_
              refine jm_iald F dX9_weighs_106 la_X9_10 (fun v13 => ?_)
              refine jm_iadd F dX9_weighs_107 ?_
              exact jm_iret F dX9_weighs_108 (fun h => h)
            · refine jm_ite (fun c14 => ?_) (fun c14 => ?_)
              · refine jm_tsw (tgt := 109) F dX9_weighs_23 c14 (by decide) (by decide) rfl (by decide) ?_
                refine jm_iload_n (i := 3) F dX9_weighs_109 rfl rfl ?_
                refine jm_bind (pcJ := 122) (lvJ := fun e15 => [some (.ref (jm_a E 0 0)), none, none, none]) (stJ := fun e15 => [.int e15]) (MJ := fun e15 => M) ?_ (fun e15 => ?_)
                · refine jm_if_ne F dX9_weighs_110 (fun c16 => ?_) (fun c16 => ?_)
                  · refine jm_iload_n (i := 2) F dX9_weighs_113 rfl rfl ?_
                    refine jm_iconst F dX9_weighs_114 kc_5 ?_
                    refine jm_iadd F dX9_weighs_115 ?_
                    refine jm_goto F dX9_weighs_116 ?_
                    exact jm_weakD F (lv' := [some (.ref (jm_a E 0 0)), none, none, none]) ⟨rfl, trivial⟩ (fun h => h)
                  · refine jm_iload_n (i := 2) F dX9_weighs_119 rfl rfl ?_
                    refine jm_iload_n (i := 3) F dX9_weighs_120 rfl rfl ?_
                    refine jm_iadd F dX9_weighs_121 ?_
                    exact jm_weakD F (lv' := [some (.ref (jm_a E 0 0)), none, none, none]) ⟨rfl, trivial⟩ (fun h => h)
                · refine jm_aload_n (i := 0) F dX9_weighs_122 rfl rfl ?_
                  refine jm_getI F dX9_weighs_123 fl_X9_116 lo_X9 rfl ?_
                  refine jm_iconst F dX9_weighs_126 kc_2 ?_
                  refine jm_irem F dX9_weighs_127 (fun v17 => ?_)
                  refine jm_iconst F dX9_weighs_128 kc_1 ?_
                  refine jm_icmp_ne F dX9_weighs_129 (fun c18 => ?_) (fun c18 => ?_)
                  · refine jm_iconst F dX9_weighs_132 kc_3 ?_
                    refine jm_goto F dX9_weighs_133 ?_
                    refine jm_iadd F dX9_weighs_137 ?_
                    exact jm_iret F dX9_weighs_138 (fun h => h)
                  · refine jm_iconst F dX9_weighs_136 kc_0 ?_
                    refine jm_iadd F dX9_weighs_137 ?_
                    exact jm_iret F dX9_weighs_138 (fun h => h)
              · refine jm_ite (fun c19 => ?_) (fun c19 => ?_)
                · refine jm_tsw (tgt := 139) F dX9_weighs_23 c19 (by decide) (by decide) rfl (by decide) ?_
                  refine jm_aload_n (i := 0) F dX9_weighs_139 rfl rfl ?_
                  refine jm_iload_n (i := 1) F dX9_weighs_140 rfl rfl ?_
                  refine jm_callV (As := [.int p1]) (st := []) (rv := fun r => some (.int r)) (mm := fun _ => M) F dX9_weighs_141 qX9_113 rfl lo_X9 rfl (fun r h => kM_asNovel E hE h) rfl (Nat.le_of_ble_eq_true rfl) ⟨Nat.le_of_ble_eq_true rfl, Nat.le_of_ble_eq_true rfl⟩ (fun r20 => ?_)
                  refine jm_iconst F dX9_weighs_144 kc_2 ?_
                  refine jm_iadd F dX9_weighs_145 ?_
                  refine jm_iload_n (i := 3) F dX9_weighs_146 rfl rfl ?_
                  refine jm_iadd F dX9_weighs_147 ?_
                  refine jm_bipush F dX9_weighs_148 kb_10 ?_
                  refine jm_icmp_ge F dX9_weighs_150 (fun c21 => ?_) (fun c21 => ?_)
                  · refine jm_aload_n (i := 0) F dX9_weighs_158 rfl rfl ?_
                    refine jm_iload_n (i := 1) F dX9_weighs_159 rfl rfl ?_
                    refine jm_callV (As := [.int p1]) (st := []) (rv := fun r => some (.int r)) (mm := fun _ => M) F dX9_weighs_160 qX9_113 rfl lo_X9 rfl (fun r h => kM_asNovel E hE h) rfl (Nat.le_of_ble_eq_true rfl) ⟨Nat.le_of_ble_eq_true rfl, Nat.le_of_ble_eq_true rfl⟩ (fun r22 => ?_)
                    refine jm_iconst F dX9_weighs_163 kc_2 ?_
                    refine jm_iadd F dX9_weighs_164 ?_
                    refine jm_iload_n (i := 3) F dX9_weighs_165 rfl rfl ?_
                    refine jm_iadd F dX9_weighs_166 ?_
                    exact jm_iret F dX9_weighs_167 (fun h => h)
                  · refine jm_bipush F dX9_weighs_153 kb_10 ?_
                    refine jm_goto F dX9_weighs_155 ?_
                    exact jm_iret F dX9_weighs_167 (fun h => h)
                · refine jm_tsd (tgt := 168) F dX9_weighs_23 (by
                      have e0 := jm_ne c5 (a := 1) (by decide)
                      have e1 := jm_ne c7 (a := 2) (by decide)
                      have e2 := jm_ne c8 (a := 3) (by decide)
                      have e3 := jm_ne c10 (a := 4) (by decide)
                      have e4 := jm_ne c12 (a := 5) (by decide)
                      have e5 := jm_ne c14 (a := 6) (by decide)
                      have e6 := jm_ne c19 (a := 7) (by decide)
                      omega) (by decide) ?_
                  refine jm_aload_n (i := 0) F dX9_weighs_168 rfl rfl ?_
                  refine jm_iload_n (i := 1) F dX9_weighs_169 rfl rfl ?_
                  refine jm_callV (As := [.int p1]) (st := []) (rv := fun r => some (.int r)) (mm := fun _ => M) F dX9_weighs_170 qX9_113 rfl lo_X9 rfl (fun r h => kM_asNovel E hE h) rfl (Nat.le_of_ble_eq_true rfl) ⟨Nat.le_of_ble_eq_true rfl, Nat.le_of_ble_eq_true rfl⟩ (fun r23 => ?_)
                  exact jm_iret F dX9_weighs_173 (fun h => h)
  exact G r h hz
theorem dX9_price_0 : jm_d cX9_price 0 (.aload_n 0) 1 1 := ⟨by decide +kernel, rfl⟩
theorem dX9_price_1 : jm_d cX9_price 1 (.getfield 25) 3 4 := ⟨by decide +kernel, rfl⟩
theorem dX9_price_4 : jm_d cX9_price 4 (.iload_n 1) 1 5 := ⟨by decide +kernel, rfl⟩
theorem dX9_price_5 : jm_d cX9_price 5 (.iaload) 1 6 := ⟨by decide +kernel, rfl⟩
theorem dX9_price_6 : jm_d cX9_price 6 (.istore_n 2) 1 7 := ⟨by decide +kernel, rfl⟩
theorem dX9_price_7 : jm_d cX9_price 7 (.aload_n 0) 1 8 := ⟨by decide +kernel, rfl⟩
theorem dX9_price_8 : jm_d cX9_price 8 (.getfield 22) 3 11 := ⟨by decide +kernel, rfl⟩
theorem dX9_price_11 : jm_d cX9_price 11 (.iload_n 1) 1 12 := ⟨by decide +kernel, rfl⟩
theorem dX9_price_12 : jm_d cX9_price 12 (.iaload) 1 13 := ⟨by decide +kernel, rfl⟩
theorem dX9_price_13 : decode cX9_price 13 = .ok (.tableswitch 76 1 7 #[43, 45, 51, 53, 57, 72, 74], 43) := by decide +kernel
theorem dX9_price_56 : jm_d cX9_price 56 (.iconst 2) 1 57 := ⟨by decide +kernel, rfl⟩
theorem dX9_price_57 : jm_d cX9_price 57 (.ireturn) 1 58 := ⟨by decide +kernel, rfl⟩
theorem dX9_price_58 : jm_d cX9_price 58 (.iconst 3) 1 59 := ⟨by decide +kernel, rfl⟩
theorem dX9_price_59 : jm_d cX9_price 59 (.iload_n 2) 1 60 := ⟨by decide +kernel, rfl⟩
theorem dX9_price_60 : jm_d cX9_price 60 (.imul) 1 61 := ⟨by decide +kernel, rfl⟩
theorem dX9_price_61 : jm_d cX9_price 61 (.iconst 3) 1 62 := ⟨by decide +kernel, rfl⟩
theorem dX9_price_62 : jm_d cX9_price 62 (.iadd) 1 63 := ⟨by decide +kernel, rfl⟩
theorem dX9_price_63 : jm_d cX9_price 63 (.ireturn) 1 64 := ⟨by decide +kernel, rfl⟩
theorem dX9_price_64 : jm_d cX9_price 64 (.iconst 1) 1 65 := ⟨by decide +kernel, rfl⟩
theorem dX9_price_65 : jm_d cX9_price 65 (.ireturn) 1 66 := ⟨by decide +kernel, rfl⟩
theorem dX9_price_66 : jm_d cX9_price 66 (.iload_n 2) 1 67 := ⟨by decide +kernel, rfl⟩
theorem dX9_price_67 : jm_d cX9_price 67 (.iconst 2) 1 68 := ⟨by decide +kernel, rfl⟩
theorem dX9_price_68 : jm_d cX9_price 68 (.iadd) 1 69 := ⟨by decide +kernel, rfl⟩
theorem dX9_price_69 : jm_d cX9_price 69 (.ireturn) 1 70 := ⟨by decide +kernel, rfl⟩
theorem dX9_price_70 : jm_d cX9_price 70 (.iload_n 2) 1 71 := ⟨by decide +kernel, rfl⟩
theorem dX9_price_71 : jm_d cX9_price 71 (.iconst 1) 1 72 := ⟨by decide +kernel, rfl⟩
theorem dX9_price_72 : jm_b cX9_price 72 (.if_icmp .ge) 75 79 := ⟨7, by decide +kernel, rfl, by decide⟩
theorem dX9_price_79 : jm_d cX9_price 79 (.iconst 3) 1 80 := ⟨by decide +kernel, rfl⟩
theorem dX9_price_80 : jm_d cX9_price 80 (.iload_n 2) 1 81 := ⟨by decide +kernel, rfl⟩
theorem dX9_price_81 : jm_d cX9_price 81 (.imul) 1 82 := ⟨by decide +kernel, rfl⟩
theorem dX9_price_82 : jm_d cX9_price 82 (.iconst 2) 1 83 := ⟨by decide +kernel, rfl⟩
theorem dX9_price_83 : jm_d cX9_price 83 (.isub) 1 84 := ⟨by decide +kernel, rfl⟩
theorem dX9_price_84 : jm_d cX9_price 84 (.ireturn) 1 85 := ⟨by decide +kernel, rfl⟩
theorem dX9_price_75 : jm_d cX9_price 75 (.iconst 0) 1 76 := ⟨by decide +kernel, rfl⟩
theorem dX9_price_76 : jm_b cX9_price 76 .goto 79 84 := ⟨8, by decide +kernel, rfl, by decide⟩
theorem dX9_price_85 : jm_d cX9_price 85 (.iconst 5) 1 86 := ⟨by decide +kernel, rfl⟩
theorem dX9_price_86 : jm_d cX9_price 86 (.ireturn) 1 87 := ⟨by decide +kernel, rfl⟩
theorem dX9_price_87 : jm_d cX9_price 87 (.iconst 0) 1 88 := ⟨by decide +kernel, rfl⟩
theorem dX9_price_88 : jm_d cX9_price 88 (.ireturn) 1 89 := ⟨by decide +kernel, rfl⟩
theorem dX9_price_89 : jm_d cX9_price 89 (.iload_n 2) 1 90 := ⟨by decide +kernel, rfl⟩
theorem dX9_price_90 : jm_d cX9_price 90 (.iconst 1) 1 91 := ⟨by decide +kernel, rfl⟩
theorem dX9_price_91 : jm_d cX9_price 91 (.iadd) 1 92 := ⟨by decide +kernel, rfl⟩
theorem dX9_price_92 : jm_d cX9_price 92 (.ireturn) 1 93 := ⟨by decide +kernel, rfl⟩
set_option maxHeartbeats 4000000 in
set_option maxRecDepth 100000 in
theorem kM_price (E : jm_Ev) (hE : jm_dj E jm_LM) {M : jm_M} {p1 : Int32}  {r : Int32} (h : sM_price M p1 = some r) : jm_Ct E jm_LM yX9_price cX9_price 3 (some .int) 0 0 [.ref (jm_a E 0 0), .int p1] M (some (.int r)) M := by
  refine jm_enter (lv := [some (.ref (jm_a E 0 0)), some (.int p1), none]) hE (by decide) (Nat.le_of_ble_eq_true rfl) rfl ?_
  intro z w F hz
  have G : jm_G w 0 [some (.ref (jm_a E 0 0)), some (.int p1), none] [] M (sM_price M p1) (fun e => z (some (.int e)) M) := by
    unfold sM_price
    refine jm_aload_n (i := 0) F dX9_price_0 rfl rfl ?_
    refine jm_getR F dX9_price_1 fl_X9_25 lo_X9 rfl ?_
    refine jm_iload_n (i := 1) F dX9_price_4 rfl rfl ?_
    refine jm_iald F dX9_price_5 la_X9_6 (fun v1 => ?_)
    refine jm_istore_n (i := 2) (lv' := [some (.ref (jm_a E 0 0)), some (.int p1), some (.int v1)]) F dX9_price_6 rfl (by decide) rfl rfl ?_
    refine jm_aload_n (i := 0) F dX9_price_7 rfl rfl ?_
    refine jm_getR F dX9_price_8 fl_X9_22 lo_X9 rfl ?_
    refine jm_iload_n (i := 1) F dX9_price_11 rfl rfl ?_
    refine jm_iald F dX9_price_12 la_X9_5 (fun v2 => ?_)
    refine jm_ite (fun c3 => ?_) (fun c3 => ?_)
    · refine jm_tsw (tgt := 56) F dX9_price_13 c3 (by decide) (by decide) rfl (by decide) ?_
      refine jm_iconst F dX9_price_56 kc_2 ?_
      exact jm_iret F dX9_price_57 (fun h => h)
    · refine jm_ite (fun c4 => ?_) (fun c4 => ?_)
      · refine jm_tsw (tgt := 58) F dX9_price_13 c4 (by decide) (by decide) rfl (by decide) ?_
        refine jm_iconst F dX9_price_58 kc_3 ?_
        refine jm_iload_n (i := 2) F dX9_price_59 rfl rfl ?_
        refine jm_imul F dX9_price_60 ?_
        refine jm_iconst F dX9_price_61 kc_3 ?_
        refine jm_iadd F dX9_price_62 ?_
        exact jm_iret F dX9_price_63 (fun h => h)
      · refine jm_ite (fun c5 => ?_) (fun c5 => ?_)
        · refine jm_tsw (tgt := 64) F dX9_price_13 c5 (by decide) (by decide) rfl (by decide) ?_
          refine jm_iconst F dX9_price_64 kc_1 ?_
          exact jm_iret F dX9_price_65 (fun h => h)
        · refine jm_ite (fun c6 => ?_) (fun c6 => ?_)
          · refine jm_tsw (tgt := 66) F dX9_price_13 c6 (by decide) (by decide) rfl (by decide) ?_
            refine jm_iload_n (i := 2) F dX9_price_66 rfl rfl ?_
            refine jm_iconst F dX9_price_67 kc_2 ?_
            refine jm_iadd F dX9_price_68 ?_
            exact jm_iret F dX9_price_69 (fun h => h)
          · refine jm_ite (fun c7 => ?_) (fun c7 => ?_)
            · refine jm_tsw (tgt := 70) F dX9_price_13 c7 (by decide) (by decide) rfl (by decide) ?_
              refine jm_iload_n (i := 2) F dX9_price_70 rfl rfl ?_
              refine jm_iconst F dX9_price_71 kc_1 ?_
              refine jm_icmp_ge F dX9_price_72 (fun c8 => ?_) (fun c8 => ?_)
              · refine jm_iconst F dX9_price_79 kc_3 ?_
                refine jm_iload_n (i := 2) F dX9_price_80 rfl rfl ?_
                refine jm_imul F dX9_price_81 ?_
                refine jm_iconst F dX9_price_82 kc_2 ?_
                refine jm_isub F dX9_price_83 ?_
                exact jm_iret F dX9_price_84 (fun h => h)
              · refine jm_iconst F dX9_price_75 kc_0 ?_
                refine jm_goto F dX9_price_76 ?_
                exact jm_iret F dX9_price_84 (fun h => h)
            · refine jm_ite (fun c9 => ?_) (fun c9 => ?_)
              · refine jm_tsw (tgt := 85) F dX9_price_13 c9 (by decide) (by decide) rfl (by decide) ?_
                refine jm_iconst F dX9_price_85 kc_5 ?_
                exact jm_iret F dX9_price_86 (fun h => h)
              · refine jm_ite (fun c10 => ?_) (fun c10 => ?_)
                · refine jm_tsw (tgt := 87) F dX9_price_13 c10 (by decide) (by decide) rfl (by decide) ?_
                  refine jm_iconst F dX9_price_87 kc_0 ?_
                  exact jm_iret F dX9_price_88 (fun h => h)
                · refine jm_tsd (tgt := 89) F dX9_price_13 (by
                      have e0 := jm_ne c3 (a := 1) (by decide)
                      have e1 := jm_ne c4 (a := 2) (by decide)
                      have e2 := jm_ne c5 (a := 3) (by decide)
                      have e3 := jm_ne c6 (a := 4) (by decide)
                      have e4 := jm_ne c7 (a := 5) (by decide)
                      have e5 := jm_ne c9 (a := 6) (by decide)
                      have e6 := jm_ne c10 (a := 7) (by decide)
                      omega) (by decide) ?_
                  refine jm_iload_n (i := 2) F dX9_price_89 rfl rfl ?_
                  refine jm_iconst F dX9_price_90 kc_1 ?_
                  refine jm_iadd F dX9_price_91 ?_
                  exact jm_iret F dX9_price_92 (fun h => h)
  exact G r h hz
theorem dX9_byStep_0 : jm_d cX9_byStep 0 (.aload_n 0) 1 1 := ⟨by decide +kernel, rfl⟩
theorem dX9_byStep_1 : jm_d cX9_byStep 1 (.getfield 46) 3 4 := ⟨by decide +kernel, rfl⟩
theorem dX9_byStep_4 : jm_d cX9_byStep 4 (.iload_n 1) 1 5 := ⟨by decide +kernel, rfl⟩
theorem dX9_byStep_5 : jm_d cX9_byStep 5 (.iaload) 1 6 := ⟨by decide +kernel, rfl⟩
theorem dX9_byStep_6 : jm_d cX9_byStep 6 (.istore 4) 2 8 := ⟨by decide +kernel, rfl⟩
theorem dX9_byStep_8 : jm_d cX9_byStep 8 (.aload_n 0) 1 9 := ⟨by decide +kernel, rfl⟩
theorem dX9_byStep_9 : jm_d cX9_byStep 9 (.getfield 43) 3 12 := ⟨by decide +kernel, rfl⟩
theorem dX9_byStep_12 : jm_d cX9_byStep 12 (.iload_n 1) 1 13 := ⟨by decide +kernel, rfl⟩
theorem dX9_byStep_13 : jm_d cX9_byStep 13 (.iaload) 1 14 := ⟨by decide +kernel, rfl⟩
theorem dX9_byStep_14 : decode cX9_byStep 14 = .ok (.tableswitch 114 0 6 #[42, 47, 62, 75, 87, 100, 110], 42) := by decide +kernel
theorem dX9_byStep_56 : jm_d cX9_byStep 56 (.iload_n 2) 1 57 := ⟨by decide +kernel, rfl⟩
theorem dX9_byStep_57 : jm_d cX9_byStep 57 (.iload 4) 2 59 := ⟨by decide +kernel, rfl⟩
theorem dX9_byStep_59 : jm_d cX9_byStep 59 (.iadd) 1 60 := ⟨by decide +kernel, rfl⟩
theorem dX9_byStep_60 : jm_d cX9_byStep 60 (.ireturn) 1 61 := ⟨by decide +kernel, rfl⟩
theorem dX9_byStep_61 : jm_d cX9_byStep 61 (.iload_n 2) 1 62 := ⟨by decide +kernel, rfl⟩
theorem dX9_byStep_62 : jm_d cX9_byStep 62 (.iload 4) 2 64 := ⟨by decide +kernel, rfl⟩
theorem dX9_byStep_64 : jm_b cX9_byStep 64 (.if_icmp .le) 67 74 := ⟨10, by decide +kernel, rfl, by decide⟩
theorem dX9_byStep_74 : jm_d cX9_byStep 74 (.iconst 0) 1 75 := ⟨by decide +kernel, rfl⟩
theorem dX9_byStep_75 : jm_d cX9_byStep 75 (.ireturn) 1 76 := ⟨by decide +kernel, rfl⟩
theorem dX9_byStep_67 : jm_d cX9_byStep 67 (.iload_n 2) 1 68 := ⟨by decide +kernel, rfl⟩
theorem dX9_byStep_68 : jm_d cX9_byStep 68 (.iload 4) 2 70 := ⟨by decide +kernel, rfl⟩
theorem dX9_byStep_70 : jm_d cX9_byStep 70 (.isub) 1 71 := ⟨by decide +kernel, rfl⟩
theorem dX9_byStep_71 : jm_b cX9_byStep 71 .goto 74 75 := ⟨4, by decide +kernel, rfl, by decide⟩
theorem dX9_byStep_76 : jm_d cX9_byStep 76 (.iload_n 2) 1 77 := ⟨by decide +kernel, rfl⟩
theorem dX9_byStep_77 : jm_d cX9_byStep 77 (.iload 4) 2 79 := ⟨by decide +kernel, rfl⟩
theorem dX9_byStep_79 : jm_b cX9_byStep 79 (.if_icmp .ge) 82 86 := ⟨7, by decide +kernel, rfl, by decide⟩
theorem dX9_byStep_86 : jm_d cX9_byStep 86 (.iload 4) 2 88 := ⟨by decide +kernel, rfl⟩
theorem dX9_byStep_88 : jm_d cX9_byStep 88 (.ireturn) 1 89 := ⟨by decide +kernel, rfl⟩
theorem dX9_byStep_82 : jm_d cX9_byStep 82 (.iload_n 2) 1 83 := ⟨by decide +kernel, rfl⟩
theorem dX9_byStep_83 : jm_b cX9_byStep 83 .goto 86 88 := ⟨5, by decide +kernel, rfl, by decide⟩
theorem dX9_byStep_89 : jm_d cX9_byStep 89 (.iload_n 2) 1 90 := ⟨by decide +kernel, rfl⟩
theorem dX9_byStep_90 : jm_d cX9_byStep 90 (.iload 4) 2 92 := ⟨by decide +kernel, rfl⟩
theorem dX9_byStep_92 : jm_b cX9_byStep 92 (.if_icmp .ge) 95 99 := ⟨7, by decide +kernel, rfl, by decide⟩
theorem dX9_byStep_99 : jm_d cX9_byStep 99 (.iload_n 2) 1 100 := ⟨by decide +kernel, rfl⟩
theorem dX9_byStep_100 : jm_d cX9_byStep 100 (.ireturn) 1 101 := ⟨by decide +kernel, rfl⟩
theorem dX9_byStep_95 : jm_d cX9_byStep 95 (.iconst 0) 1 96 := ⟨by decide +kernel, rfl⟩
theorem dX9_byStep_96 : jm_b cX9_byStep 96 .goto 99 100 := ⟨4, by decide +kernel, rfl, by decide⟩
theorem dX9_byStep_101 : jm_d cX9_byStep 101 (.iload_n 3) 1 102 := ⟨by decide +kernel, rfl⟩
theorem dX9_byStep_102 : jm_d cX9_byStep 102 (.iconst 2) 1 103 := ⟨by decide +kernel, rfl⟩
theorem dX9_byStep_103 : jm_b cX9_byStep 103 (.if_icmp .ne) 106 112 := ⟨9, by decide +kernel, rfl, by decide⟩
theorem dX9_byStep_106 : jm_d cX9_byStep 106 (.iconst 2) 1 107 := ⟨by decide +kernel, rfl⟩
theorem dX9_byStep_107 : jm_d cX9_byStep 107 (.iload_n 2) 1 108 := ⟨by decide +kernel, rfl⟩
theorem dX9_byStep_108 : jm_d cX9_byStep 108 (.imul) 1 109 := ⟨by decide +kernel, rfl⟩
theorem dX9_byStep_109 : jm_b cX9_byStep 109 .goto 112 113 := ⟨4, by decide +kernel, rfl, by decide⟩
theorem dX9_byStep_113 : jm_d cX9_byStep 113 (.ireturn) 1 114 := ⟨by decide +kernel, rfl⟩
theorem dX9_byStep_112 : jm_d cX9_byStep 112 (.iload_n 2) 1 113 := ⟨by decide +kernel, rfl⟩
theorem dX9_byStep_114 : jm_d cX9_byStep 114 (.iload_n 3) 1 115 := ⟨by decide +kernel, rfl⟩
theorem dX9_byStep_115 : jm_b cX9_byStep 115 (.ifCond .ne) 118 122 := ⟨7, by decide +kernel, rfl, by decide⟩
theorem dX9_byStep_118 : jm_d cX9_byStep 118 (.iconst 0) 1 119 := ⟨by decide +kernel, rfl⟩
theorem dX9_byStep_119 : jm_b cX9_byStep 119 .goto 122 123 := ⟨4, by decide +kernel, rfl, by decide⟩
theorem dX9_byStep_123 : jm_d cX9_byStep 123 (.ireturn) 1 124 := ⟨by decide +kernel, rfl⟩
theorem dX9_byStep_122 : jm_d cX9_byStep 122 (.iload_n 2) 1 123 := ⟨by decide +kernel, rfl⟩
theorem dX9_byStep_124 : jm_d cX9_byStep 124 (.iload_n 2) 1 125 := ⟨by decide +kernel, rfl⟩
theorem dX9_byStep_125 : jm_d cX9_byStep 125 (.iconst 2) 1 126 := ⟨by decide +kernel, rfl⟩
theorem dX9_byStep_126 : jm_d cX9_byStep 126 (.idiv) 1 127 := ⟨by decide +kernel, rfl⟩
theorem dX9_byStep_127 : jm_d cX9_byStep 127 (.ireturn) 1 128 := ⟨by decide +kernel, rfl⟩
theorem dX9_byStep_128 : jm_d cX9_byStep 128 (.aload_n 0) 1 129 := ⟨by decide +kernel, rfl⟩
theorem dX9_byStep_129 : jm_d cX9_byStep 129 (.getfield 116) 3 132 := ⟨by decide +kernel, rfl⟩
theorem dX9_byStep_132 : jm_d cX9_byStep 132 (.iconst 2) 1 133 := ⟨by decide +kernel, rfl⟩
theorem dX9_byStep_133 : jm_d cX9_byStep 133 (.irem) 1 134 := ⟨by decide +kernel, rfl⟩
theorem dX9_byStep_134 : jm_d cX9_byStep 134 (.iconst 1) 1 135 := ⟨by decide +kernel, rfl⟩
theorem dX9_byStep_135 : jm_b cX9_byStep 135 (.if_icmp .ne) 138 144 := ⟨9, by decide +kernel, rfl, by decide⟩
theorem dX9_byStep_138 : jm_d cX9_byStep 138 (.iload_n 2) 1 139 := ⟨by decide +kernel, rfl⟩
theorem dX9_byStep_139 : jm_d cX9_byStep 139 (.iconst 1) 1 140 := ⟨by decide +kernel, rfl⟩
theorem dX9_byStep_140 : jm_d cX9_byStep 140 (.iadd) 1 141 := ⟨by decide +kernel, rfl⟩
theorem dX9_byStep_141 : jm_b cX9_byStep 141 .goto 144 145 := ⟨4, by decide +kernel, rfl, by decide⟩
theorem dX9_byStep_145 : jm_d cX9_byStep 145 (.ireturn) 1 146 := ⟨by decide +kernel, rfl⟩
theorem dX9_byStep_144 : jm_d cX9_byStep 144 (.iload_n 2) 1 145 := ⟨by decide +kernel, rfl⟩
set_option maxHeartbeats 4000000 in
set_option maxRecDepth 100000 in
theorem kM_byStep (E : jm_Ev) (hE : jm_dj E jm_LM) {M : jm_M} {p1 : Int32} {p2 : Int32} {p3 : Int32}  {r : Int32} (h : sM_byStep M p1 p2 p3 = some r) : jm_Ct E jm_LM yX9_byStep cX9_byStep 5 (some .int) 0 0 [.ref (jm_a E 0 0), .int p1, .int p2, .int p3] M (some (.int r)) M := by
  refine jm_enter (lv := [some (.ref (jm_a E 0 0)), some (.int p1), some (.int p2), some (.int p3), none]) hE (by decide) (Nat.le_of_ble_eq_true rfl) rfl ?_
  intro z w F hz
  have G : jm_G w 0 [some (.ref (jm_a E 0 0)), some (.int p1), some (.int p2), some (.int p3), none] [] M (sM_byStep M p1 p2 p3) (fun e => z (some (.int e)) M) := by
    unfold sM_byStep
    refine jm_aload_n (i := 0) F dX9_byStep_0 rfl rfl ?_
    refine jm_getR F dX9_byStep_1 fl_X9_46 lo_X9 rfl ?_
    refine jm_iload_n (i := 1) F dX9_byStep_4 rfl rfl ?_
    refine jm_iald F dX9_byStep_5 la_X9_13 (fun v1 => ?_)
    refine jm_istore (i := 4) (lv' := [some (.ref (jm_a E 0 0)), some (.int p1), some (.int p2), some (.int p3), some (.int v1)]) F dX9_byStep_6 (by decide) rfl rfl ?_
    refine jm_aload_n (i := 0) F dX9_byStep_8 rfl rfl ?_
    refine jm_getR F dX9_byStep_9 fl_X9_43 lo_X9 rfl ?_
    refine jm_iload_n (i := 1) F dX9_byStep_12 rfl rfl ?_
    refine jm_iald F dX9_byStep_13 la_X9_12 (fun v2 => ?_)
    refine jm_ite (fun c3 => ?_) (fun c3 => ?_)
    · refine jm_tsw (tgt := 56) F dX9_byStep_14 c3 (by decide) (by decide) rfl (by decide) ?_
      refine jm_iload_n (i := 2) F dX9_byStep_56 rfl rfl ?_
      refine jm_iload F dX9_byStep_57 rfl ?_
      refine jm_iadd F dX9_byStep_59 ?_
      exact jm_iret F dX9_byStep_60 (fun h => h)
    · refine jm_ite (fun c4 => ?_) (fun c4 => ?_)
      · refine jm_tsw (tgt := 61) F dX9_byStep_14 c4 (by decide) (by decide) rfl (by decide) ?_
        refine jm_iload_n (i := 2) F dX9_byStep_61 rfl rfl ?_
        refine jm_iload F dX9_byStep_62 rfl ?_
        refine jm_icmp_le F dX9_byStep_64 (fun c5 => ?_) (fun c5 => ?_)
        · refine jm_iconst F dX9_byStep_74 kc_0 ?_
          exact jm_iret F dX9_byStep_75 (fun h => h)
        · refine jm_iload_n (i := 2) F dX9_byStep_67 rfl rfl ?_
          refine jm_iload F dX9_byStep_68 rfl ?_
          refine jm_isub F dX9_byStep_70 ?_
          refine jm_goto F dX9_byStep_71 ?_
          exact jm_iret F dX9_byStep_75 (fun h => h)
      · refine jm_ite (fun c6 => ?_) (fun c6 => ?_)
        · refine jm_tsw (tgt := 76) F dX9_byStep_14 c6 (by decide) (by decide) rfl (by decide) ?_
          refine jm_iload_n (i := 2) F dX9_byStep_76 rfl rfl ?_
          refine jm_iload F dX9_byStep_77 rfl ?_
          refine jm_icmp_ge F dX9_byStep_79 (fun c7 => ?_) (fun c7 => ?_)
          · refine jm_iload F dX9_byStep_86 rfl ?_
            exact jm_iret F dX9_byStep_88 (fun h => h)
          · refine jm_iload_n (i := 2) F dX9_byStep_82 rfl rfl ?_
            refine jm_goto F dX9_byStep_83 ?_
            exact jm_iret F dX9_byStep_88 (fun h => h)
        · refine jm_ite (fun c8 => ?_) (fun c8 => ?_)
          · refine jm_tsw (tgt := 89) F dX9_byStep_14 c8 (by decide) (by decide) rfl (by decide) ?_
            refine jm_iload_n (i := 2) F dX9_byStep_89 rfl rfl ?_
            refine jm_iload F dX9_byStep_90 rfl ?_
            refine jm_icmp_ge F dX9_byStep_92 (fun c9 => ?_) (fun c9 => ?_)
            · refine jm_iload_n (i := 2) F dX9_byStep_99 rfl rfl ?_
              exact jm_iret F dX9_byStep_100 (fun h => h)
            · refine jm_iconst F dX9_byStep_95 kc_0 ?_
              refine jm_goto F dX9_byStep_96 ?_
              exact jm_iret F dX9_byStep_100 (fun h => h)
          · refine jm_ite (fun c10 => ?_) (fun c10 => ?_)
            · refine jm_tsw (tgt := 101) F dX9_byStep_14 c10 (by decide) (by decide) rfl (by decide) ?_
              refine jm_iload_n (i := 3) F dX9_byStep_101 rfl rfl ?_
              refine jm_iconst F dX9_byStep_102 kc_2 ?_
              refine jm_icmp_ne F dX9_byStep_103 (fun c11 => ?_) (fun c11 => ?_)
              · refine jm_iconst F dX9_byStep_106 kc_2 ?_
                refine jm_iload_n (i := 2) F dX9_byStep_107 rfl rfl ?_
                refine jm_imul F dX9_byStep_108 ?_
                refine jm_goto F dX9_byStep_109 ?_
                exact jm_iret F dX9_byStep_113 (fun h => h)
              · refine jm_iload_n (i := 2) F dX9_byStep_112 rfl rfl ?_
                exact jm_iret F dX9_byStep_113 (fun h => h)
            · refine jm_ite (fun c12 => ?_) (fun c12 => ?_)
              · refine jm_tsw (tgt := 114) F dX9_byStep_14 c12 (by decide) (by decide) rfl (by decide) ?_
                refine jm_iload_n (i := 3) F dX9_byStep_114 rfl rfl ?_
                refine jm_if_ne F dX9_byStep_115 (fun c13 => ?_) (fun c13 => ?_)
                · refine jm_iconst F dX9_byStep_118 kc_0 ?_
                  refine jm_goto F dX9_byStep_119 ?_
                  exact jm_iret F dX9_byStep_123 (fun h => h)
                · refine jm_iload_n (i := 2) F dX9_byStep_122 rfl rfl ?_
                  exact jm_iret F dX9_byStep_123 (fun h => h)
              · refine jm_ite (fun c14 => ?_) (fun c14 => ?_)
                · refine jm_tsw (tgt := 124) F dX9_byStep_14 c14 (by decide) (by decide) rfl (by decide) ?_
                  refine jm_iload_n (i := 2) F dX9_byStep_124 rfl rfl ?_
                  refine jm_iconst F dX9_byStep_125 kc_2 ?_
                  refine jm_idiv F dX9_byStep_126 (fun v15 => ?_)
                  exact jm_iret F dX9_byStep_127 (fun h => h)
                · refine jm_tsd (tgt := 128) F dX9_byStep_14 (by
                      have e0 := jm_ne c3 (a := 0) (by decide)
                      have e1 := jm_ne c4 (a := 1) (by decide)
                      have e2 := jm_ne c6 (a := 2) (by decide)
                      have e3 := jm_ne c8 (a := 3) (by decide)
                      have e4 := jm_ne c10 (a := 4) (by decide)
                      have e5 := jm_ne c12 (a := 5) (by decide)
                      have e6 := jm_ne c14 (a := 6) (by decide)
                      omega) (by decide) ?_
                  refine jm_aload_n (i := 0) F dX9_byStep_128 rfl rfl ?_
                  refine jm_getI F dX9_byStep_129 fl_X9_116 lo_X9 rfl ?_
                  refine jm_iconst F dX9_byStep_132 kc_2 ?_
                  refine jm_irem F dX9_byStep_133 (fun v16 => ?_)
                  refine jm_iconst F dX9_byStep_134 kc_1 ?_
                  refine jm_icmp_ne F dX9_byStep_135 (fun c17 => ?_) (fun c17 => ?_)
                  · refine jm_iload_n (i := 2) F dX9_byStep_138 rfl rfl ?_
                    refine jm_iconst F dX9_byStep_139 kc_1 ?_
                    refine jm_iadd F dX9_byStep_140 ?_
                    refine jm_goto F dX9_byStep_141 ?_
                    exact jm_iret F dX9_byStep_145 (fun h => h)
                  · refine jm_iload_n (i := 2) F dX9_byStep_144 rfl rfl ?_
                    exact jm_iret F dX9_byStep_145 (fun h => h)
  exact G r h hz
theorem dX9_comesTo_0 : jm_d cX9_comesTo 0 (.aload_n 0) 1 1 := ⟨by decide +kernel, rfl⟩
theorem dX9_comesTo_1 : jm_d cX9_comesTo 1 (.getfield 34) 3 4 := ⟨by decide +kernel, rfl⟩
theorem dX9_comesTo_4 : jm_d cX9_comesTo 4 (.iload_n 1) 1 5 := ⟨by decide +kernel, rfl⟩
theorem dX9_comesTo_5 : jm_d cX9_comesTo 5 (.iaload) 1 6 := ⟨by decide +kernel, rfl⟩
theorem dX9_comesTo_6 : jm_d cX9_comesTo 6 (.iload_n 2) 1 7 := ⟨by decide +kernel, rfl⟩
theorem dX9_comesTo_7 : jm_d cX9_comesTo 7 (.ishr) 1 8 := ⟨by decide +kernel, rfl⟩
theorem dX9_comesTo_8 : jm_d cX9_comesTo 8 (.iconst 1) 1 9 := ⟨by decide +kernel, rfl⟩
theorem dX9_comesTo_9 : jm_d cX9_comesTo 9 (.iand) 1 10 := ⟨by decide +kernel, rfl⟩
theorem dX9_comesTo_10 : jm_d cX9_comesTo 10 (.aload_n 0) 1 11 := ⟨by decide +kernel, rfl⟩
theorem dX9_comesTo_11 : jm_d cX9_comesTo 11 (.getfield 34) 3 14 := ⟨by decide +kernel, rfl⟩
theorem dX9_comesTo_14 : jm_d cX9_comesTo 14 (.iload_n 1) 1 15 := ⟨by decide +kernel, rfl⟩
theorem dX9_comesTo_15 : jm_d cX9_comesTo 15 (.iaload) 1 16 := ⟨by decide +kernel, rfl⟩
theorem dX9_comesTo_16 : jm_d cX9_comesTo 16 (.iload_n 3) 1 17 := ⟨by decide +kernel, rfl⟩
theorem dX9_comesTo_17 : jm_d cX9_comesTo 17 (.ishr) 1 18 := ⟨by decide +kernel, rfl⟩
theorem dX9_comesTo_18 : jm_d cX9_comesTo 18 (.iconst 1) 1 19 := ⟨by decide +kernel, rfl⟩
theorem dX9_comesTo_19 : jm_d cX9_comesTo 19 (.iand) 1 20 := ⟨by decide +kernel, rfl⟩
theorem dX9_comesTo_20 : jm_d cX9_comesTo 20 (.iadd) 1 21 := ⟨by decide +kernel, rfl⟩
theorem dX9_comesTo_21 : jm_d cX9_comesTo 21 (.istore 4) 2 23 := ⟨by decide +kernel, rfl⟩
theorem dX9_comesTo_23 : jm_d cX9_comesTo 23 (.aload_n 0) 1 24 := ⟨by decide +kernel, rfl⟩
theorem dX9_comesTo_24 : jm_d cX9_comesTo 24 (.iload_n 1) 1 25 := ⟨by decide +kernel, rfl⟩
theorem dX9_comesTo_25 : jm_d cX9_comesTo 25 (.invokevirtual 119) 3 28 := ⟨by decide +kernel, rfl⟩
theorem dX9_comesTo_28 : jm_d cX9_comesTo 28 (.istore 5) 2 30 := ⟨by decide +kernel, rfl⟩
theorem dX9_comesTo_30 : jm_d cX9_comesTo 30 (.iconst 0) 1 31 := ⟨by decide +kernel, rfl⟩
theorem dX9_comesTo_31 : jm_d cX9_comesTo 31 (.istore 6) 2 33 := ⟨by decide +kernel, rfl⟩
theorem dX9_comesTo_33 : jm_d cX9_comesTo 33 (.iload 6) 2 35 := ⟨by decide +kernel, rfl⟩
theorem dX9_comesTo_35 : jm_d cX9_comesTo 35 (.aload_n 0) 1 36 := ⟨by decide +kernel, rfl⟩
theorem dX9_comesTo_36 : jm_d cX9_comesTo 36 (.getfield 122) 3 39 := ⟨by decide +kernel, rfl⟩
theorem dX9_comesTo_39 : jm_b cX9_comesTo 39 (.if_icmp .ge) 42 60 := ⟨21, by decide +kernel, rfl, by decide⟩
theorem dX9_comesTo_42 : jm_d cX9_comesTo 42 (.aload_n 0) 1 43 := ⟨by decide +kernel, rfl⟩
theorem dX9_comesTo_43 : jm_d cX9_comesTo 43 (.iload 6) 2 45 := ⟨by decide +kernel, rfl⟩
theorem dX9_comesTo_45 : jm_d cX9_comesTo 45 (.iload 5) 2 47 := ⟨by decide +kernel, rfl⟩
theorem dX9_comesTo_47 : jm_d cX9_comesTo 47 (.iload 4) 2 49 := ⟨by decide +kernel, rfl⟩
theorem dX9_comesTo_49 : jm_d cX9_comesTo 49 (.invokevirtual 125) 3 52 := ⟨by decide +kernel, rfl⟩
theorem dX9_comesTo_52 : jm_d cX9_comesTo 52 (.istore 5) 2 54 := ⟨by decide +kernel, rfl⟩
theorem dX9_comesTo_54 : jm_d cX9_comesTo 54 (.iinc 6 1) 3 57 := ⟨by decide +kernel, rfl⟩
theorem dX9_comesTo_57 : jm_b cX9_comesTo 57 .goto 60 33 := ⟨(-24), by decide +kernel, rfl, by decide⟩
theorem dX9_comesTo_60 : jm_d cX9_comesTo 60 (.iload 5) 2 62 := ⟨by decide +kernel, rfl⟩
theorem dX9_comesTo_62 : jm_d cX9_comesTo 62 (.ireturn) 1 63 := ⟨by decide +kernel, rfl⟩
set_option maxHeartbeats 4000000 in
set_option maxRecDepth 100000 in
theorem kM_comesTo (E : jm_Ev) (hE : jm_dj E jm_LM) {M : jm_M} {p1 : Int32} {p2 : Int32} {p3 : Int32}  {r : Int32} (h : sM_comesTo M p1 p2 p3 = some r) : jm_Ct E jm_LM yX9_comesTo cX9_comesTo 7 (some .int) 3 67 [.ref (jm_a E 0 0), .int p1, .int p2, .int p3] M (some (.int r)) M := by
  refine jm_enter (lv := [some (.ref (jm_a E 0 0)), some (.int p1), some (.int p2), some (.int p3), none, none, none]) hE (by decide) (Nat.le_of_ble_eq_true rfl) rfl ?_
  intro z w F hz
  have G : jm_G w 0 [some (.ref (jm_a E 0 0)), some (.int p1), some (.int p2), some (.int p3), none, none, none] [] M (sM_comesTo M p1 p2 p3) (fun e => z (some (.int e)) M) := by
    unfold sM_comesTo
    refine jm_aload_n (i := 0) F dX9_comesTo_0 rfl rfl ?_
    refine jm_getR F dX9_comesTo_1 fl_X9_34 lo_X9 rfl ?_
    refine jm_iload_n (i := 1) F dX9_comesTo_4 rfl rfl ?_
    refine jm_iald F dX9_comesTo_5 la_X9_9 (fun v1 => ?_)
    refine jm_iload_n (i := 2) F dX9_comesTo_6 rfl rfl ?_
    refine jm_ishr F dX9_comesTo_7 ?_
    refine jm_iconst F dX9_comesTo_8 kc_1 ?_
    refine jm_iand F dX9_comesTo_9 ?_
    refine jm_aload_n (i := 0) F dX9_comesTo_10 rfl rfl ?_
    refine jm_getR F dX9_comesTo_11 fl_X9_34 lo_X9 rfl ?_
    refine jm_iload_n (i := 1) F dX9_comesTo_14 rfl rfl ?_
    refine jm_iald F dX9_comesTo_15 la_X9_9 (fun v2 => ?_)
    refine jm_iload_n (i := 3) F dX9_comesTo_16 rfl rfl ?_
    refine jm_ishr F dX9_comesTo_17 ?_
    refine jm_iconst F dX9_comesTo_18 kc_1 ?_
    refine jm_iand F dX9_comesTo_19 ?_
    refine jm_iadd F dX9_comesTo_20 ?_
    refine jm_nameI (f := fun x3 => [.int x3]) (fun x3 => ?_) rfl
    refine jm_istore (i := 4) (lv' := [some (.ref (jm_a E 0 0)), some (.int p1), some (.int p2), some (.int p3), some (.int x3), none, none]) F dX9_comesTo_21 (by decide) rfl rfl ?_
    refine jm_aload_n (i := 0) F dX9_comesTo_23 rfl rfl ?_
    refine jm_iload_n (i := 1) F dX9_comesTo_24 rfl rfl ?_
    refine jm_callV (As := [.int p1]) (st := []) (rv := fun r => some (.int r)) (mm := fun _ => M) F dX9_comesTo_25 qX9_119 rfl lo_X9 rfl (fun r h => kM_weighs E hE h) rfl (Nat.le_of_ble_eq_true rfl) ⟨Nat.le_of_ble_eq_true rfl, Nat.le_of_ble_eq_true rfl⟩ (fun r4 => ?_)
    refine jm_istore (i := 5) (lv' := [some (.ref (jm_a E 0 0)), some (.int p1), some (.int p2), some (.int p3), some (.int x3), some (.int r4), none]) F dX9_comesTo_28 (by decide) rfl rfl ?_
    refine jm_iconst F dX9_comesTo_30 kc_0 ?_
    refine jm_istore (i := 6) (lv' := [some (.ref (jm_a E 0 0)), some (.int p1), some (.int p2), some (.int p3), some (.int x3), some (.int r4), some (.int 0)]) F dX9_comesTo_31 (by decide) rfl rfl ?_
    refine jm_bind (pcJ := 60) (lvJ := fun e8 => [none, none, none, none, none, some (.int e8), none]) (stJ := fun _ => []) (MJ := fun e8 => M) ?_ (fun e8 => ?_)
    · refine jm_weak F (lv' := [some (.ref (jm_a E 0 0)), none, none, none, some (.int x3), some (.int r4), some (.int 0)]) ⟨rfl, rfl, rfl, rfl, trivial⟩ ?_
      refine jm_loopR (lvH := fun s5 => [some (.ref (jm_a E 0 0)), none, none, none, some (.int x3), some (.int s5.1), some (.int s5.2)]) (MH := fun s5 => M) (fun s5 => ?_) jm_N (r4, 0)
      unfold sM_comesTo_L33
      refine jm_iload F dX9_comesTo_33 rfl ?_
      refine jm_aload_n (i := 0) F dX9_comesTo_35 rfl rfl ?_
      refine jm_getI F dX9_comesTo_36 fl_X9_122 lo_X9 rfl ?_
      refine jm_icmp_ge F dX9_comesTo_39 (fun c6 => ?_) (fun c6 => ?_)
      · exact jm_weakD F (lv' := [none, none, none, none, none, some (.int s5.1), none]) ⟨rfl, trivial⟩ (fun h => h)
      · refine jm_aload_n (i := 0) F dX9_comesTo_42 rfl rfl ?_
        refine jm_iload F dX9_comesTo_43 rfl ?_
        refine jm_iload F dX9_comesTo_45 rfl ?_
        refine jm_iload F dX9_comesTo_47 rfl ?_
        refine jm_callV (As := [.int s5.2, .int s5.1, .int x3]) (st := []) (rv := fun r => some (.int r)) (mm := fun _ => M) F dX9_comesTo_49 qX9_125 rfl lo_X9 rfl (fun r h => kM_byStep E hE h) rfl (Nat.le_of_ble_eq_true rfl) ⟨Nat.le_of_ble_eq_true rfl, Nat.le_of_ble_eq_true rfl⟩ (fun r7 => ?_)
        refine jm_istore (i := 5) (lv' := [some (.ref (jm_a E 0 0)), none, none, none, some (.int x3), some (.int r7), some (.int s5.2)]) F dX9_comesTo_52 (by decide) rfl rfl ?_
        refine jm_iinc (i := 6) (lv' := [some (.ref (jm_a E 0 0)), none, none, none, some (.int x3), some (.int r7), some (.int (s5.2 + 1))]) F dX9_comesTo_54 kc_1 rfl (by decide) rfl rfl ?_
        refine jm_goto F dX9_comesTo_57 ?_
        exact jm_weakD F (lv' := [some (.ref (jm_a E 0 0)), none, none, none, some (.int x3), some (.int r7), some (.int (s5.2 + 1))]) ⟨rfl, rfl, rfl, rfl, trivial⟩ (fun h => h)
    · refine jm_iload F dX9_comesTo_60 rfl ?_
      exact jm_iret F dX9_comesTo_62 (fun h => h)
  exact G r h hz
theorem dX9_isHeld_0 : jm_d cX9_isHeld 0 (.aload_n 0) 1 1 := ⟨by decide +kernel, rfl⟩
theorem dX9_isHeld_1 : jm_d cX9_isHeld 1 (.getfield 31) 3 4 := ⟨by decide +kernel, rfl⟩
theorem dX9_isHeld_4 : jm_d cX9_isHeld 4 (.iload_n 1) 1 5 := ⟨by decide +kernel, rfl⟩
theorem dX9_isHeld_5 : jm_d cX9_isHeld 5 (.iaload) 1 6 := ⟨by decide +kernel, rfl⟩
theorem dX9_isHeld_6 : jm_d cX9_isHeld 6 (.iload_n 2) 1 7 := ⟨by decide +kernel, rfl⟩
theorem dX9_isHeld_7 : jm_b cX9_isHeld 7 (.if_icmp .eq) 10 20 := ⟨13, by decide +kernel, rfl, by decide⟩
theorem dX9_isHeld_20 : jm_d cX9_isHeld 20 (.iconst 1) 1 21 := ⟨by decide +kernel, rfl⟩
theorem dX9_isHeld_21 : jm_b cX9_isHeld 21 .goto 24 25 := ⟨4, by decide +kernel, rfl, by decide⟩
theorem dX9_isHeld_25 : jm_d cX9_isHeld 25 (.ireturn) 1 26 := ⟨by decide +kernel, rfl⟩
theorem dX9_isHeld_10 : jm_d cX9_isHeld 10 (.aload_n 0) 1 11 := ⟨by decide +kernel, rfl⟩
theorem dX9_isHeld_11 : jm_d cX9_isHeld 11 (.getfield 31) 3 14 := ⟨by decide +kernel, rfl⟩
theorem dX9_isHeld_14 : jm_d cX9_isHeld 14 (.iload_n 1) 1 15 := ⟨by decide +kernel, rfl⟩
theorem dX9_isHeld_15 : jm_d cX9_isHeld 15 (.iaload) 1 16 := ⟨by decide +kernel, rfl⟩
theorem dX9_isHeld_16 : jm_d cX9_isHeld 16 (.iload_n 3) 1 17 := ⟨by decide +kernel, rfl⟩
theorem dX9_isHeld_17 : jm_b cX9_isHeld 17 (.if_icmp .ne) 20 24 := ⟨7, by decide +kernel, rfl, by decide⟩
theorem dX9_isHeld_24 : jm_d cX9_isHeld 24 (.iconst 0) 1 25 := ⟨by decide +kernel, rfl⟩
set_option maxHeartbeats 4000000 in
set_option maxRecDepth 100000 in
theorem kM_isHeld (E : jm_Ev) (hE : jm_dj E jm_LM) {M : jm_M} {p1 : Int32} {p2 : Int32} {p3 : Int32}  {r : Int32} (h : sM_isHeld M p1 p2 p3 = some r) : jm_Ct E jm_LM yX9_isHeld cX9_isHeld 4 (some .boolean) 0 0 [.ref (jm_a E 0 0), .int p1, .int p2, .int p3] M (some (.int r)) M := by
  refine jm_enter (lv := [some (.ref (jm_a E 0 0)), some (.int p1), some (.int p2), some (.int p3)]) hE (by decide) (Nat.le_of_ble_eq_true rfl) rfl ?_
  intro z w F hz
  have G : jm_G w 0 [some (.ref (jm_a E 0 0)), some (.int p1), some (.int p2), some (.int p3)] [] M (sM_isHeld M p1 p2 p3) (fun e => z (some (.int e)) M) := by
    unfold sM_isHeld
    refine jm_aload_n (i := 0) F dX9_isHeld_0 rfl rfl ?_
    refine jm_getR F dX9_isHeld_1 fl_X9_31 lo_X9 rfl ?_
    refine jm_iload_n (i := 1) F dX9_isHeld_4 rfl rfl ?_
    refine jm_iald F dX9_isHeld_5 la_X9_8 (fun v1 => ?_)
    refine jm_iload_n (i := 2) F dX9_isHeld_6 rfl rfl ?_
    refine jm_icmp_eq F dX9_isHeld_7 (fun c2 => ?_) (fun c2 => ?_)
    · refine jm_iconst F dX9_isHeld_20 kc_1 ?_
      refine jm_goto F dX9_isHeld_21 ?_
      exact jm_zret F dX9_isHeld_25 (Or.inr rfl) (fun h => h)
    · refine jm_aload_n (i := 0) F dX9_isHeld_10 rfl rfl ?_
      refine jm_getR F dX9_isHeld_11 fl_X9_31 lo_X9 rfl ?_
      refine jm_iload_n (i := 1) F dX9_isHeld_14 rfl rfl ?_
      refine jm_iald F dX9_isHeld_15 la_X9_8 (fun v3 => ?_)
      refine jm_iload_n (i := 3) F dX9_isHeld_16 rfl rfl ?_
      refine jm_icmp_ne F dX9_isHeld_17 (fun c4 => ?_) (fun c4 => ?_)
      · refine jm_iconst F dX9_isHeld_20 kc_1 ?_
        refine jm_goto F dX9_isHeld_21 ?_
        exact jm_zret F dX9_isHeld_25 (Or.inr rfl) (fun h => h)
      · refine jm_iconst F dX9_isHeld_24 kc_0 ?_
        exact jm_zret F dX9_isHeld_25 (Or.inl rfl) (fun h => h)
  exact G r h hz
theorem dX9_overWith_0 : jm_d cX9_overWith 0 (.aload_n 0) 1 1 := ⟨by decide +kernel, rfl⟩
theorem dX9_overWith_1 : jm_d cX9_overWith 1 (.getfield 13) 3 4 := ⟨by decide +kernel, rfl⟩
theorem dX9_overWith_4 : jm_d cX9_overWith 4 (.iload_n 1) 1 5 := ⟨by decide +kernel, rfl⟩
theorem dX9_overWith_5 : jm_d cX9_overWith 5 (.iaload) 1 6 := ⟨by decide +kernel, rfl⟩
theorem dX9_overWith_6 : jm_d cX9_overWith 6 (.ineg) 1 7 := ⟨by decide +kernel, rfl⟩
theorem dX9_overWith_7 : jm_d cX9_overWith 7 (.aload_n 0) 1 8 := ⟨by decide +kernel, rfl⟩
theorem dX9_overWith_8 : jm_d cX9_overWith 8 (.getfield 13) 3 11 := ⟨by decide +kernel, rfl⟩
theorem dX9_overWith_11 : jm_d cX9_overWith 11 (.iload_n 2) 1 12 := ⟨by decide +kernel, rfl⟩
theorem dX9_overWith_12 : jm_d cX9_overWith 12 (.iaload) 1 13 := ⟨by decide +kernel, rfl⟩
theorem dX9_overWith_13 : jm_d cX9_overWith 13 (.isub) 1 14 := ⟨by decide +kernel, rfl⟩
theorem dX9_overWith_14 : jm_d cX9_overWith 14 (.istore 4) 2 16 := ⟨by decide +kernel, rfl⟩
theorem dX9_overWith_16 : jm_d cX9_overWith 16 (.iconst 0) 1 17 := ⟨by decide +kernel, rfl⟩
theorem dX9_overWith_17 : jm_d cX9_overWith 17 (.istore 5) 2 19 := ⟨by decide +kernel, rfl⟩
theorem dX9_overWith_19 : jm_d cX9_overWith 19 (.iload 5) 2 21 := ⟨by decide +kernel, rfl⟩
theorem dX9_overWith_21 : jm_d cX9_overWith 21 (.aload_n 0) 1 22 := ⟨by decide +kernel, rfl⟩
theorem dX9_overWith_22 : jm_d cX9_overWith 22 (.getfield 106) 3 25 := ⟨by decide +kernel, rfl⟩
theorem dX9_overWith_25 : jm_b cX9_overWith 25 (.if_icmp .ge) 28 71 := ⟨46, by decide +kernel, rfl, by decide⟩
theorem dX9_overWith_28 : jm_d cX9_overWith 28 (.iload 4) 2 30 := ⟨by decide +kernel, rfl⟩
theorem dX9_overWith_30 : jm_d cX9_overWith 30 (.aload_n 0) 1 31 := ⟨by decide +kernel, rfl⟩
theorem dX9_overWith_31 : jm_d cX9_overWith 31 (.iload 5) 2 33 := ⟨by decide +kernel, rfl⟩
theorem dX9_overWith_33 : jm_d cX9_overWith 33 (.iload_n 1) 1 34 := ⟨by decide +kernel, rfl⟩
theorem dX9_overWith_34 : jm_d cX9_overWith 34 (.iload_n 2) 1 35 := ⟨by decide +kernel, rfl⟩
theorem dX9_overWith_35 : jm_d cX9_overWith 35 (.invokevirtual 129) 3 38 := ⟨by decide +kernel, rfl⟩
theorem dX9_overWith_38 : jm_b cX9_overWith 38 (.ifCond .ne) 41 50 := ⟨12, by decide +kernel, rfl, by decide⟩
theorem dX9_overWith_41 : jm_d cX9_overWith 41 (.iload_n 3) 1 42 := ⟨by decide +kernel, rfl⟩
theorem dX9_overWith_42 : jm_d cX9_overWith 42 (.iload 5) 2 44 := ⟨by decide +kernel, rfl⟩
theorem dX9_overWith_44 : jm_d cX9_overWith 44 (.invokestatic 132) 3 47 := ⟨by decide +kernel, rfl⟩
theorem dX9_overWith_47 : jm_b cX9_overWith 47 (.ifCond .eq) 50 61 := ⟨14, by decide +kernel, rfl, by decide⟩
theorem dX9_overWith_61 : jm_d cX9_overWith 61 (.iconst 0) 1 62 := ⟨by decide +kernel, rfl⟩
theorem dX9_overWith_62 : jm_d cX9_overWith 62 (.iadd) 1 63 := ⟨by decide +kernel, rfl⟩
theorem dX9_overWith_63 : jm_d cX9_overWith 63 (.istore 4) 2 65 := ⟨by decide +kernel, rfl⟩
theorem dX9_overWith_65 : jm_d cX9_overWith 65 (.iinc 5 1) 3 68 := ⟨by decide +kernel, rfl⟩
theorem dX9_overWith_68 : jm_b cX9_overWith 68 .goto 71 19 := ⟨(-49), by decide +kernel, rfl, by decide⟩
theorem dX9_overWith_50 : jm_d cX9_overWith 50 (.aload_n 0) 1 51 := ⟨by decide +kernel, rfl⟩
theorem dX9_overWith_51 : jm_d cX9_overWith 51 (.iload 5) 2 53 := ⟨by decide +kernel, rfl⟩
theorem dX9_overWith_53 : jm_d cX9_overWith 53 (.iload_n 1) 1 54 := ⟨by decide +kernel, rfl⟩
theorem dX9_overWith_54 : jm_d cX9_overWith 54 (.iload_n 2) 1 55 := ⟨by decide +kernel, rfl⟩
theorem dX9_overWith_55 : jm_d cX9_overWith 55 (.invokevirtual 136) 3 58 := ⟨by decide +kernel, rfl⟩
theorem dX9_overWith_58 : jm_b cX9_overWith 58 .goto 61 62 := ⟨4, by decide +kernel, rfl, by decide⟩
theorem dX9_overWith_71 : jm_d cX9_overWith 71 (.iload 4) 2 73 := ⟨by decide +kernel, rfl⟩
theorem dX9_overWith_73 : jm_d cX9_overWith 73 (.ireturn) 1 74 := ⟨by decide +kernel, rfl⟩
set_option maxHeartbeats 4000000 in
set_option maxRecDepth 100000 in
theorem kM_overWith (E : jm_Ev) (hE : jm_dj E jm_LM) {M : jm_M} {p1 : Int32} {p2 : Int32} {p3 : Int32}  {r : Int32} (h : sM_overWith M p1 p2 p3 = some r) : jm_Ct E jm_LM yX9_overWith cX9_overWith 6 (some .int) 4 93 [.ref (jm_a E 0 0), .int p1, .int p2, .int p3] M (some (.int r)) M := by
  refine jm_enter (lv := [some (.ref (jm_a E 0 0)), some (.int p1), some (.int p2), some (.int p3), none, none]) hE (by decide) (Nat.le_of_ble_eq_true rfl) rfl ?_
  intro z w F hz
  have G : jm_G w 0 [some (.ref (jm_a E 0 0)), some (.int p1), some (.int p2), some (.int p3), none, none] [] M (sM_overWith M p1 p2 p3) (fun e => z (some (.int e)) M) := by
    unfold sM_overWith
    refine jm_aload_n (i := 0) F dX9_overWith_0 rfl rfl ?_
    refine jm_getR F dX9_overWith_1 fl_X9_13 lo_X9 rfl ?_
    refine jm_iload_n (i := 1) F dX9_overWith_4 rfl rfl ?_
    refine jm_iald F dX9_overWith_5 la_X9_2 (fun v1 => ?_)
    refine jm_ineg F dX9_overWith_6 ?_
    refine jm_aload_n (i := 0) F dX9_overWith_7 rfl rfl ?_
    refine jm_getR F dX9_overWith_8 fl_X9_13 lo_X9 rfl ?_
    refine jm_iload_n (i := 2) F dX9_overWith_11 rfl rfl ?_
    refine jm_iald F dX9_overWith_12 la_X9_2 (fun v2 => ?_)
    refine jm_isub F dX9_overWith_13 ?_
    refine jm_nameI (f := fun x3 => [.int x3]) (fun x3 => ?_) rfl
    refine jm_istore (i := 4) (lv' := [some (.ref (jm_a E 0 0)), some (.int p1), some (.int p2), some (.int p3), some (.int x3), none]) F dX9_overWith_14 (by decide) rfl rfl ?_
    refine jm_iconst F dX9_overWith_16 kc_0 ?_
    refine jm_istore (i := 5) (lv' := [some (.ref (jm_a E 0 0)), some (.int p1), some (.int p2), some (.int p3), some (.int x3), some (.int 0)]) F dX9_overWith_17 (by decide) rfl rfl ?_
    refine jm_bind (pcJ := 71) (lvJ := fun e15 => [none, none, none, none, some (.int e15), none]) (stJ := fun _ => []) (MJ := fun e15 => M) ?_ (fun e15 => ?_)
    · refine jm_weak F (lv' := [some (.ref (jm_a E 0 0)), some (.int p1), some (.int p2), some (.int p3), some (.int x3), some (.int 0)]) ⟨rfl, rfl, rfl, rfl, rfl, rfl, trivial⟩ ?_
      refine jm_loopR (lvH := fun s4 => [some (.ref (jm_a E 0 0)), some (.int p1), some (.int p2), some (.int p3), some (.int s4.1), some (.int s4.2)]) (MH := fun s4 => M) (fun s4 => ?_) jm_N (x3, 0)
      unfold sM_overWith_L19
      refine jm_iload F dX9_overWith_19 rfl ?_
      refine jm_aload_n (i := 0) F dX9_overWith_21 rfl rfl ?_
      refine jm_getI F dX9_overWith_22 fl_X9_106 lo_X9 rfl ?_
      refine jm_icmp_ge F dX9_overWith_25 (fun c5 => ?_) (fun c5 => ?_)
      · exact jm_weakD F (lv' := [none, none, none, none, some (.int s4.1), none]) ⟨rfl, trivial⟩ (fun h => h)
      · refine jm_iload F dX9_overWith_28 rfl ?_
        refine jm_aload_n (i := 0) F dX9_overWith_30 rfl rfl ?_
        refine jm_iload F dX9_overWith_31 rfl ?_
        refine jm_iload_n (i := 1) F dX9_overWith_33 rfl rfl ?_
        refine jm_iload_n (i := 2) F dX9_overWith_34 rfl rfl ?_
        refine jm_callV (As := [.int s4.2, .int p1, .int p2]) (st := [.int s4.1]) (rv := fun r => some (.int r)) (mm := fun _ => M) F dX9_overWith_35 qX9_129 rfl lo_X9 rfl (fun r h => kM_isHeld E hE h) rfl (Nat.le_of_ble_eq_true rfl) ⟨Nat.le_of_ble_eq_true rfl, Nat.le_of_ble_eq_true rfl⟩ (fun r6 => ?_)
        refine jm_if_ne F dX9_overWith_38 (fun c7 => ?_) (fun c7 => ?_)
        · refine jm_iload_n (i := 3) F dX9_overWith_41 rfl rfl ?_
          refine jm_iload F dX9_overWith_42 rfl ?_
          refine jm_callS (As := [.int p3, .int s4.2]) (st := [.int s4.1]) (rv := fun r => some (.int r)) (mm := fun _ => M) F dX9_overWith_44 qX9_132 rfl (fun r h => kM_has E hE h) rfl (Nat.le_of_ble_eq_true rfl) ⟨Nat.le_of_ble_eq_true rfl, Nat.le_of_ble_eq_true rfl⟩ (fun r8 => ?_)
          refine jm_if_eq F dX9_overWith_47 (fun c9 => ?_) (fun c9 => ?_)
          · refine jm_iconst F dX9_overWith_61 kc_0 ?_
            refine jm_iadd F dX9_overWith_62 ?_
            refine jm_nameI (f := fun x10 => [.int x10]) (fun x10 => ?_) rfl
            refine jm_istore (i := 4) (lv' := [some (.ref (jm_a E 0 0)), some (.int p1), some (.int p2), some (.int p3), some (.int x10), some (.int s4.2)]) F dX9_overWith_63 (by decide) rfl rfl ?_
            refine jm_iinc (i := 5) (lv' := [some (.ref (jm_a E 0 0)), some (.int p1), some (.int p2), some (.int p3), some (.int x10), some (.int (s4.2 + 1))]) F dX9_overWith_65 kc_1 rfl (by decide) rfl rfl ?_
            refine jm_goto F dX9_overWith_68 ?_
            exact jm_weakD F (lv' := [some (.ref (jm_a E 0 0)), some (.int p1), some (.int p2), some (.int p3), some (.int x10), some (.int (s4.2 + 1))]) ⟨rfl, rfl, rfl, rfl, rfl, rfl, trivial⟩ (fun h => h)
          · refine jm_aload_n (i := 0) F dX9_overWith_50 rfl rfl ?_
            refine jm_iload F dX9_overWith_51 rfl ?_
            refine jm_iload_n (i := 1) F dX9_overWith_53 rfl rfl ?_
            refine jm_iload_n (i := 2) F dX9_overWith_54 rfl rfl ?_
            refine jm_callV (As := [.int s4.2, .int p1, .int p2]) (st := [.int s4.1]) (rv := fun r => some (.int r)) (mm := fun _ => M) F dX9_overWith_55 qX9_136 rfl lo_X9 rfl (fun r h => kM_comesTo E hE h) rfl (Nat.le_of_ble_eq_true rfl) ⟨Nat.le_of_ble_eq_true rfl, Nat.le_of_ble_eq_true rfl⟩ (fun r11 => ?_)
            refine jm_goto F dX9_overWith_58 ?_
            refine jm_iadd F dX9_overWith_62 ?_
            refine jm_nameI (f := fun x12 => [.int x12]) (fun x12 => ?_) rfl
            refine jm_istore (i := 4) (lv' := [some (.ref (jm_a E 0 0)), some (.int p1), some (.int p2), some (.int p3), some (.int x12), some (.int s4.2)]) F dX9_overWith_63 (by decide) rfl rfl ?_
            refine jm_iinc (i := 5) (lv' := [some (.ref (jm_a E 0 0)), some (.int p1), some (.int p2), some (.int p3), some (.int x12), some (.int (s4.2 + 1))]) F dX9_overWith_65 kc_1 rfl (by decide) rfl rfl ?_
            refine jm_goto F dX9_overWith_68 ?_
            exact jm_weakD F (lv' := [some (.ref (jm_a E 0 0)), some (.int p1), some (.int p2), some (.int p3), some (.int x12), some (.int (s4.2 + 1))]) ⟨rfl, rfl, rfl, rfl, rfl, rfl, trivial⟩ (fun h => h)
        · refine jm_aload_n (i := 0) F dX9_overWith_50 rfl rfl ?_
          refine jm_iload F dX9_overWith_51 rfl ?_
          refine jm_iload_n (i := 1) F dX9_overWith_53 rfl rfl ?_
          refine jm_iload_n (i := 2) F dX9_overWith_54 rfl rfl ?_
          refine jm_callV (As := [.int s4.2, .int p1, .int p2]) (st := [.int s4.1]) (rv := fun r => some (.int r)) (mm := fun _ => M) F dX9_overWith_55 qX9_136 rfl lo_X9 rfl (fun r h => kM_comesTo E hE h) rfl (Nat.le_of_ble_eq_true rfl) ⟨Nat.le_of_ble_eq_true rfl, Nat.le_of_ble_eq_true rfl⟩ (fun r13 => ?_)
          refine jm_goto F dX9_overWith_58 ?_
          refine jm_iadd F dX9_overWith_62 ?_
          refine jm_nameI (f := fun x14 => [.int x14]) (fun x14 => ?_) rfl
          refine jm_istore (i := 4) (lv' := [some (.ref (jm_a E 0 0)), some (.int p1), some (.int p2), some (.int p3), some (.int x14), some (.int s4.2)]) F dX9_overWith_63 (by decide) rfl rfl ?_
          refine jm_iinc (i := 5) (lv' := [some (.ref (jm_a E 0 0)), some (.int p1), some (.int p2), some (.int p3), some (.int x14), some (.int (s4.2 + 1))]) F dX9_overWith_65 kc_1 rfl (by decide) rfl rfl ?_
          refine jm_goto F dX9_overWith_68 ?_
          exact jm_weakD F (lv' := [some (.ref (jm_a E 0 0)), some (.int p1), some (.int p2), some (.int p3), some (.int x14), some (.int (s4.2 + 1))]) ⟨rfl, rfl, rfl, rfl, rfl, rfl, trivial⟩ (fun h => h)
    · refine jm_iload F dX9_overWith_71 rfl ?_
      exact jm_iret F dX9_overWith_73 (fun h => h)
  exact G r h hz
theorem dX9_overNow_0 : jm_d cX9_overNow 0 (.aload_n 0) 1 1 := ⟨by decide +kernel, rfl⟩
theorem dX9_overNow_1 : jm_d cX9_overNow 1 (.iload_n 1) 1 2 := ⟨by decide +kernel, rfl⟩
theorem dX9_overNow_2 : jm_d cX9_overNow 2 (.iload_n 2) 1 3 := ⟨by decide +kernel, rfl⟩
theorem dX9_overNow_3 : jm_d cX9_overNow 3 (.iconst 0) 1 4 := ⟨by decide +kernel, rfl⟩
theorem dX9_overNow_4 : jm_d cX9_overNow 4 (.invokevirtual 139) 3 7 := ⟨by decide +kernel, rfl⟩
theorem dX9_overNow_7 : jm_d cX9_overNow 7 (.ireturn) 1 8 := ⟨by decide +kernel, rfl⟩
set_option maxHeartbeats 4000000 in
set_option maxRecDepth 100000 in
theorem kM_overNow (E : jm_Ev) (hE : jm_dj E jm_LM) {M : jm_M} {p1 : Int32} {p2 : Int32}  {r : Int32} (h : sM_overNow M p1 p2 = some r) : jm_Ct E jm_LM yX9_overNow cX9_overNow 3 (some .int) 5 118 [.ref (jm_a E 0 0), .int p1, .int p2] M (some (.int r)) M := by
  refine jm_enter (lv := [some (.ref (jm_a E 0 0)), some (.int p1), some (.int p2)]) hE (by decide) (Nat.le_of_ble_eq_true rfl) rfl ?_
  intro z w F hz
  have G : jm_G w 0 [some (.ref (jm_a E 0 0)), some (.int p1), some (.int p2)] [] M (sM_overNow M p1 p2) (fun e => z (some (.int e)) M) := by
    unfold sM_overNow
    refine jm_aload_n (i := 0) F dX9_overNow_0 rfl rfl ?_
    refine jm_iload_n (i := 1) F dX9_overNow_1 rfl rfl ?_
    refine jm_iload_n (i := 2) F dX9_overNow_2 rfl rfl ?_
    refine jm_iconst F dX9_overNow_3 kc_0 ?_
    refine jm_callV (As := [.int p1, .int p2, .int 0]) (st := []) (rv := fun r => some (.int r)) (mm := fun _ => M) F dX9_overNow_4 qX9_139 rfl lo_X9 rfl (fun r h => kM_overWith E hE h) rfl (Nat.le_of_ble_eq_true rfl) ⟨Nat.le_of_ble_eq_true rfl, Nat.le_of_ble_eq_true rfl⟩ (fun r1 => ?_)
    exact jm_iret F dX9_overNow_7 (fun h => h)
  exact G r h hz
theorem dX9_comesDown_0 : jm_d cX9_comesDown 0 (.aload_n 0) 1 1 := ⟨by decide +kernel, rfl⟩
theorem dX9_comesDown_1 : jm_d cX9_comesDown 1 (.iload_n 1) 1 2 := ⟨by decide +kernel, rfl⟩
theorem dX9_comesDown_2 : jm_d cX9_comesDown 2 (.iload_n 2) 1 3 := ⟨by decide +kernel, rfl⟩
theorem dX9_comesDown_3 : jm_d cX9_comesDown 3 (.invokevirtual 142) 3 6 := ⟨by decide +kernel, rfl⟩
theorem dX9_comesDown_6 : jm_b cX9_comesDown 6 (.ifCond .lt) 9 13 := ⟨7, by decide +kernel, rfl, by decide⟩
theorem dX9_comesDown_13 : jm_d cX9_comesDown 13 (.iconst 0) 1 14 := ⟨by decide +kernel, rfl⟩
theorem dX9_comesDown_14 : jm_d cX9_comesDown 14 (.ireturn) 1 15 := ⟨by decide +kernel, rfl⟩
theorem dX9_comesDown_9 : jm_d cX9_comesDown 9 (.iconst 1) 1 10 := ⟨by decide +kernel, rfl⟩
theorem dX9_comesDown_10 : jm_b cX9_comesDown 10 .goto 13 14 := ⟨4, by decide +kernel, rfl, by decide⟩
set_option maxHeartbeats 4000000 in
set_option maxRecDepth 100000 in
theorem kM_comesDown (E : jm_Ev) (hE : jm_dj E jm_LM) {M : jm_M} {p1 : Int32} {p2 : Int32}  {r : Int32} (h : sM_comesDown M p1 p2 = some r) : jm_Ct E jm_LM yX9_comesDown cX9_comesDown 3 (some .boolean) 6 140 [.ref (jm_a E 0 0), .int p1, .int p2] M (some (.int r)) M := by
  refine jm_enter (lv := [some (.ref (jm_a E 0 0)), some (.int p1), some (.int p2)]) hE (by decide) (Nat.le_of_ble_eq_true rfl) rfl ?_
  intro z w F hz
  have G : jm_G w 0 [some (.ref (jm_a E 0 0)), some (.int p1), some (.int p2)] [] M (sM_comesDown M p1 p2) (fun e => z (some (.int e)) M) := by
    unfold sM_comesDown
    refine jm_aload_n (i := 0) F dX9_comesDown_0 rfl rfl ?_
    refine jm_iload_n (i := 1) F dX9_comesDown_1 rfl rfl ?_
    refine jm_iload_n (i := 2) F dX9_comesDown_2 rfl rfl ?_
    refine jm_callV (As := [.int p1, .int p2]) (st := []) (rv := fun r => some (.int r)) (mm := fun _ => M) F dX9_comesDown_3 qX9_142 rfl lo_X9 rfl (fun r h => kM_overNow E hE h) rfl (Nat.le_of_ble_eq_true rfl) ⟨Nat.le_of_ble_eq_true rfl, Nat.le_of_ble_eq_true rfl⟩ (fun r1 => ?_)
    refine jm_if_lt F dX9_comesDown_6 (fun c2 => ?_) (fun c2 => ?_)
    · refine jm_iconst F dX9_comesDown_13 kc_0 ?_
      exact jm_zret F dX9_comesDown_14 (Or.inl rfl) (fun h => h)
    · refine jm_iconst F dX9_comesDown_9 kc_1 ?_
      refine jm_goto F dX9_comesDown_10 ?_
      exact jm_zret F dX9_comesDown_14 (Or.inr rfl) (fun h => h)
  exact G r h hz
theorem dX9_compares_0 : jm_d cX9_compares 0 (.iconst 0) 1 1 := ⟨by decide +kernel, rfl⟩
theorem dX9_compares_1 : jm_d cX9_compares 1 (.istore_n 3) 1 2 := ⟨by decide +kernel, rfl⟩
theorem dX9_compares_2 : jm_d cX9_compares 2 (.iload_n 3) 1 3 := ⟨by decide +kernel, rfl⟩
theorem dX9_compares_3 : jm_d cX9_compares 3 (.iconst 4) 1 4 := ⟨by decide +kernel, rfl⟩
theorem dX9_compares_4 : jm_b cX9_compares 4 (.if_icmp .ge) 7 78 := ⟨74, by decide +kernel, rfl, by decide⟩
theorem dX9_compares_7 : jm_d cX9_compares 7 (.iload_n 3) 1 8 := ⟨by decide +kernel, rfl⟩
theorem dX9_compares_8 : jm_d cX9_compares 8 (.aload_n 0) 1 9 := ⟨by decide +kernel, rfl⟩
theorem dX9_compares_9 : jm_d cX9_compares 9 (.getfield 37) 3 12 := ⟨by decide +kernel, rfl⟩
theorem dX9_compares_12 : jm_d cX9_compares 12 (.iload_n 1) 1 13 := ⟨by decide +kernel, rfl⟩
theorem dX9_compares_13 : jm_d cX9_compares 13 (.iaload) 1 14 := ⟨by decide +kernel, rfl⟩
theorem dX9_compares_14 : jm_b cX9_compares 14 (.if_icmp .ge) 17 30 := ⟨16, by decide +kernel, rfl, by decide⟩
theorem dX9_compares_30 : jm_d cX9_compares 30 (.iconst (-1)) 1 31 := ⟨by decide +kernel, rfl⟩
theorem dX9_compares_17 : jm_d cX9_compares 17 (.aload_n 0) 1 18 := ⟨by decide +kernel, rfl⟩
theorem dX9_compares_18 : jm_d cX9_compares 18 (.getfield 40) 3 21 := ⟨by decide +kernel, rfl⟩
theorem dX9_compares_21 : jm_d cX9_compares 21 (.iconst 4) 1 22 := ⟨by decide +kernel, rfl⟩
theorem dX9_compares_22 : jm_d cX9_compares 22 (.iload_n 1) 1 23 := ⟨by decide +kernel, rfl⟩
theorem dX9_compares_23 : jm_d cX9_compares 23 (.imul) 1 24 := ⟨by decide +kernel, rfl⟩
theorem dX9_compares_24 : jm_d cX9_compares 24 (.iload_n 3) 1 25 := ⟨by decide +kernel, rfl⟩
theorem dX9_compares_25 : jm_d cX9_compares 25 (.iadd) 1 26 := ⟨by decide +kernel, rfl⟩
theorem dX9_compares_26 : jm_d cX9_compares 26 (.iaload) 1 27 := ⟨by decide +kernel, rfl⟩
theorem dX9_compares_27 : jm_b cX9_compares 27 .goto 30 31 := ⟨4, by decide +kernel, rfl, by decide⟩
theorem dX9_compares_31 : jm_d cX9_compares 31 (.istore 4) 2 33 := ⟨by decide +kernel, rfl⟩
theorem dX9_compares_33 : jm_d cX9_compares 33 (.iload_n 3) 1 34 := ⟨by decide +kernel, rfl⟩
theorem dX9_compares_34 : jm_d cX9_compares 34 (.aload_n 0) 1 35 := ⟨by decide +kernel, rfl⟩
theorem dX9_compares_35 : jm_d cX9_compares 35 (.getfield 37) 3 38 := ⟨by decide +kernel, rfl⟩
theorem dX9_compares_38 : jm_d cX9_compares 38 (.iload_n 2) 1 39 := ⟨by decide +kernel, rfl⟩
theorem dX9_compares_39 : jm_d cX9_compares 39 (.iaload) 1 40 := ⟨by decide +kernel, rfl⟩
theorem dX9_compares_40 : jm_b cX9_compares 40 (.if_icmp .ge) 43 56 := ⟨16, by decide +kernel, rfl, by decide⟩
theorem dX9_compares_56 : jm_d cX9_compares 56 (.iconst (-1)) 1 57 := ⟨by decide +kernel, rfl⟩
theorem dX9_compares_43 : jm_d cX9_compares 43 (.aload_n 0) 1 44 := ⟨by decide +kernel, rfl⟩
theorem dX9_compares_44 : jm_d cX9_compares 44 (.getfield 40) 3 47 := ⟨by decide +kernel, rfl⟩
theorem dX9_compares_47 : jm_d cX9_compares 47 (.iconst 4) 1 48 := ⟨by decide +kernel, rfl⟩
theorem dX9_compares_48 : jm_d cX9_compares 48 (.iload_n 2) 1 49 := ⟨by decide +kernel, rfl⟩
theorem dX9_compares_49 : jm_d cX9_compares 49 (.imul) 1 50 := ⟨by decide +kernel, rfl⟩
theorem dX9_compares_50 : jm_d cX9_compares 50 (.iload_n 3) 1 51 := ⟨by decide +kernel, rfl⟩
theorem dX9_compares_51 : jm_d cX9_compares 51 (.iadd) 1 52 := ⟨by decide +kernel, rfl⟩
theorem dX9_compares_52 : jm_d cX9_compares 52 (.iaload) 1 53 := ⟨by decide +kernel, rfl⟩
theorem dX9_compares_53 : jm_b cX9_compares 53 .goto 56 57 := ⟨4, by decide +kernel, rfl, by decide⟩
theorem dX9_compares_57 : jm_d cX9_compares 57 (.istore 5) 2 59 := ⟨by decide +kernel, rfl⟩
theorem dX9_compares_59 : jm_d cX9_compares 59 (.iload 4) 2 61 := ⟨by decide +kernel, rfl⟩
theorem dX9_compares_61 : jm_d cX9_compares 61 (.iload 5) 2 63 := ⟨by decide +kernel, rfl⟩
theorem dX9_compares_63 : jm_b cX9_compares 63 (.if_icmp .eq) 66 72 := ⟨9, by decide +kernel, rfl, by decide⟩
theorem dX9_compares_72 : jm_d cX9_compares 72 (.iinc 3 1) 3 75 := ⟨by decide +kernel, rfl⟩
theorem dX9_compares_75 : jm_b cX9_compares 75 .goto 78 2 := ⟨(-73), by decide +kernel, rfl, by decide⟩
theorem dX9_compares_66 : jm_d cX9_compares 66 (.iload 4) 2 68 := ⟨by decide +kernel, rfl⟩
theorem dX9_compares_68 : jm_d cX9_compares 68 (.iload 5) 2 70 := ⟨by decide +kernel, rfl⟩
theorem dX9_compares_70 : jm_d cX9_compares 70 (.isub) 1 71 := ⟨by decide +kernel, rfl⟩
theorem dX9_compares_71 : jm_d cX9_compares 71 (.ireturn) 1 72 := ⟨by decide +kernel, rfl⟩
theorem dX9_compares_78 : jm_d cX9_compares 78 (.iconst 0) 1 79 := ⟨by decide +kernel, rfl⟩
theorem dX9_compares_79 : jm_d cX9_compares 79 (.ireturn) 1 80 := ⟨by decide +kernel, rfl⟩
set_option maxHeartbeats 4000000 in
set_option maxRecDepth 100000 in
theorem kM_compares (E : jm_Ev) (hE : jm_dj E jm_LM) {M : jm_M} {p1 : Int32} {p2 : Int32}  {r : Int32} (h : sM_compares M p1 p2 = some r) : jm_Ct E jm_LM yX9_compares cX9_compares 6 (some .int) 0 0 [.ref (jm_a E 0 0), .int p1, .int p2] M (some (.int r)) M := by
  refine jm_enter (lv := [some (.ref (jm_a E 0 0)), some (.int p1), some (.int p2), none, none, none]) hE (by decide) (Nat.le_of_ble_eq_true rfl) rfl ?_
  intro z w F hz
  have G : jm_G w 0 [some (.ref (jm_a E 0 0)), some (.int p1), some (.int p2), none, none, none] [] M (sM_compares M p1 p2) (fun e => z (some (.int e)) M) := by
    unfold sM_compares
    refine jm_iconst F dX9_compares_0 kc_0 ?_
    refine jm_istore_n (i := 3) (lv' := [some (.ref (jm_a E 0 0)), some (.int p1), some (.int p2), some (.int 0), none, none]) F dX9_compares_1 rfl (by decide) rfl rfl ?_
    refine jm_bindS (pcJ := 78) (lvJ := fun e12 => [none, none, none, none, none, none]) (stJ := fun _ => []) (MJ := fun e12 => M) ?_ (fun e12 => ?_)
    · refine jm_weak F (lv' := [some (.ref (jm_a E 0 0)), some (.int p1), some (.int p2), some (.int 0), none, none]) ⟨rfl, rfl, rfl, rfl, trivial⟩ ?_
      refine jm_loopR (lvH := fun s1 => [some (.ref (jm_a E 0 0)), some (.int p1), some (.int p2), some (.int s1), none, none]) (MH := fun s1 => M) (fun s1 => ?_) jm_N 0
      unfold sM_compares_L2
      refine jm_iload_n (i := 3) F dX9_compares_2 rfl rfl ?_
      refine jm_iconst F dX9_compares_3 kc_4 ?_
      refine jm_icmp_ge F dX9_compares_4 (fun c2 => ?_) (fun c2 => ?_)
      · exact jm_weakD F (lv' := [none, none, none, none, none, none]) trivial (fun h => h)
      · refine jm_iload_n (i := 3) F dX9_compares_7 rfl rfl ?_
        refine jm_aload_n (i := 0) F dX9_compares_8 rfl rfl ?_
        refine jm_getR F dX9_compares_9 fl_X9_37 lo_X9 rfl ?_
        refine jm_iload_n (i := 1) F dX9_compares_12 rfl rfl ?_
        refine jm_iald F dX9_compares_13 la_X9_10 (fun v3 => ?_)
        refine jm_bind (pcJ := 31) (lvJ := fun e4 => [some (.ref (jm_a E 0 0)), some (.int p1), some (.int p2), some (.int s1), none, none]) (stJ := fun e4 => [.int e4]) (MJ := fun e4 => M) ?_ (fun e4 => ?_)
        · refine jm_icmp_ge F dX9_compares_14 (fun c5 => ?_) (fun c5 => ?_)
          · refine jm_iconst F dX9_compares_30 kc_m1 ?_
            exact jm_weakD F (lv' := [some (.ref (jm_a E 0 0)), some (.int p1), some (.int p2), some (.int s1), none, none]) ⟨rfl, rfl, rfl, rfl, trivial⟩ (fun h => h)
          · refine jm_aload_n (i := 0) F dX9_compares_17 rfl rfl ?_
            refine jm_getR F dX9_compares_18 fl_X9_40 lo_X9 rfl ?_
            refine jm_iconst F dX9_compares_21 kc_4 ?_
            refine jm_iload_n (i := 1) F dX9_compares_22 rfl rfl ?_
            refine jm_imul F dX9_compares_23 ?_
            refine jm_iload_n (i := 3) F dX9_compares_24 rfl rfl ?_
            refine jm_iadd F dX9_compares_25 ?_
            refine jm_iald F dX9_compares_26 la_X9_11 (fun v6 => ?_)
            refine jm_goto F dX9_compares_27 ?_
            exact jm_weakD F (lv' := [some (.ref (jm_a E 0 0)), some (.int p1), some (.int p2), some (.int s1), none, none]) ⟨rfl, rfl, rfl, rfl, trivial⟩ (fun h => h)
        · refine jm_istore (i := 4) (lv' := [some (.ref (jm_a E 0 0)), some (.int p1), some (.int p2), some (.int s1), some (.int e4), none]) F dX9_compares_31 (by decide) rfl rfl ?_
          refine jm_iload_n (i := 3) F dX9_compares_33 rfl rfl ?_
          refine jm_aload_n (i := 0) F dX9_compares_34 rfl rfl ?_
          refine jm_getR F dX9_compares_35 fl_X9_37 lo_X9 rfl ?_
          refine jm_iload_n (i := 2) F dX9_compares_38 rfl rfl ?_
          refine jm_iald F dX9_compares_39 la_X9_10 (fun v7 => ?_)
          refine jm_bind (pcJ := 57) (lvJ := fun e8 => [some (.ref (jm_a E 0 0)), some (.int p1), some (.int p2), some (.int s1), some (.int e4), none]) (stJ := fun e8 => [.int e8]) (MJ := fun e8 => M) ?_ (fun e8 => ?_)
          · refine jm_icmp_ge F dX9_compares_40 (fun c9 => ?_) (fun c9 => ?_)
            · refine jm_iconst F dX9_compares_56 kc_m1 ?_
              exact jm_weakD F (lv' := [some (.ref (jm_a E 0 0)), some (.int p1), some (.int p2), some (.int s1), some (.int e4), none]) ⟨rfl, rfl, rfl, rfl, rfl, trivial⟩ (fun h => h)
            · refine jm_aload_n (i := 0) F dX9_compares_43 rfl rfl ?_
              refine jm_getR F dX9_compares_44 fl_X9_40 lo_X9 rfl ?_
              refine jm_iconst F dX9_compares_47 kc_4 ?_
              refine jm_iload_n (i := 2) F dX9_compares_48 rfl rfl ?_
              refine jm_imul F dX9_compares_49 ?_
              refine jm_iload_n (i := 3) F dX9_compares_50 rfl rfl ?_
              refine jm_iadd F dX9_compares_51 ?_
              refine jm_iald F dX9_compares_52 la_X9_11 (fun v10 => ?_)
              refine jm_goto F dX9_compares_53 ?_
              exact jm_weakD F (lv' := [some (.ref (jm_a E 0 0)), some (.int p1), some (.int p2), some (.int s1), some (.int e4), none]) ⟨rfl, rfl, rfl, rfl, rfl, trivial⟩ (fun h => h)
          · refine jm_istore (i := 5) (lv' := [some (.ref (jm_a E 0 0)), some (.int p1), some (.int p2), some (.int s1), some (.int e4), some (.int e8)]) F dX9_compares_57 (by decide) rfl rfl ?_
            refine jm_iload F dX9_compares_59 rfl ?_
            refine jm_iload F dX9_compares_61 rfl ?_
            refine jm_icmp_eq F dX9_compares_63 (fun c11 => ?_) (fun c11 => ?_)
            · refine jm_iinc (i := 3) (lv' := [some (.ref (jm_a E 0 0)), some (.int p1), some (.int p2), some (.int (s1 + 1)), some (.int e4), some (.int e8)]) F dX9_compares_72 kc_1 rfl (by decide) rfl rfl ?_
              refine jm_goto F dX9_compares_75 ?_
              exact jm_weakD F (lv' := [some (.ref (jm_a E 0 0)), some (.int p1), some (.int p2), some (.int (s1 + 1)), none, none]) ⟨rfl, rfl, rfl, rfl, trivial⟩ (fun h => h)
            · refine jm_iload F dX9_compares_66 rfl ?_
              refine jm_iload F dX9_compares_68 rfl ?_
              refine jm_isub F dX9_compares_70 ?_
              exact jm_iret F dX9_compares_71 (fun h => h)
    · refine jm_iconst F dX9_compares_78 kc_0 ?_
      exact jm_iret F dX9_compares_79 (fun h => h)
  exact G r h hz
theorem dX9_rankOf_0 : jm_d cX9_rankOf 0 (.iconst 0) 1 1 := ⟨by decide +kernel, rfl⟩
theorem dX9_rankOf_1 : jm_d cX9_rankOf 1 (.istore_n 2) 1 2 := ⟨by decide +kernel, rfl⟩
theorem dX9_rankOf_2 : jm_d cX9_rankOf 2 (.iconst 0) 1 3 := ⟨by decide +kernel, rfl⟩
theorem dX9_rankOf_3 : jm_d cX9_rankOf 3 (.istore_n 3) 1 4 := ⟨by decide +kernel, rfl⟩
theorem dX9_rankOf_4 : jm_d cX9_rankOf 4 (.iload_n 3) 1 5 := ⟨by decide +kernel, rfl⟩
theorem dX9_rankOf_5 : jm_d cX9_rankOf 5 (.aload_n 0) 1 6 := ⟨by decide +kernel, rfl⟩
theorem dX9_rankOf_6 : jm_d cX9_rankOf 6 (.getfield 106) 3 9 := ⟨by decide +kernel, rfl⟩
theorem dX9_rankOf_9 : jm_b cX9_rankOf 9 (.if_icmp .ge) 12 35 := ⟨26, by decide +kernel, rfl, by decide⟩
theorem dX9_rankOf_12 : jm_d cX9_rankOf 12 (.iload_n 2) 1 13 := ⟨by decide +kernel, rfl⟩
theorem dX9_rankOf_13 : jm_d cX9_rankOf 13 (.aload_n 0) 1 14 := ⟨by decide +kernel, rfl⟩
theorem dX9_rankOf_14 : jm_d cX9_rankOf 14 (.iload_n 3) 1 15 := ⟨by decide +kernel, rfl⟩
theorem dX9_rankOf_15 : jm_d cX9_rankOf 15 (.iload_n 1) 1 16 := ⟨by decide +kernel, rfl⟩
theorem dX9_rankOf_16 : jm_d cX9_rankOf 16 (.invokevirtual 146) 3 19 := ⟨by decide +kernel, rfl⟩
theorem dX9_rankOf_19 : jm_b cX9_rankOf 19 (.ifCond .ge) 22 26 := ⟨7, by decide +kernel, rfl, by decide⟩
theorem dX9_rankOf_26 : jm_d cX9_rankOf 26 (.iconst 0) 1 27 := ⟨by decide +kernel, rfl⟩
theorem dX9_rankOf_27 : jm_d cX9_rankOf 27 (.iadd) 1 28 := ⟨by decide +kernel, rfl⟩
theorem dX9_rankOf_28 : jm_d cX9_rankOf 28 (.istore_n 2) 1 29 := ⟨by decide +kernel, rfl⟩
theorem dX9_rankOf_29 : jm_d cX9_rankOf 29 (.iinc 3 1) 3 32 := ⟨by decide +kernel, rfl⟩
theorem dX9_rankOf_32 : jm_b cX9_rankOf 32 .goto 35 4 := ⟨(-28), by decide +kernel, rfl, by decide⟩
theorem dX9_rankOf_22 : jm_d cX9_rankOf 22 (.iconst 1) 1 23 := ⟨by decide +kernel, rfl⟩
theorem dX9_rankOf_23 : jm_b cX9_rankOf 23 .goto 26 27 := ⟨4, by decide +kernel, rfl, by decide⟩
theorem dX9_rankOf_35 : jm_d cX9_rankOf 35 (.iload_n 2) 1 36 := ⟨by decide +kernel, rfl⟩
theorem dX9_rankOf_36 : jm_d cX9_rankOf 36 (.ireturn) 1 37 := ⟨by decide +kernel, rfl⟩
set_option maxHeartbeats 4000000 in
set_option maxRecDepth 100000 in
theorem kM_rankOf (E : jm_Ev) (hE : jm_dj E jm_LM) {M : jm_M} {p1 : Int32}  {r : Int32} (h : sM_rankOf M p1 = some r) : jm_Ct E jm_LM yX9_rankOf cX9_rankOf 4 (some .int) 1 25 [.ref (jm_a E 0 0), .int p1] M (some (.int r)) M := by
  refine jm_enter (lv := [some (.ref (jm_a E 0 0)), some (.int p1), none, none]) hE (by decide) (Nat.le_of_ble_eq_true rfl) rfl ?_
  intro z w F hz
  have G : jm_G w 0 [some (.ref (jm_a E 0 0)), some (.int p1), none, none] [] M (sM_rankOf M p1) (fun e => z (some (.int e)) M) := by
    unfold sM_rankOf
    refine jm_iconst F dX9_rankOf_0 kc_0 ?_
    refine jm_istore_n (i := 2) (lv' := [some (.ref (jm_a E 0 0)), some (.int p1), some (.int 0), none]) F dX9_rankOf_1 rfl (by decide) rfl rfl ?_
    refine jm_iconst F dX9_rankOf_2 kc_0 ?_
    refine jm_istore_n (i := 3) (lv' := [some (.ref (jm_a E 0 0)), some (.int p1), some (.int 0), some (.int 0)]) F dX9_rankOf_3 rfl (by decide) rfl rfl ?_
    refine jm_bind (pcJ := 35) (lvJ := fun e7 => [none, none, some (.int e7), none]) (stJ := fun _ => []) (MJ := fun e7 => M) ?_ (fun e7 => ?_)
    · refine jm_weak F (lv' := [some (.ref (jm_a E 0 0)), some (.int p1), some (.int 0), some (.int 0)]) ⟨rfl, rfl, rfl, rfl, trivial⟩ ?_
      refine jm_loopR (lvH := fun s1 => [some (.ref (jm_a E 0 0)), some (.int p1), some (.int s1.1), some (.int s1.2)]) (MH := fun s1 => M) (fun s1 => ?_) jm_N (0, 0)
      unfold sM_rankOf_L4
      refine jm_iload_n (i := 3) F dX9_rankOf_4 rfl rfl ?_
      refine jm_aload_n (i := 0) F dX9_rankOf_5 rfl rfl ?_
      refine jm_getI F dX9_rankOf_6 fl_X9_106 lo_X9 rfl ?_
      refine jm_icmp_ge F dX9_rankOf_9 (fun c2 => ?_) (fun c2 => ?_)
      · exact jm_weakD F (lv' := [none, none, some (.int s1.1), none]) ⟨rfl, trivial⟩ (fun h => h)
      · refine jm_iload_n (i := 2) F dX9_rankOf_12 rfl rfl ?_
        refine jm_aload_n (i := 0) F dX9_rankOf_13 rfl rfl ?_
        refine jm_iload_n (i := 3) F dX9_rankOf_14 rfl rfl ?_
        refine jm_iload_n (i := 1) F dX9_rankOf_15 rfl rfl ?_
        refine jm_callV (As := [.int s1.2, .int p1]) (st := [.int s1.1]) (rv := fun r => some (.int r)) (mm := fun _ => M) F dX9_rankOf_16 qX9_146 rfl lo_X9 rfl (fun r h => kM_compares E hE h) rfl (Nat.le_of_ble_eq_true rfl) ⟨Nat.le_of_ble_eq_true rfl, Nat.le_of_ble_eq_true rfl⟩ (fun r3 => ?_)
        refine jm_if_ge F dX9_rankOf_19 (fun c4 => ?_) (fun c4 => ?_)
        · refine jm_iconst F dX9_rankOf_26 kc_0 ?_
          refine jm_iadd F dX9_rankOf_27 ?_
          refine jm_nameI (f := fun x5 => [.int x5]) (fun x5 => ?_) rfl
          refine jm_istore_n (i := 2) (lv' := [some (.ref (jm_a E 0 0)), some (.int p1), some (.int x5), some (.int s1.2)]) F dX9_rankOf_28 rfl (by decide) rfl rfl ?_
          refine jm_iinc (i := 3) (lv' := [some (.ref (jm_a E 0 0)), some (.int p1), some (.int x5), some (.int (s1.2 + 1))]) F dX9_rankOf_29 kc_1 rfl (by decide) rfl rfl ?_
          refine jm_goto F dX9_rankOf_32 ?_
          exact jm_weakD F (lv' := [some (.ref (jm_a E 0 0)), some (.int p1), some (.int x5), some (.int (s1.2 + 1))]) ⟨rfl, rfl, rfl, rfl, trivial⟩ (fun h => h)
        · refine jm_iconst F dX9_rankOf_22 kc_1 ?_
          refine jm_goto F dX9_rankOf_23 ?_
          refine jm_iadd F dX9_rankOf_27 ?_
          refine jm_nameI (f := fun x6 => [.int x6]) (fun x6 => ?_) rfl
          refine jm_istore_n (i := 2) (lv' := [some (.ref (jm_a E 0 0)), some (.int p1), some (.int x6), some (.int s1.2)]) F dX9_rankOf_28 rfl (by decide) rfl rfl ?_
          refine jm_iinc (i := 3) (lv' := [some (.ref (jm_a E 0 0)), some (.int p1), some (.int x6), some (.int (s1.2 + 1))]) F dX9_rankOf_29 kc_1 rfl (by decide) rfl rfl ?_
          refine jm_goto F dX9_rankOf_32 ?_
          exact jm_weakD F (lv' := [some (.ref (jm_a E 0 0)), some (.int p1), some (.int x6), some (.int (s1.2 + 1))]) ⟨rfl, rfl, rfl, rfl, trivial⟩ (fun h => h)
    · refine jm_iload_n (i := 2) F dX9_rankOf_35 rfl rfl ?_
      exact jm_iret F dX9_rankOf_36 (fun h => h)
  exact G r h hz
theorem dX9_ofRank_0 : jm_d cX9_ofRank 0 (.iconst 0) 1 1 := ⟨by decide +kernel, rfl⟩
theorem dX9_ofRank_1 : jm_d cX9_ofRank 1 (.istore_n 2) 1 2 := ⟨by decide +kernel, rfl⟩
theorem dX9_ofRank_2 : jm_d cX9_ofRank 2 (.iload_n 2) 1 3 := ⟨by decide +kernel, rfl⟩
theorem dX9_ofRank_3 : jm_d cX9_ofRank 3 (.aload_n 0) 1 4 := ⟨by decide +kernel, rfl⟩
theorem dX9_ofRank_4 : jm_d cX9_ofRank 4 (.getfield 106) 3 7 := ⟨by decide +kernel, rfl⟩
theorem dX9_ofRank_7 : jm_b cX9_ofRank 7 (.if_icmp .ge) 10 27 := ⟨20, by decide +kernel, rfl, by decide⟩
theorem dX9_ofRank_10 : jm_d cX9_ofRank 10 (.aload_n 0) 1 11 := ⟨by decide +kernel, rfl⟩
theorem dX9_ofRank_11 : jm_d cX9_ofRank 11 (.iload_n 2) 1 12 := ⟨by decide +kernel, rfl⟩
theorem dX9_ofRank_12 : jm_d cX9_ofRank 12 (.invokevirtual 149) 3 15 := ⟨by decide +kernel, rfl⟩
theorem dX9_ofRank_15 : jm_d cX9_ofRank 15 (.iload_n 1) 1 16 := ⟨by decide +kernel, rfl⟩
theorem dX9_ofRank_16 : jm_b cX9_ofRank 16 (.if_icmp .ne) 19 21 := ⟨5, by decide +kernel, rfl, by decide⟩
theorem dX9_ofRank_19 : jm_d cX9_ofRank 19 (.iload_n 2) 1 20 := ⟨by decide +kernel, rfl⟩
theorem dX9_ofRank_20 : jm_d cX9_ofRank 20 (.ireturn) 1 21 := ⟨by decide +kernel, rfl⟩
theorem dX9_ofRank_21 : jm_d cX9_ofRank 21 (.iinc 2 1) 3 24 := ⟨by decide +kernel, rfl⟩
theorem dX9_ofRank_24 : jm_b cX9_ofRank 24 .goto 27 2 := ⟨(-22), by decide +kernel, rfl, by decide⟩
theorem dX9_ofRank_27 : jm_d cX9_ofRank 27 (.bipush (-9)) 2 29 := ⟨by decide +kernel, rfl⟩
theorem dX9_ofRank_29 : jm_d cX9_ofRank 29 (.ireturn) 1 30 := ⟨by decide +kernel, rfl⟩
set_option maxHeartbeats 4000000 in
set_option maxRecDepth 100000 in
theorem kM_ofRank (E : jm_Ev) (hE : jm_dj E jm_LM) {M : jm_M} {p1 : Int32}  {r : Int32} (h : sM_ofRank M p1 = some r) : jm_Ct E jm_LM yX9_ofRank cX9_ofRank 3 (some .int) 2 48 [.ref (jm_a E 0 0), .int p1] M (some (.int r)) M := by
  refine jm_enter (lv := [some (.ref (jm_a E 0 0)), some (.int p1), none]) hE (by decide) (Nat.le_of_ble_eq_true rfl) rfl ?_
  intro z w F hz
  have G : jm_G w 0 [some (.ref (jm_a E 0 0)), some (.int p1), none] [] M (sM_ofRank M p1) (fun e => z (some (.int e)) M) := by
    unfold sM_ofRank
    refine jm_iconst F dX9_ofRank_0 kc_0 ?_
    refine jm_istore_n (i := 2) (lv' := [some (.ref (jm_a E 0 0)), some (.int p1), some (.int 0)]) F dX9_ofRank_1 rfl (by decide) rfl rfl ?_
    refine jm_bindS (pcJ := 27) (lvJ := fun e5 => [none, none, none]) (stJ := fun _ => []) (MJ := fun e5 => M) ?_ (fun e5 => ?_)
    · refine jm_weak F (lv' := [some (.ref (jm_a E 0 0)), some (.int p1), some (.int 0)]) ⟨rfl, rfl, rfl, trivial⟩ ?_
      refine jm_loopR (lvH := fun s1 => [some (.ref (jm_a E 0 0)), some (.int p1), some (.int s1)]) (MH := fun s1 => M) (fun s1 => ?_) jm_N 0
      unfold sM_ofRank_L2
      refine jm_iload_n (i := 2) F dX9_ofRank_2 rfl rfl ?_
      refine jm_aload_n (i := 0) F dX9_ofRank_3 rfl rfl ?_
      refine jm_getI F dX9_ofRank_4 fl_X9_106 lo_X9 rfl ?_
      refine jm_icmp_ge F dX9_ofRank_7 (fun c2 => ?_) (fun c2 => ?_)
      · exact jm_weakD F (lv' := [none, none, none]) trivial (fun h => h)
      · refine jm_aload_n (i := 0) F dX9_ofRank_10 rfl rfl ?_
        refine jm_iload_n (i := 2) F dX9_ofRank_11 rfl rfl ?_
        refine jm_callV (As := [.int s1]) (st := []) (rv := fun r => some (.int r)) (mm := fun _ => M) F dX9_ofRank_12 qX9_149 rfl lo_X9 rfl (fun r h => kM_rankOf E hE h) rfl (Nat.le_of_ble_eq_true rfl) ⟨Nat.le_of_ble_eq_true rfl, Nat.le_of_ble_eq_true rfl⟩ (fun r3 => ?_)
        refine jm_iload_n (i := 1) F dX9_ofRank_15 rfl rfl ?_
        refine jm_icmp_ne F dX9_ofRank_16 (fun c4 => ?_) (fun c4 => ?_)
        · refine jm_iload_n (i := 2) F dX9_ofRank_19 rfl rfl ?_
          exact jm_iret F dX9_ofRank_20 (fun h => h)
        · refine jm_iinc (i := 2) (lv' := [some (.ref (jm_a E 0 0)), some (.int p1), some (.int (s1 + 1))]) F dX9_ofRank_21 kc_1 rfl (by decide) rfl rfl ?_
          refine jm_goto F dX9_ofRank_24 ?_
          exact jm_weakD F (lv' := [some (.ref (jm_a E 0 0)), some (.int p1), some (.int (s1 + 1))]) ⟨rfl, rfl, rfl, trivial⟩ (fun h => h)
    · refine jm_bipush F dX9_ofRank_27 kb_m9 ?_
      exact jm_iret F dX9_ofRank_29 (fun h => h)
  exact G r h hz
theorem dX9_toRead_0 : jm_d cX9_toRead 0 (.bipush (-9)) 2 2 := ⟨by decide +kernel, rfl⟩
theorem dX9_toRead_2 : jm_d cX9_toRead 2 (.istore_n 2) 1 3 := ⟨by decide +kernel, rfl⟩
theorem dX9_toRead_3 : jm_d cX9_toRead 3 (.iconst 0) 1 4 := ⟨by decide +kernel, rfl⟩
theorem dX9_toRead_4 : jm_d cX9_toRead 4 (.istore_n 3) 1 5 := ⟨by decide +kernel, rfl⟩
theorem dX9_toRead_5 : jm_d cX9_toRead 5 (.iload_n 3) 1 6 := ⟨by decide +kernel, rfl⟩
theorem dX9_toRead_6 : jm_d cX9_toRead 6 (.aload_n 0) 1 7 := ⟨by decide +kernel, rfl⟩
theorem dX9_toRead_7 : jm_d cX9_toRead 7 (.getfield 106) 3 10 := ⟨by decide +kernel, rfl⟩
theorem dX9_toRead_10 : jm_b cX9_toRead 10 (.if_icmp .ge) 13 57 := ⟨47, by decide +kernel, rfl, by decide⟩
theorem dX9_toRead_13 : jm_d cX9_toRead 13 (.aload_n 0) 1 14 := ⟨by decide +kernel, rfl⟩
theorem dX9_toRead_14 : jm_d cX9_toRead 14 (.getfield 31) 3 17 := ⟨by decide +kernel, rfl⟩
theorem dX9_toRead_17 : jm_d cX9_toRead 17 (.iload_n 3) 1 18 := ⟨by decide +kernel, rfl⟩
theorem dX9_toRead_18 : jm_d cX9_toRead 18 (.iaload) 1 19 := ⟨by decide +kernel, rfl⟩
theorem dX9_toRead_19 : jm_d cX9_toRead 19 (.iload_n 1) 1 20 := ⟨by decide +kernel, rfl⟩
theorem dX9_toRead_20 : jm_b cX9_toRead 20 (.if_icmp .ne) 23 51 := ⟨31, by decide +kernel, rfl, by decide⟩
theorem dX9_toRead_23 : jm_d cX9_toRead 23 (.aload_n 0) 1 24 := ⟨by decide +kernel, rfl⟩
theorem dX9_toRead_24 : jm_d cX9_toRead 24 (.getfield 34) 3 27 := ⟨by decide +kernel, rfl⟩
theorem dX9_toRead_27 : jm_d cX9_toRead 27 (.iload_n 3) 1 28 := ⟨by decide +kernel, rfl⟩
theorem dX9_toRead_28 : jm_d cX9_toRead 28 (.iaload) 1 29 := ⟨by decide +kernel, rfl⟩
theorem dX9_toRead_29 : jm_d cX9_toRead 29 (.iload_n 1) 1 30 := ⟨by decide +kernel, rfl⟩
theorem dX9_toRead_30 : jm_d cX9_toRead 30 (.invokestatic 132) 3 33 := ⟨by decide +kernel, rfl⟩
theorem dX9_toRead_33 : jm_b cX9_toRead 33 (.ifCond .ne) 36 51 := ⟨18, by decide +kernel, rfl, by decide⟩
theorem dX9_toRead_36 : jm_d cX9_toRead 36 (.iload_n 2) 1 37 := ⟨by decide +kernel, rfl⟩
theorem dX9_toRead_37 : jm_b cX9_toRead 37 (.ifCond .lt) 40 49 := ⟨12, by decide +kernel, rfl, by decide⟩
theorem dX9_toRead_49 : jm_d cX9_toRead 49 (.iload_n 3) 1 50 := ⟨by decide +kernel, rfl⟩
theorem dX9_toRead_50 : jm_d cX9_toRead 50 (.istore_n 2) 1 51 := ⟨by decide +kernel, rfl⟩
theorem dX9_toRead_51 : jm_d cX9_toRead 51 (.iinc 3 1) 3 54 := ⟨by decide +kernel, rfl⟩
theorem dX9_toRead_54 : jm_b cX9_toRead 54 .goto 57 5 := ⟨(-49), by decide +kernel, rfl, by decide⟩
theorem dX9_toRead_40 : jm_d cX9_toRead 40 (.aload_n 0) 1 41 := ⟨by decide +kernel, rfl⟩
theorem dX9_toRead_41 : jm_d cX9_toRead 41 (.iload_n 3) 1 42 := ⟨by decide +kernel, rfl⟩
theorem dX9_toRead_42 : jm_d cX9_toRead 42 (.iload_n 2) 1 43 := ⟨by decide +kernel, rfl⟩
theorem dX9_toRead_43 : jm_d cX9_toRead 43 (.invokevirtual 146) 3 46 := ⟨by decide +kernel, rfl⟩
theorem dX9_toRead_46 : jm_b cX9_toRead 46 (.ifCond .ge) 49 51 := ⟨5, by decide +kernel, rfl, by decide⟩
theorem dX9_toRead_57 : jm_d cX9_toRead 57 (.iload_n 2) 1 58 := ⟨by decide +kernel, rfl⟩
theorem dX9_toRead_58 : jm_d cX9_toRead 58 (.ireturn) 1 59 := ⟨by decide +kernel, rfl⟩
set_option maxHeartbeats 4000000 in
set_option maxRecDepth 100000 in
theorem kM_toRead (E : jm_Ev) (hE : jm_dj E jm_LM) {M : jm_M} {p1 : Int32}  {r : Int32} (h : sM_toRead M p1 = some r) : jm_Ct E jm_LM yX9_toRead cX9_toRead 4 (some .int) 1 25 [.ref (jm_a E 0 0), .int p1] M (some (.int r)) M := by
  refine jm_enter (lv := [some (.ref (jm_a E 0 0)), some (.int p1), none, none]) hE (by decide) (Nat.le_of_ble_eq_true rfl) rfl ?_
  intro z w F hz
  have G : jm_G w 0 [some (.ref (jm_a E 0 0)), some (.int p1), none, none] [] M (sM_toRead M p1) (fun e => z (some (.int e)) M) := by
    unfold sM_toRead
    refine jm_bipush F dX9_toRead_0 kb_m9 ?_
    refine jm_istore_n (i := 2) (lv' := [some (.ref (jm_a E 0 0)), some (.int p1), some (.int (-9)), none]) F dX9_toRead_2 rfl (by decide) rfl rfl ?_
    refine jm_iconst F dX9_toRead_3 kc_0 ?_
    refine jm_istore_n (i := 3) (lv' := [some (.ref (jm_a E 0 0)), some (.int p1), some (.int (-9)), some (.int 0)]) F dX9_toRead_4 rfl (by decide) rfl rfl ?_
    refine jm_bind (pcJ := 57) (lvJ := fun e11 => [none, none, some (.int e11), none]) (stJ := fun _ => []) (MJ := fun e11 => M) ?_ (fun e11 => ?_)
    · refine jm_weak F (lv' := [some (.ref (jm_a E 0 0)), some (.int p1), some (.int (-9)), some (.int 0)]) ⟨rfl, rfl, rfl, rfl, trivial⟩ ?_
      refine jm_loopR (lvH := fun s1 => [some (.ref (jm_a E 0 0)), some (.int p1), some (.int s1.1), some (.int s1.2)]) (MH := fun s1 => M) (fun s1 => ?_) jm_N ((-9), 0)
      unfold sM_toRead_L5
      refine jm_iload_n (i := 3) F dX9_toRead_5 rfl rfl ?_
      refine jm_aload_n (i := 0) F dX9_toRead_6 rfl rfl ?_
      refine jm_getI F dX9_toRead_7 fl_X9_106 lo_X9 rfl ?_
      refine jm_icmp_ge F dX9_toRead_10 (fun c2 => ?_) (fun c2 => ?_)
      · exact jm_weakD F (lv' := [none, none, some (.int s1.1), none]) ⟨rfl, trivial⟩ (fun h => h)
      · refine jm_aload_n (i := 0) F dX9_toRead_13 rfl rfl ?_
        refine jm_getR F dX9_toRead_14 fl_X9_31 lo_X9 rfl ?_
        refine jm_iload_n (i := 3) F dX9_toRead_17 rfl rfl ?_
        refine jm_iald F dX9_toRead_18 la_X9_8 (fun v3 => ?_)
        refine jm_iload_n (i := 1) F dX9_toRead_19 rfl rfl ?_
        refine jm_icmp_ne F dX9_toRead_20 (fun c4 => ?_) (fun c4 => ?_)
        · refine jm_aload_n (i := 0) F dX9_toRead_23 rfl rfl ?_
          refine jm_getR F dX9_toRead_24 fl_X9_34 lo_X9 rfl ?_
          refine jm_iload_n (i := 3) F dX9_toRead_27 rfl rfl ?_
          refine jm_iald F dX9_toRead_28 la_X9_9 (fun v5 => ?_)
          refine jm_iload_n (i := 1) F dX9_toRead_29 rfl rfl ?_
          refine jm_callS (As := [.int v5, .int p1]) (st := []) (rv := fun r => some (.int r)) (mm := fun _ => M) F dX9_toRead_30 qX9_132 rfl (fun r h => kM_has E hE h) rfl (Nat.le_of_ble_eq_true rfl) ⟨Nat.le_of_ble_eq_true rfl, Nat.le_of_ble_eq_true rfl⟩ (fun r6 => ?_)
          refine jm_if_ne F dX9_toRead_33 (fun c7 => ?_) (fun c7 => ?_)
          · refine jm_iload_n (i := 2) F dX9_toRead_36 rfl rfl ?_
            refine jm_if_lt F dX9_toRead_37 (fun c8 => ?_) (fun c8 => ?_)
            · refine jm_iload_n (i := 3) F dX9_toRead_49 rfl rfl ?_
              refine jm_istore_n (i := 2) (lv' := [some (.ref (jm_a E 0 0)), some (.int p1), some (.int s1.2), some (.int s1.2)]) F dX9_toRead_50 rfl (by decide) rfl rfl ?_
              refine jm_iinc (i := 3) (lv' := [some (.ref (jm_a E 0 0)), some (.int p1), some (.int s1.2), some (.int (s1.2 + 1))]) F dX9_toRead_51 kc_1 rfl (by decide) rfl rfl ?_
              refine jm_goto F dX9_toRead_54 ?_
              exact jm_weakD F (lv' := [some (.ref (jm_a E 0 0)), some (.int p1), some (.int s1.2), some (.int (s1.2 + 1))]) ⟨rfl, rfl, rfl, rfl, trivial⟩ (fun h => h)
            · refine jm_aload_n (i := 0) F dX9_toRead_40 rfl rfl ?_
              refine jm_iload_n (i := 3) F dX9_toRead_41 rfl rfl ?_
              refine jm_iload_n (i := 2) F dX9_toRead_42 rfl rfl ?_
              refine jm_callV (As := [.int s1.2, .int s1.1]) (st := []) (rv := fun r => some (.int r)) (mm := fun _ => M) F dX9_toRead_43 qX9_146 rfl lo_X9 rfl (fun r h => kM_compares E hE h) rfl (Nat.le_of_ble_eq_true rfl) ⟨Nat.le_of_ble_eq_true rfl, Nat.le_of_ble_eq_true rfl⟩ (fun r9 => ?_)
              refine jm_if_ge F dX9_toRead_46 (fun c10 => ?_) (fun c10 => ?_)
              · refine jm_iinc (i := 3) (lv' := [some (.ref (jm_a E 0 0)), some (.int p1), some (.int s1.1), some (.int (s1.2 + 1))]) F dX9_toRead_51 kc_1 rfl (by decide) rfl rfl ?_
                refine jm_goto F dX9_toRead_54 ?_
                exact jm_weakD F (lv' := [some (.ref (jm_a E 0 0)), some (.int p1), some (.int s1.1), some (.int (s1.2 + 1))]) ⟨rfl, rfl, rfl, rfl, trivial⟩ (fun h => h)
              · refine jm_iload_n (i := 3) F dX9_toRead_49 rfl rfl ?_
                refine jm_istore_n (i := 2) (lv' := [some (.ref (jm_a E 0 0)), some (.int p1), some (.int s1.2), some (.int s1.2)]) F dX9_toRead_50 rfl (by decide) rfl rfl ?_
                refine jm_iinc (i := 3) (lv' := [some (.ref (jm_a E 0 0)), some (.int p1), some (.int s1.2), some (.int (s1.2 + 1))]) F dX9_toRead_51 kc_1 rfl (by decide) rfl rfl ?_
                refine jm_goto F dX9_toRead_54 ?_
                exact jm_weakD F (lv' := [some (.ref (jm_a E 0 0)), some (.int p1), some (.int s1.2), some (.int (s1.2 + 1))]) ⟨rfl, rfl, rfl, rfl, trivial⟩ (fun h => h)
          · refine jm_iinc (i := 3) (lv' := [some (.ref (jm_a E 0 0)), some (.int p1), some (.int s1.1), some (.int (s1.2 + 1))]) F dX9_toRead_51 kc_1 rfl (by decide) rfl rfl ?_
            refine jm_goto F dX9_toRead_54 ?_
            exact jm_weakD F (lv' := [some (.ref (jm_a E 0 0)), some (.int p1), some (.int s1.1), some (.int (s1.2 + 1))]) ⟨rfl, rfl, rfl, rfl, trivial⟩ (fun h => h)
        · refine jm_iinc (i := 3) (lv' := [some (.ref (jm_a E 0 0)), some (.int p1), some (.int s1.1), some (.int (s1.2 + 1))]) F dX9_toRead_51 kc_1 rfl (by decide) rfl rfl ?_
          refine jm_goto F dX9_toRead_54 ?_
          exact jm_weakD F (lv' := [some (.ref (jm_a E 0 0)), some (.int p1), some (.int s1.1), some (.int (s1.2 + 1))]) ⟨rfl, rfl, rfl, rfl, trivial⟩ (fun h => h)
    · refine jm_iload_n (i := 2) F dX9_toRead_57 rfl rfl ?_
      exact jm_iret F dX9_toRead_58 (fun h => h)
  exact G r h hz
theorem dX9_goesPerson_0 : jm_d cX9_goesPerson 0 (.aload_n 0) 1 1 := ⟨by decide +kernel, rfl⟩
theorem dX9_goesPerson_1 : jm_d cX9_goesPerson 1 (.getfield 116) 3 4 := ⟨by decide +kernel, rfl⟩
theorem dX9_goesPerson_4 : jm_d cX9_goesPerson 4 (.aload_n 0) 1 5 := ⟨by decide +kernel, rfl⟩
theorem dX9_goesPerson_5 : jm_d cX9_goesPerson 5 (.getfield 16) 3 8 := ⟨by decide +kernel, rfl⟩
theorem dX9_goesPerson_8 : jm_d cX9_goesPerson 8 (.iload_n 1) 1 9 := ⟨by decide +kernel, rfl⟩
theorem dX9_goesPerson_9 : jm_d cX9_goesPerson 9 (.iaload) 1 10 := ⟨by decide +kernel, rfl⟩
theorem dX9_goesPerson_10 : jm_d cX9_goesPerson 10 (.iconst 2) 1 11 := ⟨by decide +kernel, rfl⟩
theorem dX9_goesPerson_11 : jm_d cX9_goesPerson 11 (.iadd) 1 12 := ⟨by decide +kernel, rfl⟩
theorem dX9_goesPerson_12 : jm_d cX9_goesPerson 12 (.irem) 1 13 := ⟨by decide +kernel, rfl⟩
theorem dX9_goesPerson_13 : jm_b cX9_goesPerson 13 (.ifCond .ne) 16 37 := ⟨24, by decide +kernel, rfl, by decide⟩
theorem dX9_goesPerson_16 : jm_d cX9_goesPerson 16 (.aload_n 0) 1 17 := ⟨by decide +kernel, rfl⟩
theorem dX9_goesPerson_17 : jm_d cX9_goesPerson 17 (.getfield 13) 3 20 := ⟨by decide +kernel, rfl⟩
theorem dX9_goesPerson_20 : jm_d cX9_goesPerson 20 (.iload_n 1) 1 21 := ⟨by decide +kernel, rfl⟩
theorem dX9_goesPerson_21 : jm_d cX9_goesPerson 21 (.iaload) 1 22 := ⟨by decide +kernel, rfl⟩
theorem dX9_goesPerson_22 : jm_d cX9_goesPerson 22 (.bipush 99) 2 24 := ⟨by decide +kernel, rfl⟩
theorem dX9_goesPerson_24 : jm_b cX9_goesPerson 24 (.if_icmp .ge) 27 37 := ⟨13, by decide +kernel, rfl, by decide⟩
theorem dX9_goesPerson_27 : jm_d cX9_goesPerson 27 (.aload_n 0) 1 28 := ⟨by decide +kernel, rfl⟩
theorem dX9_goesPerson_28 : jm_d cX9_goesPerson 28 (.getfield 13) 3 31 := ⟨by decide +kernel, rfl⟩
theorem dX9_goesPerson_31 : jm_d cX9_goesPerson 31 (.iload_n 1) 1 32 := ⟨by decide +kernel, rfl⟩
theorem dX9_goesPerson_32 : jm_d cX9_goesPerson 32 (.dup2) 1 33 := ⟨by decide +kernel, rfl⟩
theorem dX9_goesPerson_33 : jm_d cX9_goesPerson 33 (.iaload) 1 34 := ⟨by decide +kernel, rfl⟩
theorem dX9_goesPerson_34 : jm_d cX9_goesPerson 34 (.iconst 1) 1 35 := ⟨by decide +kernel, rfl⟩
theorem dX9_goesPerson_35 : jm_d cX9_goesPerson 35 (.iadd) 1 36 := ⟨by decide +kernel, rfl⟩
theorem dX9_goesPerson_36 : jm_d cX9_goesPerson 36 (.iastore) 1 37 := ⟨by decide +kernel, rfl⟩
theorem dX9_goesPerson_37 : jm_d cX9_goesPerson 37 (.aload_n 0) 1 38 := ⟨by decide +kernel, rfl⟩
theorem dX9_goesPerson_38 : jm_d cX9_goesPerson 38 (.getfield 152) 3 41 := ⟨by decide +kernel, rfl⟩
theorem dX9_goesPerson_41 : jm_b cX9_goesPerson 41 (.ifCond .eq) 44 49 := ⟨8, by decide +kernel, rfl, by decide⟩
theorem dX9_goesPerson_49 : jm_d cX9_goesPerson 49 (.aload_n 0) 1 50 := ⟨by decide +kernel, rfl⟩
theorem dX9_goesPerson_50 : jm_d cX9_goesPerson 50 (.iload_n 1) 1 51 := ⟨by decide +kernel, rfl⟩
theorem dX9_goesPerson_51 : jm_d cX9_goesPerson 51 (.invokevirtual 156) 3 54 := ⟨by decide +kernel, rfl⟩
theorem dX9_goesPerson_44 : jm_d cX9_goesPerson 44 (.bipush (-9)) 2 46 := ⟨by decide +kernel, rfl⟩
theorem dX9_goesPerson_46 : jm_b cX9_goesPerson 46 .goto 49 54 := ⟨8, by decide +kernel, rfl, by decide⟩
theorem dX9_goesPerson_54 : jm_d cX9_goesPerson 54 (.istore_n 2) 1 55 := ⟨by decide +kernel, rfl⟩
theorem dX9_goesPerson_55 : jm_d cX9_goesPerson 55 (.iload_n 2) 1 56 := ⟨by decide +kernel, rfl⟩
theorem dX9_goesPerson_56 : jm_b cX9_goesPerson 56 (.ifCond .ge) 59 60 := ⟨4, by decide +kernel, rfl, by decide⟩
theorem dX9_goesPerson_60 : jm_d cX9_goesPerson 60 (.aload_n 0) 1 61 := ⟨by decide +kernel, rfl⟩
theorem dX9_goesPerson_61 : jm_d cX9_goesPerson 61 (.getfield 34) 3 64 := ⟨by decide +kernel, rfl⟩
theorem dX9_goesPerson_64 : jm_d cX9_goesPerson 64 (.iload_n 2) 1 65 := ⟨by decide +kernel, rfl⟩
theorem dX9_goesPerson_65 : jm_d cX9_goesPerson 65 (.dup2) 1 66 := ⟨by decide +kernel, rfl⟩
theorem dX9_goesPerson_66 : jm_d cX9_goesPerson 66 (.iaload) 1 67 := ⟨by decide +kernel, rfl⟩
theorem dX9_goesPerson_67 : jm_d cX9_goesPerson 67 (.iconst 1) 1 68 := ⟨by decide +kernel, rfl⟩
theorem dX9_goesPerson_68 : jm_d cX9_goesPerson 68 (.iload_n 1) 1 69 := ⟨by decide +kernel, rfl⟩
theorem dX9_goesPerson_69 : jm_d cX9_goesPerson 69 (.ishl) 1 70 := ⟨by decide +kernel, rfl⟩
theorem dX9_goesPerson_70 : jm_d cX9_goesPerson 70 (.ior) 1 71 := ⟨by decide +kernel, rfl⟩
theorem dX9_goesPerson_71 : jm_d cX9_goesPerson 71 (.iastore) 1 72 := ⟨by decide +kernel, rfl⟩
theorem dX9_goesPerson_72 : jm_d cX9_goesPerson 72 (.aload_n 0) 1 73 := ⟨by decide +kernel, rfl⟩
theorem dX9_goesPerson_73 : jm_d cX9_goesPerson 73 (.getfield 31) 3 76 := ⟨by decide +kernel, rfl⟩
theorem dX9_goesPerson_76 : jm_d cX9_goesPerson 76 (.iload_n 2) 1 77 := ⟨by decide +kernel, rfl⟩
theorem dX9_goesPerson_77 : jm_d cX9_goesPerson 77 (.aload_n 0) 1 78 := ⟨by decide +kernel, rfl⟩
theorem dX9_goesPerson_78 : jm_d cX9_goesPerson 78 (.getfield 28) 3 81 := ⟨by decide +kernel, rfl⟩
theorem dX9_goesPerson_81 : jm_d cX9_goesPerson 81 (.iload_n 2) 1 82 := ⟨by decide +kernel, rfl⟩
theorem dX9_goesPerson_82 : jm_d cX9_goesPerson 82 (.iaload) 1 83 := ⟨by decide +kernel, rfl⟩
theorem dX9_goesPerson_83 : jm_d cX9_goesPerson 83 (.iastore) 1 84 := ⟨by decide +kernel, rfl⟩
theorem dX9_goesPerson_84 : jm_d cX9_goesPerson 84 (.return_) 1 85 := ⟨by decide +kernel, rfl⟩
theorem dX9_goesPerson_59 : jm_d cX9_goesPerson 59 (.return_) 1 60 := ⟨by decide +kernel, rfl⟩
set_option maxHeartbeats 4000000 in
set_option maxRecDepth 100000 in
theorem kM_goesPerson (E : jm_Ev) (hE : jm_dj E jm_LM) {M : jm_M} {p1 : Int32}  {r : jm_M} (h : sM_goesPerson M p1 = some r) : jm_Ct E jm_LM yX9_goesPerson cX9_goesPerson 3 none 2 48 [.ref (jm_a E 0 0), .int p1] M none r := by
  refine jm_enter (lv := [some (.ref (jm_a E 0 0)), some (.int p1), none]) hE (by decide) (Nat.le_of_ble_eq_true rfl) rfl ?_
  intro z w F hz
  have G : jm_G w 0 [some (.ref (jm_a E 0 0)), some (.int p1), none] [] M (sM_goesPerson M p1) (fun e => z none e) := by
    unfold sM_goesPerson
    refine jm_aload_n (i := 0) F dX9_goesPerson_0 rfl rfl ?_
    refine jm_getI F dX9_goesPerson_1 fl_X9_116 lo_X9 rfl ?_
    refine jm_aload_n (i := 0) F dX9_goesPerson_4 rfl rfl ?_
    refine jm_getR F dX9_goesPerson_5 fl_X9_16 lo_X9 rfl ?_
    refine jm_iload_n (i := 1) F dX9_goesPerson_8 rfl rfl ?_
    refine jm_iald F dX9_goesPerson_9 la_X9_3 (fun v1 => ?_)
    refine jm_iconst F dX9_goesPerson_10 kc_2 ?_
    refine jm_iadd F dX9_goesPerson_11 ?_
    refine jm_irem F dX9_goesPerson_12 (fun v2 => ?_)
    refine jm_bind (pcJ := 37) (lvJ := fun e3 => [some (.ref (jm_a E 0 0)), some (.int p1), none]) (stJ := fun e3 => []) (MJ := fun e3 => e3) ?_ (fun e3 => ?_)
    · refine jm_if_ne F dX9_goesPerson_13 (fun c4 => ?_) (fun c4 => ?_)
      · refine jm_aload_n (i := 0) F dX9_goesPerson_16 rfl rfl ?_
        refine jm_getR F dX9_goesPerson_17 fl_X9_13 lo_X9 rfl ?_
        refine jm_iload_n (i := 1) F dX9_goesPerson_20 rfl rfl ?_
        refine jm_iald F dX9_goesPerson_21 la_X9_2 (fun v5 => ?_)
        refine jm_bipush F dX9_goesPerson_22 kb_99 ?_
        refine jm_icmp_ge F dX9_goesPerson_24 (fun c6 => ?_) (fun c6 => ?_)
        · exact jm_weakD F (lv' := [some (.ref (jm_a E 0 0)), some (.int p1), none]) ⟨rfl, rfl, trivial⟩ (fun h => h)
        · refine jm_aload_n (i := 0) F dX9_goesPerson_27 rfl rfl ?_
          refine jm_getR F dX9_goesPerson_28 fl_X9_13 lo_X9 rfl ?_
          refine jm_iload_n (i := 1) F dX9_goesPerson_31 rfl rfl ?_
          refine jm_dup2 F dX9_goesPerson_32 rfl rfl ?_
          refine jm_iald F dX9_goesPerson_33 la_X9_2 (fun v7 => ?_)
          refine jm_iconst F dX9_goesPerson_34 kc_1 ?_
          refine jm_iadd F dX9_goesPerson_35 ?_
          refine jm_iast F dX9_goesPerson_36 la_X9_2 (fun M8 => ?_)
          exact jm_weakD F (lv' := [some (.ref (jm_a E 0 0)), some (.int p1), none]) ⟨rfl, rfl, trivial⟩ (fun h => h)
      · exact jm_weakD F (lv' := [some (.ref (jm_a E 0 0)), some (.int p1), none]) ⟨rfl, rfl, trivial⟩ (fun h => h)
    · refine jm_aload_n (i := 0) F dX9_goesPerson_37 rfl rfl ?_
      refine jm_getI F dX9_goesPerson_38 fl_X9_152 lo_X9 rfl ?_
      refine jm_bind (pcJ := 54) (lvJ := fun e9 => [some (.ref (jm_a E 0 0)), some (.int p1), none]) (stJ := fun e9 => [.int e9]) (MJ := fun e9 => e3) ?_ (fun e9 => ?_)
      · refine jm_if_eq F dX9_goesPerson_41 (fun c10 => ?_) (fun c10 => ?_)
        · refine jm_aload_n (i := 0) F dX9_goesPerson_49 rfl rfl ?_
          refine jm_iload_n (i := 1) F dX9_goesPerson_50 rfl rfl ?_
          refine jm_callV (As := [.int p1]) (st := []) (rv := fun r => some (.int r)) (mm := fun _ => e3) F dX9_goesPerson_51 qX9_156 rfl lo_X9 rfl (fun r h => kM_toRead E hE h) rfl (Nat.le_of_ble_eq_true rfl) ⟨Nat.le_of_ble_eq_true rfl, Nat.le_of_ble_eq_true rfl⟩ (fun r11 => ?_)
          exact jm_weakD F (lv' := [some (.ref (jm_a E 0 0)), some (.int p1), none]) ⟨rfl, rfl, trivial⟩ (fun h => h)
        · refine jm_bipush F dX9_goesPerson_44 kb_m9 ?_
          refine jm_goto F dX9_goesPerson_46 ?_
          exact jm_weakD F (lv' := [some (.ref (jm_a E 0 0)), some (.int p1), none]) ⟨rfl, rfl, trivial⟩ (fun h => h)
      · refine jm_istore_n (i := 2) (lv' := [some (.ref (jm_a E 0 0)), some (.int p1), some (.int e9)]) F dX9_goesPerson_54 rfl (by decide) rfl rfl ?_
        refine jm_iload_n (i := 2) F dX9_goesPerson_55 rfl rfl ?_
        refine jm_if_ge F dX9_goesPerson_56 (fun c12 => ?_) (fun c12 => ?_)
        · refine jm_aload_n (i := 0) F dX9_goesPerson_60 rfl rfl ?_
          refine jm_getR F dX9_goesPerson_61 fl_X9_34 lo_X9 rfl ?_
          refine jm_iload_n (i := 2) F dX9_goesPerson_64 rfl rfl ?_
          refine jm_dup2 F dX9_goesPerson_65 rfl rfl ?_
          refine jm_iald F dX9_goesPerson_66 la_X9_9 (fun v13 => ?_)
          refine jm_iconst F dX9_goesPerson_67 kc_1 ?_
          refine jm_iload_n (i := 1) F dX9_goesPerson_68 rfl rfl ?_
          refine jm_ishl F dX9_goesPerson_69 ?_
          refine jm_ior F dX9_goesPerson_70 ?_
          refine jm_iast F dX9_goesPerson_71 la_X9_9 (fun M14 => ?_)
          refine jm_aload_n (i := 0) F dX9_goesPerson_72 rfl rfl ?_
          refine jm_getR F dX9_goesPerson_73 fl_X9_31 lo_X9 rfl ?_
          refine jm_iload_n (i := 2) F dX9_goesPerson_76 rfl rfl ?_
          refine jm_aload_n (i := 0) F dX9_goesPerson_77 rfl rfl ?_
          refine jm_getR F dX9_goesPerson_78 fl_X9_28 lo_X9 rfl ?_
          refine jm_iload_n (i := 2) F dX9_goesPerson_81 rfl rfl ?_
          refine jm_iald F dX9_goesPerson_82 la_X9_7 (fun v15 => ?_)
          refine jm_iast F dX9_goesPerson_83 la_X9_8 (fun M16 => ?_)
          exact jm_vret F dX9_goesPerson_84 (fun h => h)
        · exact jm_vret F dX9_goesPerson_59 (fun h => h)
  exact G r h hz
